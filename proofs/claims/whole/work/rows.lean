section
-- ===== PART A: goes FIRST, ahead of the names: the tables' words, and 'selects' of the private methods out of them =====
/-- a private method of a class that the tables say can be made, by its rows of tables_1 -/
def lw_okq (q : MethodName × Nat) : Prop := (q.1.cls ≠ "java/lang/invoke/MethodHandle" ∧ q.1.cls ≠ "java/lang/invoke/VarHandle") ∧ Cond.instantiable q.1.cls q.2 ∈ tables_1 ∧ Cond.privateMethod q.1 ∈ tables_1 ∧ Cond.instanceMethod q.1 ∈ tables_1
theorem lw_p0 : lw_okq (⟨"DelayMachine$Machine", "takeOrder", "()V"⟩, 14) := ⟨⟨by decide +kernel, by decide +kernel⟩, List.mem_of_getElem? (i := 85) (by decide +kernel), List.mem_of_getElem? (i := 335) (by decide +kernel), List.mem_of_getElem? (i := 336) (by decide +kernel)⟩
theorem lw_p1 : lw_okq (⟨"DelayMachine$Window", "lastOf", "(I)I"⟩, 5) := ⟨⟨by decide +kernel, by decide +kernel⟩, List.mem_of_getElem? (i := 108) (by decide +kernel), List.mem_of_getElem? (i := 343) (by decide +kernel), List.mem_of_getElem? (i := 344) (by decide +kernel)⟩
theorem lw_p2 : lw_okq (⟨"DelayMachine$Machine", "move", "(LDelayMachine$Window;)V"⟩, 14) := ⟨⟨by decide +kernel, by decide +kernel⟩, List.mem_of_getElem? (i := 85) (by decide +kernel), List.mem_of_getElem? (i := 351) (by decide +kernel), List.mem_of_getElem? (i := 352) (by decide +kernel)⟩
theorem lw_p3 : lw_okq (⟨"DelayMachine$Machine", "sourceWord", "(I)S"⟩, 14) := ⟨⟨by decide +kernel, by decide +kernel⟩, List.mem_of_getElem? (i := 85) (by decide +kernel), List.mem_of_getElem? (i := 355) (by decide +kernel), List.mem_of_getElem? (i := 356) (by decide +kernel)⟩
theorem lw_p4 : lw_okq (⟨"DelayMachine$Reader", "offset", "(I)I"⟩, 6) := ⟨⟨by decide +kernel, by decide +kernel⟩, List.mem_of_getElem? (i := 42) (by decide +kernel), List.mem_of_getElem? (i := 363) (by decide +kernel), List.mem_of_getElem? (i := 364) (by decide +kernel)⟩
theorem lw_p5 : lw_okq (⟨"DelayMachine$Machine", "discriminate", "(LDelayMachine$Window;Z)V"⟩, 14) := ⟨⟨by decide +kernel, by decide +kernel⟩, List.mem_of_getElem? (i := 85) (by decide +kernel), List.mem_of_getElem? (i := 370) (by decide +kernel), List.mem_of_getElem? (i := 371) (by decide +kernel)⟩
theorem lw_p6 : lw_okq (⟨"DelayMachine$Machine", "deliver", "(SI)V"⟩, 14) := ⟨⟨by decide +kernel, by decide +kernel⟩, List.mem_of_getElem? (i := 85) (by decide +kernel), List.mem_of_getElem? (i := 374) (by decide +kernel), List.mem_of_getElem? (i := 375) (by decide +kernel)⟩
theorem lw_p7 : lw_okq (⟨"DelayMachine$Machine", "stopBy", "(I)V"⟩, 14) := ⟨⟨by decide +kernel, by decide +kernel⟩, List.mem_of_getElem? (i := 85) (by decide +kernel), List.mem_of_getElem? (i := 394) (by decide +kernel), List.mem_of_getElem? (i := 395) (by decide +kernel)⟩
theorem lw_p8 : lw_okq (⟨"DelayMachine$Placing", "forget", "()V"⟩, 9) := ⟨⟨by decide +kernel, by decide +kernel⟩, List.mem_of_getElem? (i := 215) (by decide +kernel), List.mem_of_getElem? (i := 460) (by decide +kernel), List.mem_of_getElem? (i := 461) (by decide +kernel)⟩
theorem lw_p9 : lw_okq (⟨"DelayMachine$Placing", "freeSpot", "()I"⟩, 9) := ⟨⟨by decide +kernel, by decide +kernel⟩, List.mem_of_getElem? (i := 215) (by decide +kernel), List.mem_of_getElem? (i := 464) (by decide +kernel), List.mem_of_getElem? (i := 465) (by decide +kernel)⟩
theorem lw_p10 : lw_okq (⟨"DelayMachine$Placing", "isFree", "(II)Z"⟩, 9) := ⟨⟨by decide +kernel, by decide +kernel⟩, List.mem_of_getElem? (i := 215) (by decide +kernel), List.mem_of_getElem? (i := 468) (by decide +kernel), List.mem_of_getElem? (i := 469) (by decide +kernel)⟩
theorem lw_p11 : lw_okq (⟨"DelayMachine$Placing", "placeStatement", "(LDelayMachine$Program;I)V"⟩, 9) := ⟨⟨by decide +kernel, by decide +kernel⟩, List.mem_of_getElem? (i := 215) (by decide +kernel), List.mem_of_getElem? (i := 472) (by decide +kernel), List.mem_of_getElem? (i := 473) (by decide +kernel)⟩
theorem lw_p12 : lw_okq (⟨"DelayMachine$Placing", "placeOrder", "(III)V"⟩, 9) := ⟨⟨by decide +kernel, by decide +kernel⟩, List.mem_of_getElem? (i := 215) (by decide +kernel), List.mem_of_getElem? (i := 476) (by decide +kernel), List.mem_of_getElem? (i := 477) (by decide +kernel)⟩
theorem lw_p13 : lw_okq (⟨"DelayMachine$Placing", "variablePlace", "(II)I"⟩, 9) := ⟨⟨by decide +kernel, by decide +kernel⟩, List.mem_of_getElem? (i := 215) (by decide +kernel), List.mem_of_getElem? (i := 480) (by decide +kernel), List.mem_of_getElem? (i := 481) (by decide +kernel)⟩
theorem lw_p14 : lw_okq (⟨"DelayMachine$Placing", "occupy", "(II)V"⟩, 9) := ⟨⟨by decide +kernel, by decide +kernel⟩, List.mem_of_getElem? (i := 215) (by decide +kernel), List.mem_of_getElem? (i := 484) (by decide +kernel), List.mem_of_getElem? (i := 485) (by decide +kernel)⟩
theorem lw_p15 : lw_okq (⟨"DelayMachine$Placing", "lead", "(II)V"⟩, 9) := ⟨⟨by decide +kernel, by decide +kernel⟩, List.mem_of_getElem? (i := 215) (by decide +kernel), List.mem_of_getElem? (i := 488) (by decide +kernel), List.mem_of_getElem? (i := 489) (by decide +kernel)⟩
def lw_privs_1 : List (MethodName × Nat) := [(⟨"DelayMachine$Machine", "takeOrder", "()V"⟩, 14), (⟨"DelayMachine$Window", "lastOf", "(I)I"⟩, 5), (⟨"DelayMachine$Machine", "move", "(LDelayMachine$Window;)V"⟩, 14), (⟨"DelayMachine$Machine", "sourceWord", "(I)S"⟩, 14), (⟨"DelayMachine$Reader", "offset", "(I)I"⟩, 6), (⟨"DelayMachine$Machine", "discriminate", "(LDelayMachine$Window;Z)V"⟩, 14), (⟨"DelayMachine$Machine", "deliver", "(SI)V"⟩, 14), (⟨"DelayMachine$Machine", "stopBy", "(I)V"⟩, 14), (⟨"DelayMachine$Placing", "forget", "()V"⟩, 9), (⟨"DelayMachine$Placing", "freeSpot", "()I"⟩, 9), (⟨"DelayMachine$Placing", "isFree", "(II)Z"⟩, 9), (⟨"DelayMachine$Placing", "placeStatement", "(LDelayMachine$Program;I)V"⟩, 9), (⟨"DelayMachine$Placing", "placeOrder", "(III)V"⟩, 9), (⟨"DelayMachine$Placing", "variablePlace", "(II)I"⟩, 9), (⟨"DelayMachine$Placing", "occupy", "(II)V"⟩, 9), (⟨"DelayMachine$Placing", "lead", "(II)V"⟩, 9)]
theorem lw_r1 : ∀ q ∈ lw_privs_1, lw_okq q := List.forall_mem_cons.mpr ⟨lw_p0, List.forall_mem_cons.mpr ⟨lw_p1, List.forall_mem_cons.mpr ⟨lw_p2, List.forall_mem_cons.mpr ⟨lw_p3, List.forall_mem_cons.mpr ⟨lw_p4, List.forall_mem_cons.mpr ⟨lw_p5, List.forall_mem_cons.mpr ⟨lw_p6, List.forall_mem_cons.mpr ⟨lw_p7, List.forall_mem_cons.mpr ⟨lw_p8, List.forall_mem_cons.mpr ⟨lw_p9, List.forall_mem_cons.mpr ⟨lw_p10, List.forall_mem_cons.mpr ⟨lw_p11, List.forall_mem_cons.mpr ⟨lw_p12, List.forall_mem_cons.mpr ⟨lw_p13, List.forall_mem_cons.mpr ⟨lw_p14, List.forall_mem_cons.mpr ⟨lw_p15, fun _ h => absurd h List.not_mem_nil⟩⟩⟩⟩⟩⟩⟩⟩⟩⟩⟩⟩⟩⟩⟩⟩
theorem lw_p16 : lw_okq (⟨"DelayMachine$Placing", "placeFork", "(I)V"⟩, 9) := ⟨⟨by decide +kernel, by decide +kernel⟩, List.mem_of_getElem? (i := 215) (by decide +kernel), List.mem_of_getElem? (i := 492) (by decide +kernel), List.mem_of_getElem? (i := 493) (by decide +kernel)⟩
theorem lw_p17 : lw_okq (⟨"DelayMachine$Placing", "forkSpot", "()I"⟩, 9) := ⟨⟨by decide +kernel, by decide +kernel⟩, List.mem_of_getElem? (i := 215) (by decide +kernel), List.mem_of_getElem? (i := 496) (by decide +kernel), List.mem_of_getElem? (i := 497) (by decide +kernel)⟩
theorem lw_p18 : lw_okq (⟨"DelayMachine$Placing", "placeStop", "()V"⟩, 9) := ⟨⟨by decide +kernel, by decide +kernel⟩, List.mem_of_getElem? (i := 215) (by decide +kernel), List.mem_of_getElem? (i := 500) (by decide +kernel), List.mem_of_getElem? (i := 501) (by decide +kernel)⟩
theorem lw_p19 : lw_okq (⟨"DelayMachine$Placing", "leadBranches", "(LDelayMachine$Program;)V"⟩, 9) := ⟨⟨by decide +kernel, by decide +kernel⟩, List.mem_of_getElem? (i := 215) (by decide +kernel), List.mem_of_getElem? (i := 509) (by decide +kernel), List.mem_of_getElem? (i := 510) (by decide +kernel)⟩
theorem lw_p20 : lw_okq (⟨"DelayMachine$Placing", "fillWithStops", "()V"⟩, 9) := ⟨⟨by decide +kernel, by decide +kernel⟩, List.mem_of_getElem? (i := 215) (by decide +kernel), List.mem_of_getElem? (i := 513) (by decide +kernel), List.mem_of_getElem? (i := 514) (by decide +kernel)⟩
theorem lw_p21 : lw_okq (⟨"DelayMachineModel", "cycle", "()V"⟩, 47) := ⟨⟨by decide +kernel, by decide +kernel⟩, List.mem_of_getElem? (i := 529) (by decide +kernel), List.mem_of_getElem? (i := 705) (by decide +kernel), List.mem_of_getElem? (i := 706) (by decide +kernel)⟩
theorem lw_p22 : lw_okq (⟨"DelayMachineModel", "read", "()V"⟩, 47) := ⟨⟨by decide +kernel, by decide +kernel⟩, List.mem_of_getElem? (i := 529) (by decide +kernel), List.mem_of_getElem? (i := 709) (by decide +kernel), List.mem_of_getElem? (i := 710) (by decide +kernel)⟩
theorem lw_p23 : lw_okq (⟨"DelayMachineModel", "row", "()I"⟩, 47) := ⟨⟨by decide +kernel, by decide +kernel⟩, List.mem_of_getElem? (i := 529) (by decide +kernel), List.mem_of_getElem? (i := 719) (by decide +kernel), List.mem_of_getElem? (i := 720) (by decide +kernel)⟩
theorem lw_p24 : lw_okq (⟨"DelayMachineModel", "current", "()I"⟩, 47) := ⟨⟨by decide +kernel, by decide +kernel⟩, List.mem_of_getElem? (i := 529) (by decide +kernel), List.mem_of_getElem? (i := 723) (by decide +kernel), List.mem_of_getElem? (i := 724) (by decide +kernel)⟩
theorem lw_p25 : lw_okq (⟨"DelayMachineModel", "get", "(I)S"⟩, 47) := ⟨⟨by decide +kernel, by decide +kernel⟩, List.mem_of_getElem? (i := 529) (by decide +kernel), List.mem_of_getElem? (i := 727) (by decide +kernel), List.mem_of_getElem? (i := 728) (by decide +kernel)⟩
theorem lw_p26 : lw_okq (⟨"DelayMachineModel", "put", "(IS)V"⟩, 47) := ⟨⟨by decide +kernel, by decide +kernel⟩, List.mem_of_getElem? (i := 529) (by decide +kernel), List.mem_of_getElem? (i := 731) (by decide +kernel), List.mem_of_getElem? (i := 732) (by decide +kernel)⟩
theorem lw_p27 : lw_okq (⟨"DelayMachineModel", "discriminate", "(Z)V"⟩, 47) := ⟨⟨by decide +kernel, by decide +kernel⟩, List.mem_of_getElem? (i := 529) (by decide +kernel), List.mem_of_getElem? (i := 735) (by decide +kernel), List.mem_of_getElem? (i := 736) (by decide +kernel)⟩
theorem lw_p28 : lw_okq (⟨"DelayMachineModel", "feed", "()V"⟩, 47) := ⟨⟨by decide +kernel, by decide +kernel⟩, List.mem_of_getElem? (i := 529) (by decide +kernel), List.mem_of_getElem? (i := 739) (by decide +kernel), List.mem_of_getElem? (i := 740) (by decide +kernel)⟩
theorem lw_p29 : lw_okq (⟨"DelayMachineModel", "fail", "(I)V"⟩, 47) := ⟨⟨by decide +kernel, by decide +kernel⟩, List.mem_of_getElem? (i := 529) (by decide +kernel), List.mem_of_getElem? (i := 743) (by decide +kernel), List.mem_of_getElem? (i := 744) (by decide +kernel)⟩
theorem lw_p30 : lw_okq (⟨"DelayMachineModel", "press", "(S)V"⟩, 47) := ⟨⟨by decide +kernel, by decide +kernel⟩, List.mem_of_getElem? (i := 529) (by decide +kernel), List.mem_of_getElem? (i := 747) (by decide +kernel), List.mem_of_getElem? (i := 748) (by decide +kernel)⟩
theorem lw_p31 : lw_okq (⟨"DelayMachineModel", "multiply", "()V"⟩, 47) := ⟨⟨by decide +kernel, by decide +kernel⟩, List.mem_of_getElem? (i := 529) (by decide +kernel), List.mem_of_getElem? (i := 751) (by decide +kernel), List.mem_of_getElem? (i := 752) (by decide +kernel)⟩
def lw_privs_2 : List (MethodName × Nat) := [(⟨"DelayMachine$Placing", "placeFork", "(I)V"⟩, 9), (⟨"DelayMachine$Placing", "forkSpot", "()I"⟩, 9), (⟨"DelayMachine$Placing", "placeStop", "()V"⟩, 9), (⟨"DelayMachine$Placing", "leadBranches", "(LDelayMachine$Program;)V"⟩, 9), (⟨"DelayMachine$Placing", "fillWithStops", "()V"⟩, 9), (⟨"DelayMachineModel", "cycle", "()V"⟩, 47), (⟨"DelayMachineModel", "read", "()V"⟩, 47), (⟨"DelayMachineModel", "row", "()I"⟩, 47), (⟨"DelayMachineModel", "current", "()I"⟩, 47), (⟨"DelayMachineModel", "get", "(I)S"⟩, 47), (⟨"DelayMachineModel", "put", "(IS)V"⟩, 47), (⟨"DelayMachineModel", "discriminate", "(Z)V"⟩, 47), (⟨"DelayMachineModel", "feed", "()V"⟩, 47), (⟨"DelayMachineModel", "fail", "(I)V"⟩, 47), (⟨"DelayMachineModel", "press", "(S)V"⟩, 47), (⟨"DelayMachineModel", "multiply", "()V"⟩, 47)]
theorem lw_r2 : ∀ q ∈ lw_privs_2, lw_okq q := List.forall_mem_cons.mpr ⟨lw_p16, List.forall_mem_cons.mpr ⟨lw_p17, List.forall_mem_cons.mpr ⟨lw_p18, List.forall_mem_cons.mpr ⟨lw_p19, List.forall_mem_cons.mpr ⟨lw_p20, List.forall_mem_cons.mpr ⟨lw_p21, List.forall_mem_cons.mpr ⟨lw_p22, List.forall_mem_cons.mpr ⟨lw_p23, List.forall_mem_cons.mpr ⟨lw_p24, List.forall_mem_cons.mpr ⟨lw_p25, List.forall_mem_cons.mpr ⟨lw_p26, List.forall_mem_cons.mpr ⟨lw_p27, List.forall_mem_cons.mpr ⟨lw_p28, List.forall_mem_cons.mpr ⟨lw_p29, List.forall_mem_cons.mpr ⟨lw_p30, List.forall_mem_cons.mpr ⟨lw_p31, fun _ h => absurd h List.not_mem_nil⟩⟩⟩⟩⟩⟩⟩⟩⟩⟩⟩⟩⟩⟩⟩⟩
theorem lw_p32 : lw_okq (⟨"DelayMachineModel", "listAll", "()V"⟩, 47) := ⟨⟨by decide +kernel, by decide +kernel⟩, List.mem_of_getElem? (i := 529) (by decide +kernel), List.mem_of_getElem? (i := 787) (by decide +kernel), List.mem_of_getElem? (i := 788) (by decide +kernel)⟩
theorem lw_p33 : lw_okq (⟨"DelayMachineModel", "list", "(IIII)V"⟩, 47) := ⟨⟨by decide +kernel, by decide +kernel⟩, List.mem_of_getElem? (i := 529) (by decide +kernel), List.mem_of_getElem? (i := 791) (by decide +kernel), List.mem_of_getElem? (i := 792) (by decide +kernel)⟩
theorem lw_p34 : lw_okq (⟨"DelayMachineModel", "place", "()Z"⟩, 47) := ⟨⟨by decide +kernel, by decide +kernel⟩, List.mem_of_getElem? (i := 529) (by decide +kernel), List.mem_of_getElem? (i := 795) (by decide +kernel), List.mem_of_getElem? (i := 796) (by decide +kernel)⟩
theorem lw_p35 : lw_okq (⟨"DelayMachineModel", "free", "(IZ)I"⟩, 47) := ⟨⟨by decide +kernel, by decide +kernel⟩, List.mem_of_getElem? (i := 529) (by decide +kernel), List.mem_of_getElem? (i := 799) (by decide +kernel), List.mem_of_getElem? (i := 800) (by decide +kernel)⟩
theorem lw_p36 : lw_okq (⟨"DelayMachineModel", "variableFrom", "(II)I"⟩, 47) := ⟨⟨by decide +kernel, by decide +kernel⟩, List.mem_of_getElem? (i := 529) (by decide +kernel), List.mem_of_getElem? (i := 803) (by decide +kernel), List.mem_of_getElem? (i := 804) (by decide +kernel)⟩
theorem lw_p37 : lw_okq (⟨"DelayMachineModel", "write", "(I)V"⟩, 47) := ⟨⟨by decide +kernel, by decide +kernel⟩, List.mem_of_getElem? (i := 529) (by decide +kernel), List.mem_of_getElem? (i := 808) (by decide +kernel), List.mem_of_getElem? (i := 809) (by decide +kernel)⟩
theorem lw_p38 : lw_okq (⟨"DelayMachineModel", "isSecond", "(I)Z"⟩, 47) := ⟨⟨by decide +kernel, by decide +kernel⟩, List.mem_of_getElem? (i := 529) (by decide +kernel), List.mem_of_getElem? (i := 812) (by decide +kernel), List.mem_of_getElem? (i := 813) (by decide +kernel)⟩
theorem lw_p39 : lw_okq (⟨"DelayMachineModel", "firstOf", "(I)I"⟩, 47) := ⟨⟨by decide +kernel, by decide +kernel⟩, List.mem_of_getElem? (i := 529) (by decide +kernel), List.mem_of_getElem? (i := 816) (by decide +kernel), List.mem_of_getElem? (i := 817) (by decide +kernel)⟩
def lw_privs_3 : List (MethodName × Nat) := [(⟨"DelayMachineModel", "listAll", "()V"⟩, 47), (⟨"DelayMachineModel", "list", "(IIII)V"⟩, 47), (⟨"DelayMachineModel", "place", "()Z"⟩, 47), (⟨"DelayMachineModel", "free", "(IZ)I"⟩, 47), (⟨"DelayMachineModel", "variableFrom", "(II)I"⟩, 47), (⟨"DelayMachineModel", "write", "(I)V"⟩, 47), (⟨"DelayMachineModel", "isSecond", "(I)Z"⟩, 47), (⟨"DelayMachineModel", "firstOf", "(I)I"⟩, 47)]
theorem lw_r3 : ∀ q ∈ lw_privs_3, lw_okq q := List.forall_mem_cons.mpr ⟨lw_p32, List.forall_mem_cons.mpr ⟨lw_p33, List.forall_mem_cons.mpr ⟨lw_p34, List.forall_mem_cons.mpr ⟨lw_p35, List.forall_mem_cons.mpr ⟨lw_p36, List.forall_mem_cons.mpr ⟨lw_p37, List.forall_mem_cons.mpr ⟨lw_p38, List.forall_mem_cons.mpr ⟨lw_p39, fun _ h => absurd h List.not_mem_nil⟩⟩⟩⟩⟩⟩⟩⟩
def lw_privs : List (MethodName × Nat) := lw_privs_1 ++ (lw_privs_2 ++ (lw_privs_3))
def lw_tbl : List Cond := k2_sels lw_privs ++ tables_1
theorem lw_privs_ok : ∀ q ∈ lw_privs, lw_okq q := by
  show ∀ q ∈ lw_privs_1 ++ (lw_privs_2 ++ (lw_privs_3)), lw_okq q
  exact List.forall_mem_append.mpr ⟨lw_r1, List.forall_mem_append.mpr ⟨lw_r2, lw_r3⟩⟩
/-- the words that a call hands on -/
def lw_g : List Cond := k2_sels lw_privs ++ tables_1.filter goodWord
theorem lw_sub : ∀ w ∈ lw_g, w ∈ lw_tbl := fun w h => (List.mem_append.mp h).elim (fun h => List.mem_append_left _ h) (fun h => List.mem_append_right _ (List.mem_filter.mp h).1)
theorem lw_good : ∀ w ∈ lw_g, (w.onTables && w.keeps) = true ∨ ∃ ty, w = .arrayClass ty := fun w h => good_of_word ((List.mem_append.mp h).elim (fun h => List.all_eq_true.mp (show (k2_sels lw_privs).all goodWord = true by decide +kernel) w h) (fun h => (List.mem_filter.mp h).2))
/-- links to nest mates: they go from state to state on their own -/
def lw_nst : List Cond := [(Jvm.Cond.fieldLinkNest "DelayMachine" (61 : Nat) "DelayMachine$Store" "orders" "[I" "DelayMachine"), (Jvm.Cond.fieldLinkNest "DelayMachine$Machine" (96 : Nat) "DelayMachine$Store" "orders" "[I" "DelayMachine"), (Jvm.Cond.fieldLinkNest "DelayMachine" (68 : Nat) "DelayMachine$Store" "words" "[S" "DelayMachine"), (Jvm.Cond.fieldLinkNest "DelayMachine$Multiplier" (31 : Nat) "DelayMachine$Store" "words" "[S" "DelayMachine"), (Jvm.Cond.fieldLinkNest "DelayMachine$Machine" (127 : Nat) "DelayMachine$Store" "words" "[S" "DelayMachine"), (Jvm.Cond.fieldLinkNest "DelayMachine" (119 : Nat) "DelayMachine$Punch" "rows" "[S" "DelayMachine"), (Jvm.Cond.fieldLinkNest "DelayMachine" (107 : Nat) "DelayMachine$Punch" "count" "I" "DelayMachine"), (Jvm.Cond.methodLinkNest "DelayMachine$Machine" (25 : Nat) ({ cls := "DelayMachine$Multiplier", name := "<init>", desc := "()V" } : Jvm.MethodName) "DelayMachine"), (Jvm.Cond.fieldLinkNest "DelayMachine" (114 : Nat) "DelayMachine$Multiplier" "left" "I" "DelayMachine"), (Jvm.Cond.methodLinkNest "DelayMachine$Machine" (32 : Nat) ({ cls := "DelayMachine$Window", name := "<init>", desc := "()V" } : Jvm.MethodName) "DelayMachine"), (Jvm.Cond.fieldLinkNest "DelayMachine$Machine" (109 : Nat) "DelayMachine$Window" "source" "I" "DelayMachine"), (Jvm.Cond.fieldLinkNest "DelayMachine$Machine" (116 : Nat) "DelayMachine$Window" "destination" "I" "DelayMachine"), (Jvm.Cond.fieldLinkNest "DelayMachine$Machine" (106 : Nat) "DelayMachine$Window" "leave" "I" "DelayMachine"), (Jvm.Cond.fieldLinkNest "DelayMachine" (110 : Nat) "DelayMachine$Machine" "multiplier" "LDelayMachine$Multiplier;" "DelayMachine"), (Jvm.Cond.fieldLinkNest "DelayMachine" (80 : Nat) "DelayMachine$Machine" "going" "Z" "DelayMachine"), (Jvm.Cond.fieldLinkNest "DelayMachine" (87 : Nat) "DelayMachine$Machine" "fault" "I" "DelayMachine"), (Jvm.Cond.fieldLinkNest "DelayMachine" (91 : Nat) "DelayMachine$Machine" "now" "I" "DelayMachine"), (Jvm.Cond.fieldLinkNest "DelayMachine" (94 : Nat) "DelayMachine$Machine" "latestLine" "I" "DelayMachine"), (Jvm.Cond.fieldLinkNest "DelayMachine" (97 : Nat) "DelayMachine$Machine" "latestPlace" "I" "DelayMachine"), (Jvm.Cond.fieldLinkNest "DelayMachine" (100 : Nat) "DelayMachine$Machine" "ordersTaken" "I" "DelayMachine"), (Jvm.Cond.fieldLinkNest "DelayMachine$Placing" (81 : Nat) "DelayMachine$Program" "operations" "[I" "DelayMachine"), (Jvm.Cond.fieldLinkNest "DelayMachine$Placing" (75 : Nat) "DelayMachine$Program" "as" "[I" "DelayMachine"), (Jvm.Cond.fieldLinkNest "DelayMachine$Placing" (88 : Nat) "DelayMachine$Program" "bs" "[I" "DelayMachine"), (Jvm.Cond.fieldLinkNest "DelayMachine$Placing" (78 : Nat) "DelayMachine$Program" "cs" "[I" "DelayMachine"), (Jvm.Cond.fieldLinkNest "DelayMachine$Placing" (114 : Nat) "DelayMachine$Program" "gotos" "[I" "DelayMachine"), (Jvm.Cond.fieldLinkNest "DelayMachine$Placing" (36 : Nat) "DelayMachine$Program" "count" "I" "DelayMachine"), (Jvm.Cond.fieldLinkNest "DelayMachine" (126 : Nat) "DelayMachine$Program" "count" "I" "DelayMachine"), (Jvm.Cond.fieldLinkNest "DelayMachine" (135 : Nat) "DelayMachine$Placing" "orders" "[I" "DelayMachine"), (Jvm.Cond.fieldLinkNest "DelayMachine" (150 : Nat) "DelayMachine$Placing" "variables" "[I" "DelayMachine"), (Jvm.Cond.fieldLinkNest "DelayMachine" (143 : Nat) "DelayMachine$Placing" "firsts" "[I" "DelayMachine"), (Jvm.Cond.fieldLinkNest "DelayMachine" (142 : Nat) "DelayMachine$Placing" "count" "I" "DelayMachine")]
theorem lw_nstT : ∀ w ∈ lw_nst, w ∈ lw_tbl := List.forall_mem_cons.mpr ⟨List.mem_append_right _ (List.mem_of_getElem? (i := 28) (by decide +kernel)), List.forall_mem_cons.mpr ⟨List.mem_append_right _ (List.mem_of_getElem? (i := 29) (by decide +kernel)), List.forall_mem_cons.mpr ⟨List.mem_append_right _ (List.mem_of_getElem? (i := 31) (by decide +kernel)), List.forall_mem_cons.mpr ⟨List.mem_append_right _ (List.mem_of_getElem? (i := 32) (by decide +kernel)), List.forall_mem_cons.mpr ⟨List.mem_append_right _ (List.mem_of_getElem? (i := 33) (by decide +kernel)), List.forall_mem_cons.mpr ⟨List.mem_append_right _ (List.mem_of_getElem? (i := 73) (by decide +kernel)), List.forall_mem_cons.mpr ⟨List.mem_append_right _ (List.mem_of_getElem? (i := 75) (by decide +kernel)), List.forall_mem_cons.mpr ⟨List.mem_append_right _ (List.mem_of_getElem? (i := 92) (by decide +kernel)), List.forall_mem_cons.mpr ⟨List.mem_append_right _ (List.mem_of_getElem? (i := 98) (by decide +kernel)), List.forall_mem_cons.mpr ⟨List.mem_append_right _ (List.mem_of_getElem? (i := 109) (by decide +kernel)), List.forall_mem_cons.mpr ⟨List.mem_append_right _ (List.mem_of_getElem? (i := 114) (by decide +kernel)), List.forall_mem_cons.mpr ⟨List.mem_append_right _ (List.mem_of_getElem? (i := 116) (by decide +kernel)), List.forall_mem_cons.mpr ⟨List.mem_append_right _ (List.mem_of_getElem? (i := 120) (by decide +kernel)), List.forall_mem_cons.mpr ⟨List.mem_append_right _ (List.mem_of_getElem? (i := 136) (by decide +kernel)), List.forall_mem_cons.mpr ⟨List.mem_append_right _ (List.mem_of_getElem? (i := 140) (by decide +kernel)), List.forall_mem_cons.mpr ⟨List.mem_append_right _ (List.mem_of_getElem? (i := 142) (by decide +kernel)), List.forall_mem_cons.mpr ⟨List.mem_append_right _ (List.mem_of_getElem? (i := 144) (by decide +kernel)), List.forall_mem_cons.mpr ⟨List.mem_append_right _ (List.mem_of_getElem? (i := 148) (by decide +kernel)), List.forall_mem_cons.mpr ⟨List.mem_append_right _ (List.mem_of_getElem? (i := 150) (by decide +kernel)), List.forall_mem_cons.mpr ⟨List.mem_append_right _ (List.mem_of_getElem? (i := 152) (by decide +kernel)), List.forall_mem_cons.mpr ⟨List.mem_append_right _ (List.mem_of_getElem? (i := 189) (by decide +kernel)), List.forall_mem_cons.mpr ⟨List.mem_append_right _ (List.mem_of_getElem? (i := 191) (by decide +kernel)), List.forall_mem_cons.mpr ⟨List.mem_append_right _ (List.mem_of_getElem? (i := 193) (by decide +kernel)), List.forall_mem_cons.mpr ⟨List.mem_append_right _ (List.mem_of_getElem? (i := 195) (by decide +kernel)), List.forall_mem_cons.mpr ⟨List.mem_append_right _ (List.mem_of_getElem? (i := 197) (by decide +kernel)), List.forall_mem_cons.mpr ⟨List.mem_append_right _ (List.mem_of_getElem? (i := 198) (by decide +kernel)), List.forall_mem_cons.mpr ⟨List.mem_append_right _ (List.mem_of_getElem? (i := 200) (by decide +kernel)), List.forall_mem_cons.mpr ⟨List.mem_append_right _ (List.mem_of_getElem? (i := 224) (by decide +kernel)), List.forall_mem_cons.mpr ⟨List.mem_append_right _ (List.mem_of_getElem? (i := 227) (by decide +kernel)), List.forall_mem_cons.mpr ⟨List.mem_append_right _ (List.mem_of_getElem? (i := 229) (by decide +kernel)), List.forall_mem_cons.mpr ⟨List.mem_append_right _ (List.mem_of_getElem? (i := 234) (by decide +kernel)), fun _ h => by cases h⟩⟩⟩⟩⟩⟩⟩⟩⟩⟩⟩⟩⟩⟩⟩⟩⟩⟩⟩⟩⟩⟩⟩⟩⟩⟩⟩⟩⟩⟩⟩
theorem lw_nstK : ∀ w ∈ lw_nst, (∃ a i b n d h, w = .fieldLinkNest a i b n d h) ∨ ∃ a i x h, w = .methodLinkNest a i x h := List.forall_mem_cons.mpr ⟨Or.inl ⟨_, _, _, _, _, _, rfl⟩, List.forall_mem_cons.mpr ⟨Or.inl ⟨_, _, _, _, _, _, rfl⟩, List.forall_mem_cons.mpr ⟨Or.inl ⟨_, _, _, _, _, _, rfl⟩, List.forall_mem_cons.mpr ⟨Or.inl ⟨_, _, _, _, _, _, rfl⟩, List.forall_mem_cons.mpr ⟨Or.inl ⟨_, _, _, _, _, _, rfl⟩, List.forall_mem_cons.mpr ⟨Or.inl ⟨_, _, _, _, _, _, rfl⟩, List.forall_mem_cons.mpr ⟨Or.inl ⟨_, _, _, _, _, _, rfl⟩, List.forall_mem_cons.mpr ⟨Or.inr ⟨_, _, _, _, rfl⟩, List.forall_mem_cons.mpr ⟨Or.inl ⟨_, _, _, _, _, _, rfl⟩, List.forall_mem_cons.mpr ⟨Or.inr ⟨_, _, _, _, rfl⟩, List.forall_mem_cons.mpr ⟨Or.inl ⟨_, _, _, _, _, _, rfl⟩, List.forall_mem_cons.mpr ⟨Or.inl ⟨_, _, _, _, _, _, rfl⟩, List.forall_mem_cons.mpr ⟨Or.inl ⟨_, _, _, _, _, _, rfl⟩, List.forall_mem_cons.mpr ⟨Or.inl ⟨_, _, _, _, _, _, rfl⟩, List.forall_mem_cons.mpr ⟨Or.inl ⟨_, _, _, _, _, _, rfl⟩, List.forall_mem_cons.mpr ⟨Or.inl ⟨_, _, _, _, _, _, rfl⟩, List.forall_mem_cons.mpr ⟨Or.inl ⟨_, _, _, _, _, _, rfl⟩, List.forall_mem_cons.mpr ⟨Or.inl ⟨_, _, _, _, _, _, rfl⟩, List.forall_mem_cons.mpr ⟨Or.inl ⟨_, _, _, _, _, _, rfl⟩, List.forall_mem_cons.mpr ⟨Or.inl ⟨_, _, _, _, _, _, rfl⟩, List.forall_mem_cons.mpr ⟨Or.inl ⟨_, _, _, _, _, _, rfl⟩, List.forall_mem_cons.mpr ⟨Or.inl ⟨_, _, _, _, _, _, rfl⟩, List.forall_mem_cons.mpr ⟨Or.inl ⟨_, _, _, _, _, _, rfl⟩, List.forall_mem_cons.mpr ⟨Or.inl ⟨_, _, _, _, _, _, rfl⟩, List.forall_mem_cons.mpr ⟨Or.inl ⟨_, _, _, _, _, _, rfl⟩, List.forall_mem_cons.mpr ⟨Or.inl ⟨_, _, _, _, _, _, rfl⟩, List.forall_mem_cons.mpr ⟨Or.inl ⟨_, _, _, _, _, _, rfl⟩, List.forall_mem_cons.mpr ⟨Or.inl ⟨_, _, _, _, _, _, rfl⟩, List.forall_mem_cons.mpr ⟨Or.inl ⟨_, _, _, _, _, _, rfl⟩, List.forall_mem_cons.mpr ⟨Or.inl ⟨_, _, _, _, _, _, rfl⟩, List.forall_mem_cons.mpr ⟨Or.inl ⟨_, _, _, _, _, _, rfl⟩, fun _ h => by cases h⟩⟩⟩⟩⟩⟩⟩⟩⟩⟩⟩⟩⟩⟩⟩⟩⟩⟩⟩⟩⟩⟩⟩⟩⟩⟩⟩⟩⟩⟩⟩
theorem tw_1 : (Jvm.Cond.initialized "DelayMachine") ∈ lw_g := List.mem_append_right _ (List.mem_filter.mpr ⟨List.mem_of_getElem? (i := 1) (by decide +kernel), rfl⟩)
theorem tw_2 : (Jvm.Cond.initialized "DelayMachine$Store") ∈ lw_g := List.mem_append_right _ (List.mem_filter.mpr ⟨List.mem_of_getElem? (i := 2) (by decide +kernel), rfl⟩)
theorem tw_3 : (Jvm.Cond.initialized "DelayMachine$Reader") ∈ lw_g := List.mem_append_right _ (List.mem_filter.mpr ⟨List.mem_of_getElem? (i := 3) (by decide +kernel), rfl⟩)
theorem tw_4 : (Jvm.Cond.initialized "DelayMachine$Punch") ∈ lw_g := List.mem_append_right _ (List.mem_filter.mpr ⟨List.mem_of_getElem? (i := 4) (by decide +kernel), rfl⟩)
theorem tw_5 : (Jvm.Cond.initialized "DelayMachine$Machine") ∈ lw_g := List.mem_append_right _ (List.mem_filter.mpr ⟨List.mem_of_getElem? (i := 5) (by decide +kernel), rfl⟩)
theorem tw_6 : (Jvm.Cond.initialized "DelayMachine$Multiplier") ∈ lw_g := List.mem_append_right _ (List.mem_filter.mpr ⟨List.mem_of_getElem? (i := 6) (by decide +kernel), rfl⟩)
theorem tw_7 : (Jvm.Cond.initialized "DelayMachine$Window") ∈ lw_g := List.mem_append_right _ (List.mem_filter.mpr ⟨List.mem_of_getElem? (i := 7) (by decide +kernel), rfl⟩)
theorem tw_8 : (Jvm.Cond.initialized "DelayMachine$Program") ∈ lw_g := List.mem_append_right _ (List.mem_filter.mpr ⟨List.mem_of_getElem? (i := 8) (by decide +kernel), rfl⟩)
theorem tw_9 : (Jvm.Cond.initialized "DelayMachine$Placing") ∈ lw_g := List.mem_append_right _ (List.mem_filter.mpr ⟨List.mem_of_getElem? (i := 9) (by decide +kernel), rfl⟩)
theorem tw_10 : (Jvm.Cond.initialized "java/util/Arrays") ∈ lw_g := List.mem_append_right _ (List.mem_filter.mpr ⟨List.mem_of_getElem? (i := 10) (by decide +kernel), rfl⟩)
theorem tw_11 : (Jvm.Cond.initialized "DelayMachineModel") ∈ lw_g := List.mem_append_right _ (List.mem_filter.mpr ⟨List.mem_of_getElem? (i := 11) (by decide +kernel), rfl⟩)
theorem tw_12 : (Jvm.Cond.initialized "java/lang/System") ∈ lw_g := List.mem_append_right _ (List.mem_filter.mpr ⟨List.mem_of_getElem? (i := 12) (by decide +kernel), rfl⟩)
theorem tw_13 : (Jvm.Cond.classLink "DelayMachineLaw" (7 : Nat) "DelayMachine") ∈ lw_g := List.mem_append_right _ (List.mem_filter.mpr ⟨List.mem_of_getElem? (i := 13) (by decide +kernel), rfl⟩)
theorem tw_14 : (Jvm.Cond.instantiable "DelayMachine" (7 : Nat)) ∈ lw_g := List.mem_append_right _ (List.mem_filter.mpr ⟨List.mem_of_getElem? (i := 14) (by decide +kernel), rfl⟩)
theorem tw_15 : (Jvm.Cond.methodLink "DelayMachineLaw" (9 : Nat) ({ cls := "DelayMachine", name := "<init>", desc := "()V" } : Jvm.MethodName)) ∈ lw_g := List.mem_append_right _ (List.mem_filter.mpr ⟨List.mem_of_getElem? (i := 15) (by decide +kernel), rfl⟩)
theorem tw_16 : (Jvm.Cond.instanceMethod ({ cls := "DelayMachine", name := "<init>", desc := "()V" } : Jvm.MethodName)) ∈ lw_g := List.mem_append_right _ (List.mem_filter.mpr ⟨List.mem_of_getElem? (i := 16) (by decide +kernel), rfl⟩)
theorem tw_17 : (Jvm.Cond.code ({ cls := "DelayMachine", name := "<init>", desc := "()V" } : Jvm.MethodName) prog_1_method_1_code (1 : Nat) (Option.none : Option Jvm.ClassFile.FieldType)) ∈ lw_g := List.mem_append_right _ (List.mem_filter.mpr ⟨List.mem_of_getElem? (i := 17) (by decide +kernel), rfl⟩)
theorem tw_18 : (Jvm.Cond.methodLink "DelayMachine" (3 : Nat) ({ cls := "java/lang/Object", name := "<init>", desc := "()V" } : Jvm.MethodName)) ∈ lw_g := List.mem_append_right _ (List.mem_filter.mpr ⟨List.mem_of_getElem? (i := 18) (by decide +kernel), rfl⟩)
theorem tw_19 : (Jvm.Cond.instanceMethod ({ cls := "java/lang/Object", name := "<init>", desc := "()V" } : Jvm.MethodName)) ∈ lw_g := List.mem_append_right _ (List.mem_filter.mpr ⟨List.mem_of_getElem? (i := 19) (by decide +kernel), rfl⟩)
theorem tw_20 : (Jvm.Cond.code ({ cls := "java/lang/Object", name := "<init>", desc := "()V" } : Jvm.MethodName) object_method_1_code (1 : Nat) (Option.none : Option Jvm.ClassFile.FieldType)) ∈ lw_g := List.mem_append_right _ (List.mem_filter.mpr ⟨List.mem_of_getElem? (i := 20) (by decide +kernel), rfl⟩)
theorem tw_21 : (Jvm.Cond.classLink "DelayMachine" (9 : Nat) "DelayMachine$Store") ∈ lw_g := List.mem_append_right _ (List.mem_filter.mpr ⟨List.mem_of_getElem? (i := 21) (by decide +kernel), rfl⟩)
theorem tw_22 : (Jvm.Cond.instantiable "DelayMachine$Store" (2 : Nat)) ∈ lw_g := List.mem_append_right _ (List.mem_filter.mpr ⟨List.mem_of_getElem? (i := 22) (by decide +kernel), rfl⟩)
theorem tw_23 : (Jvm.Cond.methodLink "DelayMachine" (11 : Nat) ({ cls := "DelayMachine$Store", name := "<init>", desc := "()V" } : Jvm.MethodName)) ∈ lw_g := List.mem_append_right _ (List.mem_filter.mpr ⟨List.mem_of_getElem? (i := 23) (by decide +kernel), rfl⟩)
theorem tw_24 : (Jvm.Cond.instanceMethod ({ cls := "DelayMachine$Store", name := "<init>", desc := "()V" } : Jvm.MethodName)) ∈ lw_g := List.mem_append_right _ (List.mem_filter.mpr ⟨List.mem_of_getElem? (i := 24) (by decide +kernel), rfl⟩)
theorem tw_25 : (Jvm.Cond.code ({ cls := "DelayMachine$Store", name := "<init>", desc := "()V" } : Jvm.MethodName) prog_8_method_1_code (1 : Nat) (Option.none : Option Jvm.ClassFile.FieldType)) ∈ lw_g := List.mem_append_right _ (List.mem_filter.mpr ⟨List.mem_of_getElem? (i := 25) (by decide +kernel), rfl⟩)
theorem tw_26 : (Jvm.Cond.methodLink "DelayMachine$Store" (3 : Nat) ({ cls := "java/lang/Object", name := "<init>", desc := "()V" } : Jvm.MethodName)) ∈ lw_g := List.mem_append_right _ (List.mem_filter.mpr ⟨List.mem_of_getElem? (i := 26) (by decide +kernel), rfl⟩)
theorem tw_27 : (Jvm.Cond.fieldLink "DelayMachine$Store" (9 : Nat) "DelayMachine$Store" "orders" "[I") ∈ lw_g := List.mem_append_right _ (List.mem_filter.mpr ⟨List.mem_of_getElem? (i := 27) (by decide +kernel), rfl⟩)
theorem tw_30 : (Jvm.Cond.fieldLink "DelayMachine$Store" (15 : Nat) "DelayMachine$Store" "words" "[S") ∈ lw_g := List.mem_append_right _ (List.mem_filter.mpr ⟨List.mem_of_getElem? (i := 30) (by decide +kernel), rfl⟩)
theorem tw_39 : (Jvm.Cond.arrayClass Jvm.ClassFile.FieldType.int) ∈ lw_g := List.mem_append_right _ (List.mem_filter.mpr ⟨List.mem_of_getElem? (i := 39) (by decide +kernel), rfl⟩)
theorem tw_40 : (Jvm.Cond.arrayClass Jvm.ClassFile.FieldType.short) ∈ lw_g := List.mem_append_right _ (List.mem_filter.mpr ⟨List.mem_of_getElem? (i := 40) (by decide +kernel), rfl⟩)
theorem tw_41 : (Jvm.Cond.classLink "DelayMachine" (16 : Nat) "DelayMachine$Reader") ∈ lw_g := List.mem_append_right _ (List.mem_filter.mpr ⟨List.mem_of_getElem? (i := 41) (by decide +kernel), rfl⟩)
theorem tw_42 : (Jvm.Cond.instantiable "DelayMachine$Reader" (6 : Nat)) ∈ lw_g := List.mem_append_right _ (List.mem_filter.mpr ⟨List.mem_of_getElem? (i := 42) (by decide +kernel), rfl⟩)
theorem tw_43 : (Jvm.Cond.methodLink "DelayMachine" (18 : Nat) ({ cls := "DelayMachine$Reader", name := "<init>", desc := "()V" } : Jvm.MethodName)) ∈ lw_g := List.mem_append_right _ (List.mem_filter.mpr ⟨List.mem_of_getElem? (i := 43) (by decide +kernel), rfl⟩)
theorem tw_44 : (Jvm.Cond.instanceMethod ({ cls := "DelayMachine$Reader", name := "<init>", desc := "()V" } : Jvm.MethodName)) ∈ lw_g := List.mem_append_right _ (List.mem_filter.mpr ⟨List.mem_of_getElem? (i := 44) (by decide +kernel), rfl⟩)
theorem tw_45 : (Jvm.Cond.code ({ cls := "DelayMachine$Reader", name := "<init>", desc := "()V" } : Jvm.MethodName) prog_7_method_1_code (1 : Nat) (Option.none : Option Jvm.ClassFile.FieldType)) ∈ lw_g := List.mem_append_right _ (List.mem_filter.mpr ⟨List.mem_of_getElem? (i := 45) (by decide +kernel), rfl⟩)
theorem tw_46 : (Jvm.Cond.methodLink "DelayMachine$Reader" (5 : Nat) ({ cls := "java/lang/Object", name := "<init>", desc := "()V" } : Jvm.MethodName)) ∈ lw_g := List.mem_append_right _ (List.mem_filter.mpr ⟨List.mem_of_getElem? (i := 46) (by decide +kernel), rfl⟩)
theorem tw_47 : (Jvm.Cond.fieldLink "DelayMachine$Reader" (11 : Nat) "DelayMachine$Reader" "deck" "[S") ∈ lw_g := List.mem_append_right _ (List.mem_filter.mpr ⟨List.mem_of_getElem? (i := 47) (by decide +kernel), rfl⟩)
theorem tw_48 : (Jvm.Cond.fieldLink "DelayMachine$Reader" (15 : Nat) "DelayMachine$Reader" "came" "I") ∈ lw_g := List.mem_append_right _ (List.mem_filter.mpr ⟨List.mem_of_getElem? (i := 48) (by decide +kernel), rfl⟩)
theorem tw_49 : (Jvm.Cond.fieldLink "DelayMachine$Reader" (19 : Nat) "DelayMachine$Reader" "taken" "I") ∈ lw_g := List.mem_append_right _ (List.mem_filter.mpr ⟨List.mem_of_getElem? (i := 49) (by decide +kernel), rfl⟩)
theorem tw_50 : (Jvm.Cond.fieldLink "DelayMachine$Reader" (22 : Nat) "DelayMachine$Reader" "cardPasses" "Z") ∈ lw_g := List.mem_append_right _ (List.mem_filter.mpr ⟨List.mem_of_getElem? (i := 50) (by decide +kernel), rfl⟩)
theorem tw_51 : (Jvm.Cond.fieldLink "DelayMachine$Reader" (33 : Nat) "DelayMachine$Reader" "fedAt" "I") ∈ lw_g := List.mem_append_right _ (List.mem_filter.mpr ⟨List.mem_of_getElem? (i := 51) (by decide +kernel), rfl⟩)
theorem tw_52 : (Jvm.Cond.fieldLink "DelayMachine$Reader" (26 : Nat) "DelayMachine$Reader" "rowMoved" "Z") ∈ lw_g := List.mem_append_right _ (List.mem_filter.mpr ⟨List.mem_of_getElem? (i := 52) (by decide +kernel), rfl⟩)
theorem tw_66 : (Jvm.Cond.classLink "DelayMachine" (23 : Nat) "DelayMachine$Punch") ∈ lw_g := List.mem_append_right _ (List.mem_filter.mpr ⟨List.mem_of_getElem? (i := 66) (by decide +kernel), rfl⟩)
theorem tw_67 : (Jvm.Cond.instantiable "DelayMachine$Punch" (3 : Nat)) ∈ lw_g := List.mem_append_right _ (List.mem_filter.mpr ⟨List.mem_of_getElem? (i := 67) (by decide +kernel), rfl⟩)
theorem tw_68 : (Jvm.Cond.methodLink "DelayMachine" (25 : Nat) ({ cls := "DelayMachine$Punch", name := "<init>", desc := "()V" } : Jvm.MethodName)) ∈ lw_g := List.mem_append_right _ (List.mem_filter.mpr ⟨List.mem_of_getElem? (i := 68) (by decide +kernel), rfl⟩)
theorem tw_69 : (Jvm.Cond.instanceMethod ({ cls := "DelayMachine$Punch", name := "<init>", desc := "()V" } : Jvm.MethodName)) ∈ lw_g := List.mem_append_right _ (List.mem_filter.mpr ⟨List.mem_of_getElem? (i := 69) (by decide +kernel), rfl⟩)
theorem tw_70 : (Jvm.Cond.code ({ cls := "DelayMachine$Punch", name := "<init>", desc := "()V" } : Jvm.MethodName) prog_6_method_1_code (1 : Nat) (Option.none : Option Jvm.ClassFile.FieldType)) ∈ lw_g := List.mem_append_right _ (List.mem_filter.mpr ⟨List.mem_of_getElem? (i := 70) (by decide +kernel), rfl⟩)
theorem tw_71 : (Jvm.Cond.methodLink "DelayMachine$Punch" (1 : Nat) ({ cls := "java/lang/Object", name := "<init>", desc := "()V" } : Jvm.MethodName)) ∈ lw_g := List.mem_append_right _ (List.mem_filter.mpr ⟨List.mem_of_getElem? (i := 71) (by decide +kernel), rfl⟩)
theorem tw_72 : (Jvm.Cond.fieldLink "DelayMachine$Punch" (9 : Nat) "DelayMachine$Punch" "rows" "[S") ∈ lw_g := List.mem_append_right _ (List.mem_filter.mpr ⟨List.mem_of_getElem? (i := 72) (by decide +kernel), rfl⟩)
theorem tw_74 : (Jvm.Cond.fieldLink "DelayMachine$Punch" (13 : Nat) "DelayMachine$Punch" "count" "I") ∈ lw_g := List.mem_append_right _ (List.mem_filter.mpr ⟨List.mem_of_getElem? (i := 74) (by decide +kernel), rfl⟩)
theorem tw_76 : (Jvm.Cond.fieldLink "DelayMachine$Punch" (17 : Nat) "DelayMachine$Punch" "lastCycle" "I") ∈ lw_g := List.mem_append_right _ (List.mem_filter.mpr ⟨List.mem_of_getElem? (i := 76) (by decide +kernel), rfl⟩)
theorem tw_84 : (Jvm.Cond.classLink "DelayMachine" (30 : Nat) "DelayMachine$Machine") ∈ lw_g := List.mem_append_right _ (List.mem_filter.mpr ⟨List.mem_of_getElem? (i := 84) (by decide +kernel), rfl⟩)
theorem tw_85 : (Jvm.Cond.instantiable "DelayMachine$Machine" (14 : Nat)) ∈ lw_g := List.mem_append_right _ (List.mem_filter.mpr ⟨List.mem_of_getElem? (i := 85) (by decide +kernel), rfl⟩)
theorem tw_86 : (Jvm.Cond.methodLink "DelayMachine" (32 : Nat) ({ cls := "DelayMachine$Machine", name := "<init>", desc := "(LDelayMachine$Store;LDelayMachine$Reader;LDelayMachine$Punch;)V" } : Jvm.MethodName)) ∈ lw_g := List.mem_append_right _ (List.mem_filter.mpr ⟨List.mem_of_getElem? (i := 86) (by decide +kernel), rfl⟩)
theorem tw_87 : (Jvm.Cond.instanceMethod ({ cls := "DelayMachine$Machine", name := "<init>", desc := "(LDelayMachine$Store;LDelayMachine$Reader;LDelayMachine$Punch;)V" } : Jvm.MethodName)) ∈ lw_g := List.mem_append_right _ (List.mem_filter.mpr ⟨List.mem_of_getElem? (i := 87) (by decide +kernel), rfl⟩)
theorem tw_88 : (Jvm.Cond.code ({ cls := "DelayMachine$Machine", name := "<init>", desc := "(LDelayMachine$Store;LDelayMachine$Reader;LDelayMachine$Punch;)V" } : Jvm.MethodName) prog_2_method_1_code (4 : Nat) (Option.none : Option Jvm.ClassFile.FieldType)) ∈ lw_g := List.mem_append_right _ (List.mem_filter.mpr ⟨List.mem_of_getElem? (i := 88) (by decide +kernel), rfl⟩)
theorem tw_89 : (Jvm.Cond.methodLink "DelayMachine$Machine" (3 : Nat) ({ cls := "java/lang/Object", name := "<init>", desc := "()V" } : Jvm.MethodName)) ∈ lw_g := List.mem_append_right _ (List.mem_filter.mpr ⟨List.mem_of_getElem? (i := 89) (by decide +kernel), rfl⟩)
theorem tw_90 : (Jvm.Cond.classLink "DelayMachine$Machine" (23 : Nat) "DelayMachine$Multiplier") ∈ lw_g := List.mem_append_right _ (List.mem_filter.mpr ⟨List.mem_of_getElem? (i := 90) (by decide +kernel), rfl⟩)
theorem tw_91 : (Jvm.Cond.instantiable "DelayMachine$Multiplier" (3 : Nat)) ∈ lw_g := List.mem_append_right _ (List.mem_filter.mpr ⟨List.mem_of_getElem? (i := 91) (by decide +kernel), rfl⟩)
theorem tw_93 : (Jvm.Cond.instanceMethod ({ cls := "DelayMachine$Multiplier", name := "<init>", desc := "()V" } : Jvm.MethodName)) ∈ lw_g := List.mem_append_right _ (List.mem_filter.mpr ⟨List.mem_of_getElem? (i := 93) (by decide +kernel), rfl⟩)
theorem tw_94 : (Jvm.Cond.code ({ cls := "DelayMachine$Multiplier", name := "<init>", desc := "()V" } : Jvm.MethodName) prog_3_method_1_code (1 : Nat) (Option.none : Option Jvm.ClassFile.FieldType)) ∈ lw_g := List.mem_append_right _ (List.mem_filter.mpr ⟨List.mem_of_getElem? (i := 94) (by decide +kernel), rfl⟩)
theorem tw_95 : (Jvm.Cond.methodLink "DelayMachine$Multiplier" (1 : Nat) ({ cls := "java/lang/Object", name := "<init>", desc := "()V" } : Jvm.MethodName)) ∈ lw_g := List.mem_append_right _ (List.mem_filter.mpr ⟨List.mem_of_getElem? (i := 95) (by decide +kernel), rfl⟩)
theorem tw_96 : (Jvm.Cond.fieldLink "DelayMachine$Multiplier" (13 : Nat) "DelayMachine$Multiplier" "factor" "I") ∈ lw_g := List.mem_append_right _ (List.mem_filter.mpr ⟨List.mem_of_getElem? (i := 96) (by decide +kernel), rfl⟩)
theorem tw_97 : (Jvm.Cond.fieldLink "DelayMachine$Multiplier" (7 : Nat) "DelayMachine$Multiplier" "left" "I") ∈ lw_g := List.mem_append_right _ (List.mem_filter.mpr ⟨List.mem_of_getElem? (i := 97) (by decide +kernel), rfl⟩)
theorem tw_99 : (Jvm.Cond.fieldLink "DelayMachine$Multiplier" (16 : Nat) "DelayMachine$Multiplier" "fresh" "Z") ∈ lw_g := List.mem_append_right _ (List.mem_filter.mpr ⟨List.mem_of_getElem? (i := 99) (by decide +kernel), rfl⟩)
theorem tw_107 : (Jvm.Cond.classLink "DelayMachine$Machine" (30 : Nat) "DelayMachine$Window") ∈ lw_g := List.mem_append_right _ (List.mem_filter.mpr ⟨List.mem_of_getElem? (i := 107) (by decide +kernel), rfl⟩)
theorem tw_108 : (Jvm.Cond.instantiable "DelayMachine$Window" (5 : Nat)) ∈ lw_g := List.mem_append_right _ (List.mem_filter.mpr ⟨List.mem_of_getElem? (i := 108) (by decide +kernel), rfl⟩)
theorem tw_110 : (Jvm.Cond.instanceMethod ({ cls := "DelayMachine$Window", name := "<init>", desc := "()V" } : Jvm.MethodName)) ∈ lw_g := List.mem_append_right _ (List.mem_filter.mpr ⟨List.mem_of_getElem? (i := 110) (by decide +kernel), rfl⟩)
theorem tw_111 : (Jvm.Cond.code ({ cls := "DelayMachine$Window", name := "<init>", desc := "()V" } : Jvm.MethodName) prog_9_method_1_code (1 : Nat) (Option.none : Option Jvm.ClassFile.FieldType)) ∈ lw_g := List.mem_append_right _ (List.mem_filter.mpr ⟨List.mem_of_getElem? (i := 111) (by decide +kernel), rfl⟩)
theorem tw_112 : (Jvm.Cond.methodLink "DelayMachine$Window" (3 : Nat) ({ cls := "java/lang/Object", name := "<init>", desc := "()V" } : Jvm.MethodName)) ∈ lw_g := List.mem_append_right _ (List.mem_filter.mpr ⟨List.mem_of_getElem? (i := 112) (by decide +kernel), rfl⟩)
theorem tw_113 : (Jvm.Cond.fieldLink "DelayMachine$Window" (18 : Nat) "DelayMachine$Window" "source" "I") ∈ lw_g := List.mem_append_right _ (List.mem_filter.mpr ⟨List.mem_of_getElem? (i := 113) (by decide +kernel), rfl⟩)
theorem tw_115 : (Jvm.Cond.fieldLink "DelayMachine$Window" (21 : Nat) "DelayMachine$Window" "destination" "I") ∈ lw_g := List.mem_append_right _ (List.mem_filter.mpr ⟨List.mem_of_getElem? (i := 115) (by decide +kernel), rfl⟩)
theorem tw_117 : (Jvm.Cond.fieldLink "DelayMachine$Window" (9 : Nat) "DelayMachine$Window" "first" "I") ∈ lw_g := List.mem_append_right _ (List.mem_filter.mpr ⟨List.mem_of_getElem? (i := 117) (by decide +kernel), rfl⟩)
theorem tw_118 : (Jvm.Cond.fieldLink "DelayMachine$Window" (15 : Nat) "DelayMachine$Window" "last" "I") ∈ lw_g := List.mem_append_right _ (List.mem_filter.mpr ⟨List.mem_of_getElem? (i := 118) (by decide +kernel), rfl⟩)
theorem tw_119 : (Jvm.Cond.fieldLink "DelayMachine$Window" (24 : Nat) "DelayMachine$Window" "leave" "I") ∈ lw_g := List.mem_append_right _ (List.mem_filter.mpr ⟨List.mem_of_getElem? (i := 119) (by decide +kernel), rfl⟩)
theorem tw_132 : (Jvm.Cond.fieldLink "DelayMachine$Machine" (9 : Nat) "DelayMachine$Machine" "store" "LDelayMachine$Store;") ∈ lw_g := List.mem_append_right _ (List.mem_filter.mpr ⟨List.mem_of_getElem? (i := 132) (by decide +kernel), rfl⟩)
theorem tw_133 : (Jvm.Cond.fieldLink "DelayMachine$Machine" (15 : Nat) "DelayMachine$Machine" "reader" "LDelayMachine$Reader;") ∈ lw_g := List.mem_append_right _ (List.mem_filter.mpr ⟨List.mem_of_getElem? (i := 133) (by decide +kernel), rfl⟩)
theorem tw_134 : (Jvm.Cond.fieldLink "DelayMachine$Machine" (19 : Nat) "DelayMachine$Machine" "punch" "LDelayMachine$Punch;") ∈ lw_g := List.mem_append_right _ (List.mem_filter.mpr ⟨List.mem_of_getElem? (i := 134) (by decide +kernel), rfl⟩)
theorem tw_135 : (Jvm.Cond.fieldLink "DelayMachine$Machine" (26 : Nat) "DelayMachine$Machine" "multiplier" "LDelayMachine$Multiplier;") ∈ lw_g := List.mem_append_right _ (List.mem_filter.mpr ⟨List.mem_of_getElem? (i := 135) (by decide +kernel), rfl⟩)
theorem tw_137 : (Jvm.Cond.fieldLink "DelayMachine$Machine" (33 : Nat) "DelayMachine$Machine" "current" "LDelayMachine$Window;") ∈ lw_g := List.mem_append_right _ (List.mem_filter.mpr ⟨List.mem_of_getElem? (i := 137) (by decide +kernel), rfl⟩)
theorem tw_138 : (Jvm.Cond.fieldLink "DelayMachine$Machine" (37 : Nat) "DelayMachine$Machine" "before" "LDelayMachine$Window;") ∈ lw_g := List.mem_append_right _ (List.mem_filter.mpr ⟨List.mem_of_getElem? (i := 138) (by decide +kernel), rfl⟩)
theorem tw_139 : (Jvm.Cond.fieldLink "DelayMachine$Machine" (47 : Nat) "DelayMachine$Machine" "going" "Z") ∈ lw_g := List.mem_append_right _ (List.mem_filter.mpr ⟨List.mem_of_getElem? (i := 139) (by decide +kernel), rfl⟩)
theorem tw_141 : (Jvm.Cond.fieldLink "DelayMachine$Machine" (51 : Nat) "DelayMachine$Machine" "fault" "I") ∈ lw_g := List.mem_append_right _ (List.mem_filter.mpr ⟨List.mem_of_getElem? (i := 141) (by decide +kernel), rfl⟩)
theorem tw_143 : (Jvm.Cond.fieldLink "DelayMachine$Machine" (57 : Nat) "DelayMachine$Machine" "now" "I") ∈ lw_g := List.mem_append_right _ (List.mem_filter.mpr ⟨List.mem_of_getElem? (i := 143) (by decide +kernel), rfl⟩)
theorem tw_145 : (Jvm.Cond.fieldLink "DelayMachine$Machine" (54 : Nat) "DelayMachine$Machine" "nextLine" "I") ∈ lw_g := List.mem_append_right _ (List.mem_filter.mpr ⟨List.mem_of_getElem? (i := 145) (by decide +kernel), rfl⟩)
theorem tw_146 : (Jvm.Cond.fieldLink "DelayMachine$Machine" (60 : Nat) "DelayMachine$Machine" "nextCycle" "I") ∈ lw_g := List.mem_append_right _ (List.mem_filter.mpr ⟨List.mem_of_getElem? (i := 146) (by decide +kernel), rfl⟩)
theorem tw_147 : (Jvm.Cond.fieldLink "DelayMachine$Machine" (40 : Nat) "DelayMachine$Machine" "latestLine" "I") ∈ lw_g := List.mem_append_right _ (List.mem_filter.mpr ⟨List.mem_of_getElem? (i := 147) (by decide +kernel), rfl⟩)
theorem tw_149 : (Jvm.Cond.fieldLink "DelayMachine$Machine" (44 : Nat) "DelayMachine$Machine" "latestPlace" "I") ∈ lw_g := List.mem_append_right _ (List.mem_filter.mpr ⟨List.mem_of_getElem? (i := 149) (by decide +kernel), rfl⟩)
theorem tw_151 : (Jvm.Cond.fieldLink "DelayMachine$Machine" (63 : Nat) "DelayMachine$Machine" "ordersTaken" "I") ∈ lw_g := List.mem_append_right _ (List.mem_filter.mpr ⟨List.mem_of_getElem? (i := 151) (by decide +kernel), rfl⟩)
theorem tw_182 : (Jvm.Cond.classLink "DelayMachine" (39 : Nat) "DelayMachine$Program") ∈ lw_g := List.mem_append_right _ (List.mem_filter.mpr ⟨List.mem_of_getElem? (i := 182) (by decide +kernel), rfl⟩)
theorem tw_183 : (Jvm.Cond.instantiable "DelayMachine$Program" (6 : Nat)) ∈ lw_g := List.mem_append_right _ (List.mem_filter.mpr ⟨List.mem_of_getElem? (i := 183) (by decide +kernel), rfl⟩)
theorem tw_184 : (Jvm.Cond.methodLink "DelayMachine" (41 : Nat) ({ cls := "DelayMachine$Program", name := "<init>", desc := "()V" } : Jvm.MethodName)) ∈ lw_g := List.mem_append_right _ (List.mem_filter.mpr ⟨List.mem_of_getElem? (i := 184) (by decide +kernel), rfl⟩)
theorem tw_185 : (Jvm.Cond.instanceMethod ({ cls := "DelayMachine$Program", name := "<init>", desc := "()V" } : Jvm.MethodName)) ∈ lw_g := List.mem_append_right _ (List.mem_filter.mpr ⟨List.mem_of_getElem? (i := 185) (by decide +kernel), rfl⟩)
theorem tw_186 : (Jvm.Cond.code ({ cls := "DelayMachine$Program", name := "<init>", desc := "()V" } : Jvm.MethodName) prog_5_method_1_code (1 : Nat) (Option.none : Option Jvm.ClassFile.FieldType)) ∈ lw_g := List.mem_append_right _ (List.mem_filter.mpr ⟨List.mem_of_getElem? (i := 186) (by decide +kernel), rfl⟩)
theorem tw_187 : (Jvm.Cond.methodLink "DelayMachine$Program" (3 : Nat) ({ cls := "java/lang/Object", name := "<init>", desc := "()V" } : Jvm.MethodName)) ∈ lw_g := List.mem_append_right _ (List.mem_filter.mpr ⟨List.mem_of_getElem? (i := 187) (by decide +kernel), rfl⟩)
theorem tw_188 : (Jvm.Cond.fieldLink "DelayMachine$Program" (9 : Nat) "DelayMachine$Program" "operations" "[I") ∈ lw_g := List.mem_append_right _ (List.mem_filter.mpr ⟨List.mem_of_getElem? (i := 188) (by decide +kernel), rfl⟩)
theorem tw_190 : (Jvm.Cond.fieldLink "DelayMachine$Program" (15 : Nat) "DelayMachine$Program" "as" "[I") ∈ lw_g := List.mem_append_right _ (List.mem_filter.mpr ⟨List.mem_of_getElem? (i := 190) (by decide +kernel), rfl⟩)
theorem tw_192 : (Jvm.Cond.fieldLink "DelayMachine$Program" (18 : Nat) "DelayMachine$Program" "bs" "[I") ∈ lw_g := List.mem_append_right _ (List.mem_filter.mpr ⟨List.mem_of_getElem? (i := 192) (by decide +kernel), rfl⟩)
theorem tw_194 : (Jvm.Cond.fieldLink "DelayMachine$Program" (21 : Nat) "DelayMachine$Program" "cs" "[I") ∈ lw_g := List.mem_append_right _ (List.mem_filter.mpr ⟨List.mem_of_getElem? (i := 194) (by decide +kernel), rfl⟩)
theorem tw_196 : (Jvm.Cond.fieldLink "DelayMachine$Program" (24 : Nat) "DelayMachine$Program" "gotos" "[I") ∈ lw_g := List.mem_append_right _ (List.mem_filter.mpr ⟨List.mem_of_getElem? (i := 196) (by decide +kernel), rfl⟩)
theorem tw_199 : (Jvm.Cond.fieldLink "DelayMachine$Program" (31 : Nat) "DelayMachine$Program" "count" "I") ∈ lw_g := List.mem_append_right _ (List.mem_filter.mpr ⟨List.mem_of_getElem? (i := 199) (by decide +kernel), rfl⟩)
theorem tw_214 : (Jvm.Cond.classLink "DelayMachine" (46 : Nat) "DelayMachine$Placing") ∈ lw_g := List.mem_append_right _ (List.mem_filter.mpr ⟨List.mem_of_getElem? (i := 214) (by decide +kernel), rfl⟩)
theorem tw_215 : (Jvm.Cond.instantiable "DelayMachine$Placing" (9 : Nat)) ∈ lw_g := List.mem_append_right _ (List.mem_filter.mpr ⟨List.mem_of_getElem? (i := 215) (by decide +kernel), rfl⟩)
theorem tw_216 : (Jvm.Cond.methodLink "DelayMachine" (48 : Nat) ({ cls := "DelayMachine$Placing", name := "<init>", desc := "()V" } : Jvm.MethodName)) ∈ lw_g := List.mem_append_right _ (List.mem_filter.mpr ⟨List.mem_of_getElem? (i := 216) (by decide +kernel), rfl⟩)
theorem tw_217 : (Jvm.Cond.instanceMethod ({ cls := "DelayMachine$Placing", name := "<init>", desc := "()V" } : Jvm.MethodName)) ∈ lw_g := List.mem_append_right _ (List.mem_filter.mpr ⟨List.mem_of_getElem? (i := 217) (by decide +kernel), rfl⟩)
theorem tw_218 : (Jvm.Cond.code ({ cls := "DelayMachine$Placing", name := "<init>", desc := "()V" } : Jvm.MethodName) prog_4_method_1_code (1 : Nat) (Option.none : Option Jvm.ClassFile.FieldType)) ∈ lw_g := List.mem_append_right _ (List.mem_filter.mpr ⟨List.mem_of_getElem? (i := 218) (by decide +kernel), rfl⟩)
theorem tw_219 : (Jvm.Cond.methodLink "DelayMachine$Placing" (3 : Nat) ({ cls := "java/lang/Object", name := "<init>", desc := "()V" } : Jvm.MethodName)) ∈ lw_g := List.mem_append_right _ (List.mem_filter.mpr ⟨List.mem_of_getElem? (i := 219) (by decide +kernel), rfl⟩)
theorem tw_220 : (Jvm.Cond.methodLink "DelayMachine$Placing" (27 : Nat) ({ cls := "java/util/Arrays", name := "fill", desc := "([II)V" } : Jvm.MethodName)) ∈ lw_g := List.mem_append_right _ (List.mem_filter.mpr ⟨List.mem_of_getElem? (i := 220) (by decide +kernel), rfl⟩)
theorem tw_221 : (Jvm.Cond.static ({ cls := "java/util/Arrays", name := "fill", desc := "([II)V" } : Jvm.MethodName)) ∈ lw_g := List.mem_append_right _ (List.mem_filter.mpr ⟨List.mem_of_getElem? (i := 221) (by decide +kernel), rfl⟩)
theorem tw_222 : (Jvm.Cond.code ({ cls := "java/util/Arrays", name := "fill", desc := "([II)V" } : Jvm.MethodName) prog_13_method_103_code (4 : Nat) (Option.none : Option Jvm.ClassFile.FieldType)) ∈ lw_g := List.mem_append_right _ (List.mem_filter.mpr ⟨List.mem_of_getElem? (i := 222) (by decide +kernel), rfl⟩)
theorem tw_223 : (Jvm.Cond.fieldLink "DelayMachine$Placing" (9 : Nat) "DelayMachine$Placing" "orders" "[I") ∈ lw_g := List.mem_append_right _ (List.mem_filter.mpr ⟨List.mem_of_getElem? (i := 223) (by decide +kernel), rfl⟩)
theorem tw_225 : (Jvm.Cond.fieldLink "DelayMachine$Placing" (15 : Nat) "DelayMachine$Placing" "holders" "[I") ∈ lw_g := List.mem_append_right _ (List.mem_filter.mpr ⟨List.mem_of_getElem? (i := 225) (by decide +kernel), rfl⟩)
theorem tw_226 : (Jvm.Cond.fieldLink "DelayMachine$Placing" (18 : Nat) "DelayMachine$Placing" "variables" "[I") ∈ lw_g := List.mem_append_right _ (List.mem_filter.mpr ⟨List.mem_of_getElem? (i := 226) (by decide +kernel), rfl⟩)
theorem tw_228 : (Jvm.Cond.fieldLink "DelayMachine$Placing" (21 : Nat) "DelayMachine$Placing" "firsts" "[I") ∈ lw_g := List.mem_append_right _ (List.mem_filter.mpr ⟨List.mem_of_getElem? (i := 228) (by decide +kernel), rfl⟩)
theorem tw_230 : (Jvm.Cond.fieldLink "DelayMachine$Placing" (24 : Nat) "DelayMachine$Placing" "branches" "[I") ∈ lw_g := List.mem_append_right _ (List.mem_filter.mpr ⟨List.mem_of_getElem? (i := 230) (by decide +kernel), rfl⟩)
theorem tw_231 : (Jvm.Cond.fieldLink "DelayMachine$Placing" (68 : Nat) "DelayMachine$Placing" "from" "I") ∈ lw_g := List.mem_append_right _ (List.mem_filter.mpr ⟨List.mem_of_getElem? (i := 231) (by decide +kernel), rfl⟩)
theorem tw_232 : (Jvm.Cond.fieldLink "DelayMachine$Placing" (71 : Nat) "DelayMachine$Placing" "leader" "I") ∈ lw_g := List.mem_append_right _ (List.mem_filter.mpr ⟨List.mem_of_getElem? (i := 232) (by decide +kernel), rfl⟩)
theorem tw_233 : (Jvm.Cond.fieldLink "DelayMachine$Placing" (74 : Nat) "DelayMachine$Placing" "count" "I") ∈ lw_g := List.mem_append_right _ (List.mem_filter.mpr ⟨List.mem_of_getElem? (i := 233) (by decide +kernel), rfl⟩)
theorem tw_235 : (Jvm.Cond.fieldLink "DelayMachine$Placing" (57 : Nat) "DelayMachine$Placing" "fits" "Z") ∈ lw_g := List.mem_append_right _ (List.mem_filter.mpr ⟨List.mem_of_getElem? (i := 235) (by decide +kernel), rfl⟩)
theorem tw_255 : (Jvm.Cond.fieldLink "DelayMachine" (12 : Nat) "DelayMachine" "store" "LDelayMachine$Store;") ∈ lw_g := List.mem_append_right _ (List.mem_filter.mpr ⟨List.mem_of_getElem? (i := 255) (by decide +kernel), rfl⟩)
theorem tw_256 : (Jvm.Cond.fieldLink "DelayMachine" (19 : Nat) "DelayMachine" "reader" "LDelayMachine$Reader;") ∈ lw_g := List.mem_append_right _ (List.mem_filter.mpr ⟨List.mem_of_getElem? (i := 256) (by decide +kernel), rfl⟩)
theorem tw_257 : (Jvm.Cond.fieldLink "DelayMachine" (26 : Nat) "DelayMachine" "punch" "LDelayMachine$Punch;") ∈ lw_g := List.mem_append_right _ (List.mem_filter.mpr ⟨List.mem_of_getElem? (i := 257) (by decide +kernel), rfl⟩)
theorem tw_258 : (Jvm.Cond.fieldLink "DelayMachine" (35 : Nat) "DelayMachine" "machine" "LDelayMachine$Machine;") ∈ lw_g := List.mem_append_right _ (List.mem_filter.mpr ⟨List.mem_of_getElem? (i := 258) (by decide +kernel), rfl⟩)
theorem tw_259 : (Jvm.Cond.fieldLink "DelayMachine" (42 : Nat) "DelayMachine" "program" "LDelayMachine$Program;") ∈ lw_g := List.mem_append_right _ (List.mem_filter.mpr ⟨List.mem_of_getElem? (i := 259) (by decide +kernel), rfl⟩)
theorem tw_260 : (Jvm.Cond.fieldLink "DelayMachine" (49 : Nat) "DelayMachine" "kept" "LDelayMachine$Placing;") ∈ lw_g := List.mem_append_right _ (List.mem_filter.mpr ⟨List.mem_of_getElem? (i := 260) (by decide +kernel), rfl⟩)
theorem tw_261 : (Jvm.Cond.fieldLink "DelayMachine" (53 : Nat) "DelayMachine" "trial" "LDelayMachine$Placing;") ∈ lw_g := List.mem_append_right _ (List.mem_filter.mpr ⟨List.mem_of_getElem? (i := 261) (by decide +kernel), rfl⟩)
theorem tw_277 : (Jvm.Cond.methodLink "DelayMachineLaw" (13 : Nat) ({ cls := "DelayMachine", name := "order", desc := "(III)Z" } : Jvm.MethodName)) ∈ lw_g := List.mem_append_right _ (List.mem_filter.mpr ⟨List.mem_of_getElem? (i := 277) (by decide +kernel), rfl⟩)
theorem tw_278 : (Jvm.Cond.instanceMethod ({ cls := "DelayMachine", name := "order", desc := "(III)Z" } : Jvm.MethodName)) ∈ lw_g := List.mem_append_right _ (List.mem_filter.mpr ⟨List.mem_of_getElem? (i := 278) (by decide +kernel), rfl⟩)
theorem tw_279 : (Jvm.Cond.selects "DelayMachine" ({ cls := "DelayMachine", name := "order", desc := "(III)Z" } : Jvm.MethodName) ({ cls := "DelayMachine", name := "order", desc := "(III)Z" } : Jvm.MethodName)) ∈ lw_g := List.mem_append_right _ (List.mem_filter.mpr ⟨List.mem_of_getElem? (i := 279) (by decide +kernel), rfl⟩)
theorem tw_280 : (Jvm.Cond.code ({ cls := "DelayMachine", name := "order", desc := "(III)Z" } : Jvm.MethodName) prog_1_method_2_code (5 : Nat) (Option.some Jvm.ClassFile.FieldType.boolean)) ∈ lw_g := List.mem_append_right _ (List.mem_filter.mpr ⟨List.mem_of_getElem? (i := 280) (by decide +kernel), rfl⟩)
theorem tw_281 : (Jvm.Cond.methodLink "DelayMachine" (56 : Nat) ({ cls := "DelayMachine$Store", name := "orderSpot", desc := "(II)I" } : Jvm.MethodName)) ∈ lw_g := List.mem_append_right _ (List.mem_filter.mpr ⟨List.mem_of_getElem? (i := 281) (by decide +kernel), rfl⟩)
theorem tw_282 : (Jvm.Cond.static ({ cls := "DelayMachine$Store", name := "orderSpot", desc := "(II)I" } : Jvm.MethodName)) ∈ lw_g := List.mem_append_right _ (List.mem_filter.mpr ⟨List.mem_of_getElem? (i := 282) (by decide +kernel), rfl⟩)
theorem tw_283 : (Jvm.Cond.code ({ cls := "DelayMachine$Store", name := "orderSpot", desc := "(II)I" } : Jvm.MethodName) prog_8_method_2_code (3 : Nat) (Option.some Jvm.ClassFile.FieldType.int)) ∈ lw_g := List.mem_append_right _ (List.mem_filter.mpr ⟨List.mem_of_getElem? (i := 283) (by decide +kernel), rfl⟩)
theorem tw_284 : (Jvm.Cond.constant "DelayMachine" (60 : Nat) (2097151 : Int32)) ∈ lw_g := List.mem_append_right _ (List.mem_filter.mpr ⟨List.mem_of_getElem? (i := 284) (by decide +kernel), rfl⟩)
theorem tw_285 : (Jvm.Cond.methodLink "DelayMachineLaw" (18 : Nat) ({ cls := "DelayMachine", name := "word", desc := "(IIS)Z" } : Jvm.MethodName)) ∈ lw_g := List.mem_append_right _ (List.mem_filter.mpr ⟨List.mem_of_getElem? (i := 285) (by decide +kernel), rfl⟩)
theorem tw_286 : (Jvm.Cond.instanceMethod ({ cls := "DelayMachine", name := "word", desc := "(IIS)Z" } : Jvm.MethodName)) ∈ lw_g := List.mem_append_right _ (List.mem_filter.mpr ⟨List.mem_of_getElem? (i := 286) (by decide +kernel), rfl⟩)
theorem tw_287 : (Jvm.Cond.selects "DelayMachine" ({ cls := "DelayMachine", name := "word", desc := "(IIS)Z" } : Jvm.MethodName) ({ cls := "DelayMachine", name := "word", desc := "(IIS)Z" } : Jvm.MethodName)) ∈ lw_g := List.mem_append_right _ (List.mem_filter.mpr ⟨List.mem_of_getElem? (i := 287) (by decide +kernel), rfl⟩)
theorem tw_288 : (Jvm.Cond.code ({ cls := "DelayMachine", name := "word", desc := "(IIS)Z" } : Jvm.MethodName) prog_1_method_3_code (5 : Nat) (Option.some Jvm.ClassFile.FieldType.boolean)) ∈ lw_g := List.mem_append_right _ (List.mem_filter.mpr ⟨List.mem_of_getElem? (i := 288) (by decide +kernel), rfl⟩)
theorem tw_289 : (Jvm.Cond.methodLink "DelayMachine" (65 : Nat) ({ cls := "DelayMachine$Store", name := "wordSpot", desc := "(II)I" } : Jvm.MethodName)) ∈ lw_g := List.mem_append_right _ (List.mem_filter.mpr ⟨List.mem_of_getElem? (i := 289) (by decide +kernel), rfl⟩)
theorem tw_290 : (Jvm.Cond.static ({ cls := "DelayMachine$Store", name := "wordSpot", desc := "(II)I" } : Jvm.MethodName)) ∈ lw_g := List.mem_append_right _ (List.mem_filter.mpr ⟨List.mem_of_getElem? (i := 290) (by decide +kernel), rfl⟩)
theorem tw_291 : (Jvm.Cond.code ({ cls := "DelayMachine$Store", name := "wordSpot", desc := "(II)I" } : Jvm.MethodName) prog_8_method_3_code (2 : Nat) (Option.some Jvm.ClassFile.FieldType.int)) ∈ lw_g := List.mem_append_right _ (List.mem_filter.mpr ⟨List.mem_of_getElem? (i := 291) (by decide +kernel), rfl⟩)
theorem tw_292 : (Jvm.Cond.methodLink "DelayMachine$Store" (19 : Nat) ({ cls := "DelayMachine$Store", name := "placesOf", desc := "(I)I" } : Jvm.MethodName)) ∈ lw_g := List.mem_append_right _ (List.mem_filter.mpr ⟨List.mem_of_getElem? (i := 292) (by decide +kernel), rfl⟩)
theorem tw_293 : (Jvm.Cond.static ({ cls := "DelayMachine$Store", name := "placesOf", desc := "(I)I" } : Jvm.MethodName)) ∈ lw_g := List.mem_append_right _ (List.mem_filter.mpr ⟨List.mem_of_getElem? (i := 293) (by decide +kernel), rfl⟩)
theorem tw_294 : (Jvm.Cond.code ({ cls := "DelayMachine$Store", name := "placesOf", desc := "(I)I" } : Jvm.MethodName) prog_8_method_5_code (1 : Nat) (Option.some Jvm.ClassFile.FieldType.int)) ∈ lw_g := List.mem_append_right _ (List.mem_filter.mpr ⟨List.mem_of_getElem? (i := 294) (by decide +kernel), rfl⟩)
theorem tw_295 : (Jvm.Cond.methodLink "DelayMachine$Store" (23 : Nat) ({ cls := "DelayMachine$Store", name := "firstSpot", desc := "(I)I" } : Jvm.MethodName)) ∈ lw_g := List.mem_append_right _ (List.mem_filter.mpr ⟨List.mem_of_getElem? (i := 295) (by decide +kernel), rfl⟩)
theorem tw_296 : (Jvm.Cond.static ({ cls := "DelayMachine$Store", name := "firstSpot", desc := "(I)I" } : Jvm.MethodName)) ∈ lw_g := List.mem_append_right _ (List.mem_filter.mpr ⟨List.mem_of_getElem? (i := 296) (by decide +kernel), rfl⟩)
theorem tw_297 : (Jvm.Cond.code ({ cls := "DelayMachine$Store", name := "firstSpot", desc := "(I)I" } : Jvm.MethodName) prog_8_method_6_code (1 : Nat) (Option.some Jvm.ClassFile.FieldType.int)) ∈ lw_g := List.mem_append_right _ (List.mem_filter.mpr ⟨List.mem_of_getElem? (i := 297) (by decide +kernel), rfl⟩)
theorem tw_298 : (Jvm.Cond.methodLink "DelayMachineLaw" (23 : Nat) ({ cls := "DelayMachine", name := "card", desc := "(S)Z" } : Jvm.MethodName)) ∈ lw_g := List.mem_append_right _ (List.mem_filter.mpr ⟨List.mem_of_getElem? (i := 298) (by decide +kernel), rfl⟩)
theorem tw_299 : (Jvm.Cond.instanceMethod ({ cls := "DelayMachine", name := "card", desc := "(S)Z" } : Jvm.MethodName)) ∈ lw_g := List.mem_append_right _ (List.mem_filter.mpr ⟨List.mem_of_getElem? (i := 299) (by decide +kernel), rfl⟩)
theorem tw_300 : (Jvm.Cond.selects "DelayMachine" ({ cls := "DelayMachine", name := "card", desc := "(S)Z" } : Jvm.MethodName) ({ cls := "DelayMachine", name := "card", desc := "(S)Z" } : Jvm.MethodName)) ∈ lw_g := List.mem_append_right _ (List.mem_filter.mpr ⟨List.mem_of_getElem? (i := 300) (by decide +kernel), rfl⟩)
theorem tw_301 : (Jvm.Cond.code ({ cls := "DelayMachine", name := "card", desc := "(S)Z" } : Jvm.MethodName) prog_1_method_4_code (2 : Nat) (Option.some Jvm.ClassFile.FieldType.boolean)) ∈ lw_g := List.mem_append_right _ (List.mem_filter.mpr ⟨List.mem_of_getElem? (i := 301) (by decide +kernel), rfl⟩)
theorem tw_302 : (Jvm.Cond.methodLink "DelayMachine" (72 : Nat) ({ cls := "DelayMachine$Reader", name := "addRow", desc := "(S)Z" } : Jvm.MethodName)) ∈ lw_g := List.mem_append_right _ (List.mem_filter.mpr ⟨List.mem_of_getElem? (i := 302) (by decide +kernel), rfl⟩)
theorem tw_303 : (Jvm.Cond.instanceMethod ({ cls := "DelayMachine$Reader", name := "addRow", desc := "(S)Z" } : Jvm.MethodName)) ∈ lw_g := List.mem_append_right _ (List.mem_filter.mpr ⟨List.mem_of_getElem? (i := 303) (by decide +kernel), rfl⟩)
theorem tw_304 : (Jvm.Cond.selects "DelayMachine$Reader" ({ cls := "DelayMachine$Reader", name := "addRow", desc := "(S)Z" } : Jvm.MethodName) ({ cls := "DelayMachine$Reader", name := "addRow", desc := "(S)Z" } : Jvm.MethodName)) ∈ lw_g := List.mem_append_right _ (List.mem_filter.mpr ⟨List.mem_of_getElem? (i := 304) (by decide +kernel), rfl⟩)
theorem tw_305 : (Jvm.Cond.code ({ cls := "DelayMachine$Reader", name := "addRow", desc := "(S)Z" } : Jvm.MethodName) prog_7_method_2_code (2 : Nat) (Option.some Jvm.ClassFile.FieldType.boolean)) ∈ lw_g := List.mem_append_right _ (List.mem_filter.mpr ⟨List.mem_of_getElem? (i := 305) (by decide +kernel), rfl⟩)
theorem tw_306 : (Jvm.Cond.methodLink "DelayMachineLaw" (28 : Nat) ({ cls := "DelayMachine", name := "start", desc := "(II)Z" } : Jvm.MethodName)) ∈ lw_g := List.mem_append_right _ (List.mem_filter.mpr ⟨List.mem_of_getElem? (i := 306) (by decide +kernel), rfl⟩)
theorem tw_307 : (Jvm.Cond.instanceMethod ({ cls := "DelayMachine", name := "start", desc := "(II)Z" } : Jvm.MethodName)) ∈ lw_g := List.mem_append_right _ (List.mem_filter.mpr ⟨List.mem_of_getElem? (i := 307) (by decide +kernel), rfl⟩)
theorem tw_308 : (Jvm.Cond.selects "DelayMachine" ({ cls := "DelayMachine", name := "start", desc := "(II)Z" } : Jvm.MethodName) ({ cls := "DelayMachine", name := "start", desc := "(II)Z" } : Jvm.MethodName)) ∈ lw_g := List.mem_append_right _ (List.mem_filter.mpr ⟨List.mem_of_getElem? (i := 308) (by decide +kernel), rfl⟩)
theorem tw_309 : (Jvm.Cond.code ({ cls := "DelayMachine", name := "start", desc := "(II)Z" } : Jvm.MethodName) prog_1_method_5_code (3 : Nat) (Option.some Jvm.ClassFile.FieldType.boolean)) ∈ lw_g := List.mem_append_right _ (List.mem_filter.mpr ⟨List.mem_of_getElem? (i := 309) (by decide +kernel), rfl⟩)
theorem tw_310 : (Jvm.Cond.methodLink "DelayMachine" (76 : Nat) ({ cls := "DelayMachine$Machine", name := "begin", desc := "(II)V" } : Jvm.MethodName)) ∈ lw_g := List.mem_append_right _ (List.mem_filter.mpr ⟨List.mem_of_getElem? (i := 310) (by decide +kernel), rfl⟩)
theorem tw_311 : (Jvm.Cond.instanceMethod ({ cls := "DelayMachine$Machine", name := "begin", desc := "(II)V" } : Jvm.MethodName)) ∈ lw_g := List.mem_append_right _ (List.mem_filter.mpr ⟨List.mem_of_getElem? (i := 311) (by decide +kernel), rfl⟩)
theorem tw_312 : (Jvm.Cond.selects "DelayMachine$Machine" ({ cls := "DelayMachine$Machine", name := "begin", desc := "(II)V" } : Jvm.MethodName) ({ cls := "DelayMachine$Machine", name := "begin", desc := "(II)V" } : Jvm.MethodName)) ∈ lw_g := List.mem_append_right _ (List.mem_filter.mpr ⟨List.mem_of_getElem? (i := 312) (by decide +kernel), rfl⟩)
theorem tw_313 : (Jvm.Cond.code ({ cls := "DelayMachine$Machine", name := "begin", desc := "(II)V" } : Jvm.MethodName) prog_2_method_2_code (3 : Nat) (Option.none : Option Jvm.ClassFile.FieldType)) ∈ lw_g := List.mem_append_right _ (List.mem_filter.mpr ⟨List.mem_of_getElem? (i := 313) (by decide +kernel), rfl⟩)
theorem tw_314 : (Jvm.Cond.methodLink "DelayMachine$Machine" (66 : Nat) ({ cls := "DelayMachine$Window", name := "close", desc := "()V" } : Jvm.MethodName)) ∈ lw_g := List.mem_append_right _ (List.mem_filter.mpr ⟨List.mem_of_getElem? (i := 314) (by decide +kernel), rfl⟩)
theorem tw_315 : (Jvm.Cond.instanceMethod ({ cls := "DelayMachine$Window", name := "close", desc := "()V" } : Jvm.MethodName)) ∈ lw_g := List.mem_append_right _ (List.mem_filter.mpr ⟨List.mem_of_getElem? (i := 315) (by decide +kernel), rfl⟩)
theorem tw_316 : (Jvm.Cond.selects "DelayMachine$Window" ({ cls := "DelayMachine$Window", name := "close", desc := "()V" } : Jvm.MethodName) ({ cls := "DelayMachine$Window", name := "close", desc := "()V" } : Jvm.MethodName)) ∈ lw_g := List.mem_append_right _ (List.mem_filter.mpr ⟨List.mem_of_getElem? (i := 316) (by decide +kernel), rfl⟩)
theorem tw_317 : (Jvm.Cond.code ({ cls := "DelayMachine$Window", name := "close", desc := "()V" } : Jvm.MethodName) prog_9_method_2_code (1 : Nat) (Option.none : Option Jvm.ClassFile.FieldType)) ∈ lw_g := List.mem_append_right _ (List.mem_filter.mpr ⟨List.mem_of_getElem? (i := 317) (by decide +kernel), rfl⟩)
theorem tw_318 : (Jvm.Cond.methodLink "DelayMachine$Machine" (69 : Nat) ({ cls := "DelayMachine$Multiplier", name := "rest", desc := "()V" } : Jvm.MethodName)) ∈ lw_g := List.mem_append_right _ (List.mem_filter.mpr ⟨List.mem_of_getElem? (i := 318) (by decide +kernel), rfl⟩)
theorem tw_319 : (Jvm.Cond.instanceMethod ({ cls := "DelayMachine$Multiplier", name := "rest", desc := "()V" } : Jvm.MethodName)) ∈ lw_g := List.mem_append_right _ (List.mem_filter.mpr ⟨List.mem_of_getElem? (i := 319) (by decide +kernel), rfl⟩)
theorem tw_320 : (Jvm.Cond.selects "DelayMachine$Multiplier" ({ cls := "DelayMachine$Multiplier", name := "rest", desc := "()V" } : Jvm.MethodName) ({ cls := "DelayMachine$Multiplier", name := "rest", desc := "()V" } : Jvm.MethodName)) ∈ lw_g := List.mem_append_right _ (List.mem_filter.mpr ⟨List.mem_of_getElem? (i := 320) (by decide +kernel), rfl⟩)
theorem tw_321 : (Jvm.Cond.code ({ cls := "DelayMachine$Multiplier", name := "rest", desc := "()V" } : Jvm.MethodName) prog_3_method_2_code (1 : Nat) (Option.none : Option Jvm.ClassFile.FieldType)) ∈ lw_g := List.mem_append_right _ (List.mem_filter.mpr ⟨List.mem_of_getElem? (i := 321) (by decide +kernel), rfl⟩)
theorem tw_322 : (Jvm.Cond.methodLink "DelayMachine$Machine" (72 : Nat) ({ cls := "DelayMachine$Reader", name := "rest", desc := "()V" } : Jvm.MethodName)) ∈ lw_g := List.mem_append_right _ (List.mem_filter.mpr ⟨List.mem_of_getElem? (i := 322) (by decide +kernel), rfl⟩)
theorem tw_323 : (Jvm.Cond.instanceMethod ({ cls := "DelayMachine$Reader", name := "rest", desc := "()V" } : Jvm.MethodName)) ∈ lw_g := List.mem_append_right _ (List.mem_filter.mpr ⟨List.mem_of_getElem? (i := 323) (by decide +kernel), rfl⟩)
theorem tw_324 : (Jvm.Cond.selects "DelayMachine$Reader" ({ cls := "DelayMachine$Reader", name := "rest", desc := "()V" } : Jvm.MethodName) ({ cls := "DelayMachine$Reader", name := "rest", desc := "()V" } : Jvm.MethodName)) ∈ lw_g := List.mem_append_right _ (List.mem_filter.mpr ⟨List.mem_of_getElem? (i := 324) (by decide +kernel), rfl⟩)
theorem tw_325 : (Jvm.Cond.code ({ cls := "DelayMachine$Reader", name := "rest", desc := "()V" } : Jvm.MethodName) prog_7_method_4_code (1 : Nat) (Option.none : Option Jvm.ClassFile.FieldType)) ∈ lw_g := List.mem_append_right _ (List.mem_filter.mpr ⟨List.mem_of_getElem? (i := 325) (by decide +kernel), rfl⟩)
theorem tw_326 : (Jvm.Cond.methodLink "DelayMachineLaw" (33 : Nat) ({ cls := "DelayMachine", name := "run", desc := "(I)I" } : Jvm.MethodName)) ∈ lw_g := List.mem_append_right _ (List.mem_filter.mpr ⟨List.mem_of_getElem? (i := 326) (by decide +kernel), rfl⟩)
theorem tw_327 : (Jvm.Cond.instanceMethod ({ cls := "DelayMachine", name := "run", desc := "(I)I" } : Jvm.MethodName)) ∈ lw_g := List.mem_append_right _ (List.mem_filter.mpr ⟨List.mem_of_getElem? (i := 327) (by decide +kernel), rfl⟩)
theorem tw_328 : (Jvm.Cond.selects "DelayMachine" ({ cls := "DelayMachine", name := "run", desc := "(I)I" } : Jvm.MethodName) ({ cls := "DelayMachine", name := "run", desc := "(I)I" } : Jvm.MethodName)) ∈ lw_g := List.mem_append_right _ (List.mem_filter.mpr ⟨List.mem_of_getElem? (i := 328) (by decide +kernel), rfl⟩)
theorem tw_329 : (Jvm.Cond.code ({ cls := "DelayMachine", name := "run", desc := "(I)I" } : Jvm.MethodName) prog_1_method_6_code (3 : Nat) (Option.some Jvm.ClassFile.FieldType.int)) ∈ lw_g := List.mem_append_right _ (List.mem_filter.mpr ⟨List.mem_of_getElem? (i := 329) (by decide +kernel), rfl⟩)
theorem tw_330 : (Jvm.Cond.methodLink "DelayMachine" (84 : Nat) ({ cls := "DelayMachine$Machine", name := "goThroughCycle", desc := "()V" } : Jvm.MethodName)) ∈ lw_g := List.mem_append_right _ (List.mem_filter.mpr ⟨List.mem_of_getElem? (i := 330) (by decide +kernel), rfl⟩)
theorem tw_331 : (Jvm.Cond.instanceMethod ({ cls := "DelayMachine$Machine", name := "goThroughCycle", desc := "()V" } : Jvm.MethodName)) ∈ lw_g := List.mem_append_right _ (List.mem_filter.mpr ⟨List.mem_of_getElem? (i := 331) (by decide +kernel), rfl⟩)
theorem tw_332 : (Jvm.Cond.selects "DelayMachine$Machine" ({ cls := "DelayMachine$Machine", name := "goThroughCycle", desc := "()V" } : Jvm.MethodName) ({ cls := "DelayMachine$Machine", name := "goThroughCycle", desc := "()V" } : Jvm.MethodName)) ∈ lw_g := List.mem_append_right _ (List.mem_filter.mpr ⟨List.mem_of_getElem? (i := 332) (by decide +kernel), rfl⟩)
theorem tw_333 : (Jvm.Cond.code ({ cls := "DelayMachine$Machine", name := "goThroughCycle", desc := "()V" } : Jvm.MethodName) prog_2_method_3_code (1 : Nat) (Option.none : Option Jvm.ClassFile.FieldType)) ∈ lw_g := List.mem_append_right _ (List.mem_filter.mpr ⟨List.mem_of_getElem? (i := 333) (by decide +kernel), rfl⟩)
theorem tw_334 : (Jvm.Cond.methodLink "DelayMachine$Machine" (75 : Nat) ({ cls := "DelayMachine$Machine", name := "takeOrder", desc := "()V" } : Jvm.MethodName)) ∈ lw_g := List.mem_append_right _ (List.mem_filter.mpr ⟨List.mem_of_getElem? (i := 334) (by decide +kernel), rfl⟩)
theorem tw_336 : (Jvm.Cond.instanceMethod ({ cls := "DelayMachine$Machine", name := "takeOrder", desc := "()V" } : Jvm.MethodName)) ∈ lw_g := List.mem_append_right _ (List.mem_filter.mpr ⟨List.mem_of_getElem? (i := 336) (by decide +kernel), rfl⟩)
theorem tw_337 : (Jvm.Cond.code ({ cls := "DelayMachine$Machine", name := "takeOrder", desc := "()V" } : Jvm.MethodName) prog_2_method_4_code (3 : Nat) (Option.none : Option Jvm.ClassFile.FieldType)) ∈ lw_g := List.mem_append_right _ (List.mem_filter.mpr ⟨List.mem_of_getElem? (i := 337) (by decide +kernel), rfl⟩)
theorem tw_338 : (Jvm.Cond.methodLink "DelayMachine$Machine" (102 : Nat) ({ cls := "DelayMachine$Window", name := "open", desc := "(II)V" } : Jvm.MethodName)) ∈ lw_g := List.mem_append_right _ (List.mem_filter.mpr ⟨List.mem_of_getElem? (i := 338) (by decide +kernel), rfl⟩)
theorem tw_339 : (Jvm.Cond.instanceMethod ({ cls := "DelayMachine$Window", name := "open", desc := "(II)V" } : Jvm.MethodName)) ∈ lw_g := List.mem_append_right _ (List.mem_filter.mpr ⟨List.mem_of_getElem? (i := 339) (by decide +kernel), rfl⟩)
theorem tw_340 : (Jvm.Cond.selects "DelayMachine$Window" ({ cls := "DelayMachine$Window", name := "open", desc := "(II)V" } : Jvm.MethodName) ({ cls := "DelayMachine$Window", name := "open", desc := "(II)V" } : Jvm.MethodName)) ∈ lw_g := List.mem_append_right _ (List.mem_filter.mpr ⟨List.mem_of_getElem? (i := 340) (by decide +kernel), rfl⟩)
theorem tw_341 : (Jvm.Cond.code ({ cls := "DelayMachine$Window", name := "open", desc := "(II)V" } : Jvm.MethodName) prog_9_method_3_code (6 : Nat) (Option.none : Option Jvm.ClassFile.FieldType)) ∈ lw_g := List.mem_append_right _ (List.mem_filter.mpr ⟨List.mem_of_getElem? (i := 341) (by decide +kernel), rfl⟩)
theorem tw_342 : (Jvm.Cond.methodLink "DelayMachine$Window" (27 : Nat) ({ cls := "DelayMachine$Window", name := "lastOf", desc := "(I)I" } : Jvm.MethodName)) ∈ lw_g := List.mem_append_right _ (List.mem_filter.mpr ⟨List.mem_of_getElem? (i := 342) (by decide +kernel), rfl⟩)
theorem tw_344 : (Jvm.Cond.instanceMethod ({ cls := "DelayMachine$Window", name := "lastOf", desc := "(I)I" } : Jvm.MethodName)) ∈ lw_g := List.mem_append_right _ (List.mem_filter.mpr ⟨List.mem_of_getElem? (i := 344) (by decide +kernel), rfl⟩)
theorem tw_345 : (Jvm.Cond.code ({ cls := "DelayMachine$Window", name := "lastOf", desc := "(I)I" } : Jvm.MethodName) prog_9_method_4_code (2 : Nat) (Option.some Jvm.ClassFile.FieldType.int)) ∈ lw_g := List.mem_append_right _ (List.mem_filter.mpr ⟨List.mem_of_getElem? (i := 345) (by decide +kernel), rfl⟩)
theorem tw_346 : (Jvm.Cond.methodLink "DelayMachine$Machine" (78 : Nat) ({ cls := "DelayMachine$Window", name := "covers", desc := "(I)Z" } : Jvm.MethodName)) ∈ lw_g := List.mem_append_right _ (List.mem_filter.mpr ⟨List.mem_of_getElem? (i := 346) (by decide +kernel), rfl⟩)
theorem tw_347 : (Jvm.Cond.instanceMethod ({ cls := "DelayMachine$Window", name := "covers", desc := "(I)Z" } : Jvm.MethodName)) ∈ lw_g := List.mem_append_right _ (List.mem_filter.mpr ⟨List.mem_of_getElem? (i := 347) (by decide +kernel), rfl⟩)
theorem tw_348 : (Jvm.Cond.selects "DelayMachine$Window" ({ cls := "DelayMachine$Window", name := "covers", desc := "(I)Z" } : Jvm.MethodName) ({ cls := "DelayMachine$Window", name := "covers", desc := "(I)Z" } : Jvm.MethodName)) ∈ lw_g := List.mem_append_right _ (List.mem_filter.mpr ⟨List.mem_of_getElem? (i := 348) (by decide +kernel), rfl⟩)
theorem tw_349 : (Jvm.Cond.code ({ cls := "DelayMachine$Window", name := "covers", desc := "(I)Z" } : Jvm.MethodName) prog_9_method_5_code (2 : Nat) (Option.some Jvm.ClassFile.FieldType.boolean)) ∈ lw_g := List.mem_append_right _ (List.mem_filter.mpr ⟨List.mem_of_getElem? (i := 349) (by decide +kernel), rfl⟩)
theorem tw_350 : (Jvm.Cond.methodLink "DelayMachine$Machine" (82 : Nat) ({ cls := "DelayMachine$Machine", name := "move", desc := "(LDelayMachine$Window;)V" } : Jvm.MethodName)) ∈ lw_g := List.mem_append_right _ (List.mem_filter.mpr ⟨List.mem_of_getElem? (i := 350) (by decide +kernel), rfl⟩)
theorem tw_352 : (Jvm.Cond.instanceMethod ({ cls := "DelayMachine$Machine", name := "move", desc := "(LDelayMachine$Window;)V" } : Jvm.MethodName)) ∈ lw_g := List.mem_append_right _ (List.mem_filter.mpr ⟨List.mem_of_getElem? (i := 352) (by decide +kernel), rfl⟩)
theorem tw_353 : (Jvm.Cond.code ({ cls := "DelayMachine$Machine", name := "move", desc := "(LDelayMachine$Window;)V" } : Jvm.MethodName) prog_2_method_6_code (3 : Nat) (Option.none : Option Jvm.ClassFile.FieldType)) ∈ lw_g := List.mem_append_right _ (List.mem_filter.mpr ⟨List.mem_of_getElem? (i := 353) (by decide +kernel), rfl⟩)
theorem tw_354 : (Jvm.Cond.methodLink "DelayMachine$Machine" (112 : Nat) ({ cls := "DelayMachine$Machine", name := "sourceWord", desc := "(I)S" } : Jvm.MethodName)) ∈ lw_g := List.mem_append_right _ (List.mem_filter.mpr ⟨List.mem_of_getElem? (i := 354) (by decide +kernel), rfl⟩)
theorem tw_356 : (Jvm.Cond.instanceMethod ({ cls := "DelayMachine$Machine", name := "sourceWord", desc := "(I)S" } : Jvm.MethodName)) ∈ lw_g := List.mem_append_right _ (List.mem_filter.mpr ⟨List.mem_of_getElem? (i := 356) (by decide +kernel), rfl⟩)
theorem tw_357 : (Jvm.Cond.code ({ cls := "DelayMachine$Machine", name := "sourceWord", desc := "(I)S" } : Jvm.MethodName) prog_2_method_8_code (4 : Nat) (Option.some Jvm.ClassFile.FieldType.short)) ∈ lw_g := List.mem_append_right _ (List.mem_filter.mpr ⟨List.mem_of_getElem? (i := 357) (by decide +kernel), rfl⟩)
theorem tw_358 : (Jvm.Cond.methodLink "DelayMachine$Machine" (131 : Nat) ({ cls := "DelayMachine$Reader", name := "moveRow", desc := "(I)S" } : Jvm.MethodName)) ∈ lw_g := List.mem_append_right _ (List.mem_filter.mpr ⟨List.mem_of_getElem? (i := 358) (by decide +kernel), rfl⟩)
theorem tw_359 : (Jvm.Cond.instanceMethod ({ cls := "DelayMachine$Reader", name := "moveRow", desc := "(I)S" } : Jvm.MethodName)) ∈ lw_g := List.mem_append_right _ (List.mem_filter.mpr ⟨List.mem_of_getElem? (i := 359) (by decide +kernel), rfl⟩)
theorem tw_360 : (Jvm.Cond.selects "DelayMachine$Reader" ({ cls := "DelayMachine$Reader", name := "moveRow", desc := "(I)S" } : Jvm.MethodName) ({ cls := "DelayMachine$Reader", name := "moveRow", desc := "(I)S" } : Jvm.MethodName)) ∈ lw_g := List.mem_append_right _ (List.mem_filter.mpr ⟨List.mem_of_getElem? (i := 360) (by decide +kernel), rfl⟩)
theorem tw_361 : (Jvm.Cond.code ({ cls := "DelayMachine$Reader", name := "moveRow", desc := "(I)S" } : Jvm.MethodName) prog_7_method_7_code (3 : Nat) (Option.some Jvm.ClassFile.FieldType.short)) ∈ lw_g := List.mem_append_right _ (List.mem_filter.mpr ⟨List.mem_of_getElem? (i := 361) (by decide +kernel), rfl⟩)
theorem tw_362 : (Jvm.Cond.methodLink "DelayMachine$Reader" (36 : Nat) ({ cls := "DelayMachine$Reader", name := "offset", desc := "(I)I" } : Jvm.MethodName)) ∈ lw_g := List.mem_append_right _ (List.mem_filter.mpr ⟨List.mem_of_getElem? (i := 362) (by decide +kernel), rfl⟩)
theorem tw_364 : (Jvm.Cond.instanceMethod ({ cls := "DelayMachine$Reader", name := "offset", desc := "(I)I" } : Jvm.MethodName)) ∈ lw_g := List.mem_append_right _ (List.mem_filter.mpr ⟨List.mem_of_getElem? (i := 364) (by decide +kernel), rfl⟩)
theorem tw_365 : (Jvm.Cond.code ({ cls := "DelayMachine$Reader", name := "offset", desc := "(I)I" } : Jvm.MethodName) prog_7_method_6_code (4 : Nat) (Option.some Jvm.ClassFile.FieldType.int)) ∈ lw_g := List.mem_append_right _ (List.mem_filter.mpr ⟨List.mem_of_getElem? (i := 365) (by decide +kernel), rfl⟩)
theorem tw_366 : (Jvm.Cond.methodLink "DelayMachine$Machine" (134 : Nat) ({ cls := "DelayMachine$Store", name := "presentedSpot", desc := "(II)I" } : Jvm.MethodName)) ∈ lw_g := List.mem_append_right _ (List.mem_filter.mpr ⟨List.mem_of_getElem? (i := 366) (by decide +kernel), rfl⟩)
theorem tw_367 : (Jvm.Cond.static ({ cls := "DelayMachine$Store", name := "presentedSpot", desc := "(II)I" } : Jvm.MethodName)) ∈ lw_g := List.mem_append_right _ (List.mem_filter.mpr ⟨List.mem_of_getElem? (i := 367) (by decide +kernel), rfl⟩)
theorem tw_368 : (Jvm.Cond.code ({ cls := "DelayMachine$Store", name := "presentedSpot", desc := "(II)I" } : Jvm.MethodName) prog_8_method_4_code (2 : Nat) (Option.some Jvm.ClassFile.FieldType.int)) ∈ lw_g := List.mem_append_right _ (List.mem_filter.mpr ⟨List.mem_of_getElem? (i := 368) (by decide +kernel), rfl⟩)
theorem tw_369 : (Jvm.Cond.methodLink "DelayMachine$Machine" (119 : Nat) ({ cls := "DelayMachine$Machine", name := "discriminate", desc := "(LDelayMachine$Window;Z)V" } : Jvm.MethodName)) ∈ lw_g := List.mem_append_right _ (List.mem_filter.mpr ⟨List.mem_of_getElem? (i := 369) (by decide +kernel), rfl⟩)
theorem tw_371 : (Jvm.Cond.instanceMethod ({ cls := "DelayMachine$Machine", name := "discriminate", desc := "(LDelayMachine$Window;Z)V" } : Jvm.MethodName)) ∈ lw_g := List.mem_append_right _ (List.mem_filter.mpr ⟨List.mem_of_getElem? (i := 371) (by decide +kernel), rfl⟩)
theorem tw_372 : (Jvm.Cond.code ({ cls := "DelayMachine$Machine", name := "discriminate", desc := "(LDelayMachine$Window;Z)V" } : Jvm.MethodName) prog_2_method_7_code (3 : Nat) (Option.none : Option Jvm.ClassFile.FieldType)) ∈ lw_g := List.mem_append_right _ (List.mem_filter.mpr ⟨List.mem_of_getElem? (i := 372) (by decide +kernel), rfl⟩)
theorem tw_373 : (Jvm.Cond.methodLink "DelayMachine$Machine" (123 : Nat) ({ cls := "DelayMachine$Machine", name := "deliver", desc := "(SI)V" } : Jvm.MethodName)) ∈ lw_g := List.mem_append_right _ (List.mem_filter.mpr ⟨List.mem_of_getElem? (i := 373) (by decide +kernel), rfl⟩)
theorem tw_375 : (Jvm.Cond.instanceMethod ({ cls := "DelayMachine$Machine", name := "deliver", desc := "(SI)V" } : Jvm.MethodName)) ∈ lw_g := List.mem_append_right _ (List.mem_filter.mpr ⟨List.mem_of_getElem? (i := 375) (by decide +kernel), rfl⟩)
theorem tw_376 : (Jvm.Cond.code ({ cls := "DelayMachine$Machine", name := "deliver", desc := "(SI)V" } : Jvm.MethodName) prog_2_method_9_code (3 : Nat) (Option.none : Option Jvm.ClassFile.FieldType)) ∈ lw_g := List.mem_append_right _ (List.mem_filter.mpr ⟨List.mem_of_getElem? (i := 376) (by decide +kernel), rfl⟩)
theorem tw_377 : (Jvm.Cond.methodLink "DelayMachine$Machine" (138 : Nat) ({ cls := "DelayMachine$Multiplier", name := "begin", desc := "(SLDelayMachine$Store;)V" } : Jvm.MethodName)) ∈ lw_g := List.mem_append_right _ (List.mem_filter.mpr ⟨List.mem_of_getElem? (i := 377) (by decide +kernel), rfl⟩)
theorem tw_378 : (Jvm.Cond.instanceMethod ({ cls := "DelayMachine$Multiplier", name := "begin", desc := "(SLDelayMachine$Store;)V" } : Jvm.MethodName)) ∈ lw_g := List.mem_append_right _ (List.mem_filter.mpr ⟨List.mem_of_getElem? (i := 378) (by decide +kernel), rfl⟩)
theorem tw_379 : (Jvm.Cond.selects "DelayMachine$Multiplier" ({ cls := "DelayMachine$Multiplier", name := "begin", desc := "(SLDelayMachine$Store;)V" } : Jvm.MethodName) ({ cls := "DelayMachine$Multiplier", name := "begin", desc := "(SLDelayMachine$Store;)V" } : Jvm.MethodName)) ∈ lw_g := List.mem_append_right _ (List.mem_filter.mpr ⟨List.mem_of_getElem? (i := 379) (by decide +kernel), rfl⟩)
theorem tw_380 : (Jvm.Cond.code ({ cls := "DelayMachine$Multiplier", name := "begin", desc := "(SLDelayMachine$Store;)V" } : Jvm.MethodName) prog_3_method_3_code (3 : Nat) (Option.none : Option Jvm.ClassFile.FieldType)) ∈ lw_g := List.mem_append_right _ (List.mem_filter.mpr ⟨List.mem_of_getElem? (i := 380) (by decide +kernel), rfl⟩)
theorem tw_381 : (Jvm.Cond.methodLink "DelayMachine$Multiplier" (20 : Nat) ({ cls := "DelayMachine$Store", name := "setProduct", desc := "(I)V" } : Jvm.MethodName)) ∈ lw_g := List.mem_append_right _ (List.mem_filter.mpr ⟨List.mem_of_getElem? (i := 381) (by decide +kernel), rfl⟩)
theorem tw_382 : (Jvm.Cond.instanceMethod ({ cls := "DelayMachine$Store", name := "setProduct", desc := "(I)V" } : Jvm.MethodName)) ∈ lw_g := List.mem_append_right _ (List.mem_filter.mpr ⟨List.mem_of_getElem? (i := 382) (by decide +kernel), rfl⟩)
theorem tw_383 : (Jvm.Cond.selects "DelayMachine$Store" ({ cls := "DelayMachine$Store", name := "setProduct", desc := "(I)V" } : Jvm.MethodName) ({ cls := "DelayMachine$Store", name := "setProduct", desc := "(I)V" } : Jvm.MethodName)) ∈ lw_g := List.mem_append_right _ (List.mem_filter.mpr ⟨List.mem_of_getElem? (i := 383) (by decide +kernel), rfl⟩)
theorem tw_384 : (Jvm.Cond.code ({ cls := "DelayMachine$Store", name := "setProduct", desc := "(I)V" } : Jvm.MethodName) prog_8_method_8_code (2 : Nat) (Option.none : Option Jvm.ClassFile.FieldType)) ∈ lw_g := List.mem_append_right _ (List.mem_filter.mpr ⟨List.mem_of_getElem? (i := 384) (by decide +kernel), rfl⟩)
theorem tw_385 : (Jvm.Cond.methodLink "DelayMachine$Machine" (142 : Nat) ({ cls := "DelayMachine$Reader", name := "feed", desc := "(I)Z" } : Jvm.MethodName)) ∈ lw_g := List.mem_append_right _ (List.mem_filter.mpr ⟨List.mem_of_getElem? (i := 385) (by decide +kernel), rfl⟩)
theorem tw_386 : (Jvm.Cond.instanceMethod ({ cls := "DelayMachine$Reader", name := "feed", desc := "(I)Z" } : Jvm.MethodName)) ∈ lw_g := List.mem_append_right _ (List.mem_filter.mpr ⟨List.mem_of_getElem? (i := 386) (by decide +kernel), rfl⟩)
theorem tw_387 : (Jvm.Cond.selects "DelayMachine$Reader" ({ cls := "DelayMachine$Reader", name := "feed", desc := "(I)Z" } : Jvm.MethodName) ({ cls := "DelayMachine$Reader", name := "feed", desc := "(I)Z" } : Jvm.MethodName)) ∈ lw_g := List.mem_append_right _ (List.mem_filter.mpr ⟨List.mem_of_getElem? (i := 387) (by decide +kernel), rfl⟩)
theorem tw_388 : (Jvm.Cond.code ({ cls := "DelayMachine$Reader", name := "feed", desc := "(I)Z" } : Jvm.MethodName) prog_7_method_5_code (2 : Nat) (Option.some Jvm.ClassFile.FieldType.boolean)) ∈ lw_g := List.mem_append_right _ (List.mem_filter.mpr ⟨List.mem_of_getElem? (i := 388) (by decide +kernel), rfl⟩)
theorem tw_389 : (Jvm.Cond.methodLink "DelayMachine$Reader" (29 : Nat) ({ cls := "DelayMachine$Reader", name := "rowsLeft", desc := "()I" } : Jvm.MethodName)) ∈ lw_g := List.mem_append_right _ (List.mem_filter.mpr ⟨List.mem_of_getElem? (i := 389) (by decide +kernel), rfl⟩)
theorem tw_390 : (Jvm.Cond.instanceMethod ({ cls := "DelayMachine$Reader", name := "rowsLeft", desc := "()I" } : Jvm.MethodName)) ∈ lw_g := List.mem_append_right _ (List.mem_filter.mpr ⟨List.mem_of_getElem? (i := 390) (by decide +kernel), rfl⟩)
theorem tw_391 : (Jvm.Cond.selects "DelayMachine$Reader" ({ cls := "DelayMachine$Reader", name := "rowsLeft", desc := "()I" } : Jvm.MethodName) ({ cls := "DelayMachine$Reader", name := "rowsLeft", desc := "()I" } : Jvm.MethodName)) ∈ lw_g := List.mem_append_right _ (List.mem_filter.mpr ⟨List.mem_of_getElem? (i := 391) (by decide +kernel), rfl⟩)
theorem tw_392 : (Jvm.Cond.code ({ cls := "DelayMachine$Reader", name := "rowsLeft", desc := "()I" } : Jvm.MethodName) prog_7_method_3_code (1 : Nat) (Option.some Jvm.ClassFile.FieldType.int)) ∈ lw_g := List.mem_append_right _ (List.mem_filter.mpr ⟨List.mem_of_getElem? (i := 392) (by decide +kernel), rfl⟩)
theorem tw_393 : (Jvm.Cond.methodLink "DelayMachine$Machine" (92 : Nat) ({ cls := "DelayMachine$Machine", name := "stopBy", desc := "(I)V" } : Jvm.MethodName)) ∈ lw_g := List.mem_append_right _ (List.mem_filter.mpr ⟨List.mem_of_getElem? (i := 393) (by decide +kernel), rfl⟩)
theorem tw_395 : (Jvm.Cond.instanceMethod ({ cls := "DelayMachine$Machine", name := "stopBy", desc := "(I)V" } : Jvm.MethodName)) ∈ lw_g := List.mem_append_right _ (List.mem_filter.mpr ⟨List.mem_of_getElem? (i := 395) (by decide +kernel), rfl⟩)
theorem tw_396 : (Jvm.Cond.code ({ cls := "DelayMachine$Machine", name := "stopBy", desc := "(I)V" } : Jvm.MethodName) prog_2_method_5_code (2 : Nat) (Option.none : Option Jvm.ClassFile.FieldType)) ∈ lw_g := List.mem_append_right _ (List.mem_filter.mpr ⟨List.mem_of_getElem? (i := 396) (by decide +kernel), rfl⟩)
theorem tw_397 : (Jvm.Cond.methodLink "DelayMachine$Machine" (145 : Nat) ({ cls := "DelayMachine$Punch", name := "take", desc := "(SI)Z" } : Jvm.MethodName)) ∈ lw_g := List.mem_append_right _ (List.mem_filter.mpr ⟨List.mem_of_getElem? (i := 397) (by decide +kernel), rfl⟩)
theorem tw_398 : (Jvm.Cond.instanceMethod ({ cls := "DelayMachine$Punch", name := "take", desc := "(SI)Z" } : Jvm.MethodName)) ∈ lw_g := List.mem_append_right _ (List.mem_filter.mpr ⟨List.mem_of_getElem? (i := 398) (by decide +kernel), rfl⟩)
theorem tw_399 : (Jvm.Cond.selects "DelayMachine$Punch" ({ cls := "DelayMachine$Punch", name := "take", desc := "(SI)Z" } : Jvm.MethodName) ({ cls := "DelayMachine$Punch", name := "take", desc := "(SI)Z" } : Jvm.MethodName)) ∈ lw_g := List.mem_append_right _ (List.mem_filter.mpr ⟨List.mem_of_getElem? (i := 399) (by decide +kernel), rfl⟩)
theorem tw_400 : (Jvm.Cond.code ({ cls := "DelayMachine$Punch", name := "take", desc := "(SI)Z" } : Jvm.MethodName) prog_6_method_2_code (4 : Nat) (Option.some Jvm.ClassFile.FieldType.boolean)) ∈ lw_g := List.mem_append_right _ (List.mem_filter.mpr ⟨List.mem_of_getElem? (i := 400) (by decide +kernel), rfl⟩)
theorem tw_401 : (Jvm.Cond.methodLink "DelayMachine$Machine" (86 : Nat) ({ cls := "DelayMachine$Multiplier", name := "endCycle", desc := "(LDelayMachine$Store;)V" } : Jvm.MethodName)) ∈ lw_g := List.mem_append_right _ (List.mem_filter.mpr ⟨List.mem_of_getElem? (i := 401) (by decide +kernel), rfl⟩)
theorem tw_402 : (Jvm.Cond.instanceMethod ({ cls := "DelayMachine$Multiplier", name := "endCycle", desc := "(LDelayMachine$Store;)V" } : Jvm.MethodName)) ∈ lw_g := List.mem_append_right _ (List.mem_filter.mpr ⟨List.mem_of_getElem? (i := 402) (by decide +kernel), rfl⟩)
theorem tw_403 : (Jvm.Cond.selects "DelayMachine$Multiplier" ({ cls := "DelayMachine$Multiplier", name := "endCycle", desc := "(LDelayMachine$Store;)V" } : Jvm.MethodName) ({ cls := "DelayMachine$Multiplier", name := "endCycle", desc := "(LDelayMachine$Store;)V" } : Jvm.MethodName)) ∈ lw_g := List.mem_append_right _ (List.mem_filter.mpr ⟨List.mem_of_getElem? (i := 403) (by decide +kernel), rfl⟩)
theorem tw_404 : (Jvm.Cond.code ({ cls := "DelayMachine$Multiplier", name := "endCycle", desc := "(LDelayMachine$Store;)V" } : Jvm.MethodName) prog_3_method_4_code (3 : Nat) (Option.none : Option Jvm.ClassFile.FieldType)) ∈ lw_g := List.mem_append_right _ (List.mem_filter.mpr ⟨List.mem_of_getElem? (i := 404) (by decide +kernel), rfl⟩)
theorem tw_405 : (Jvm.Cond.constant "DelayMachine$Multiplier" (26 : Nat) (32768 : Int32)) ∈ lw_g := List.mem_append_right _ (List.mem_filter.mpr ⟨List.mem_of_getElem? (i := 405) (by decide +kernel), rfl⟩)
theorem tw_406 : (Jvm.Cond.methodLink "DelayMachine$Multiplier" (27 : Nat) ({ cls := "DelayMachine$Store", name := "product", desc := "()I" } : Jvm.MethodName)) ∈ lw_g := List.mem_append_right _ (List.mem_filter.mpr ⟨List.mem_of_getElem? (i := 406) (by decide +kernel), rfl⟩)
theorem tw_407 : (Jvm.Cond.instanceMethod ({ cls := "DelayMachine$Store", name := "product", desc := "()I" } : Jvm.MethodName)) ∈ lw_g := List.mem_append_right _ (List.mem_filter.mpr ⟨List.mem_of_getElem? (i := 407) (by decide +kernel), rfl⟩)
theorem tw_408 : (Jvm.Cond.selects "DelayMachine$Store" ({ cls := "DelayMachine$Store", name := "product", desc := "()I" } : Jvm.MethodName) ({ cls := "DelayMachine$Store", name := "product", desc := "()I" } : Jvm.MethodName)) ∈ lw_g := List.mem_append_right _ (List.mem_filter.mpr ⟨List.mem_of_getElem? (i := 408) (by decide +kernel), rfl⟩)
theorem tw_409 : (Jvm.Cond.code ({ cls := "DelayMachine$Store", name := "product", desc := "()I" } : Jvm.MethodName) prog_8_method_7_code (1 : Nat) (Option.some Jvm.ClassFile.FieldType.int)) ∈ lw_g := List.mem_append_right _ (List.mem_filter.mpr ⟨List.mem_of_getElem? (i := 409) (by decide +kernel), rfl⟩)
theorem tw_410 : (Jvm.Cond.constant "DelayMachine$Store" (26 : Nat) (65535 : Int32)) ∈ lw_g := List.mem_append_right _ (List.mem_filter.mpr ⟨List.mem_of_getElem? (i := 410) (by decide +kernel), rfl⟩)
theorem tw_411 : (Jvm.Cond.methodLink "DelayMachine$Machine" (90 : Nat) ({ cls := "DelayMachine$Reader", name := "endCycle", desc := "(I)Z" } : Jvm.MethodName)) ∈ lw_g := List.mem_append_right _ (List.mem_filter.mpr ⟨List.mem_of_getElem? (i := 411) (by decide +kernel), rfl⟩)
theorem tw_412 : (Jvm.Cond.instanceMethod ({ cls := "DelayMachine$Reader", name := "endCycle", desc := "(I)Z" } : Jvm.MethodName)) ∈ lw_g := List.mem_append_right _ (List.mem_filter.mpr ⟨List.mem_of_getElem? (i := 412) (by decide +kernel), rfl⟩)
theorem tw_413 : (Jvm.Cond.selects "DelayMachine$Reader" ({ cls := "DelayMachine$Reader", name := "endCycle", desc := "(I)Z" } : Jvm.MethodName) ({ cls := "DelayMachine$Reader", name := "endCycle", desc := "(I)Z" } : Jvm.MethodName)) ∈ lw_g := List.mem_append_right _ (List.mem_filter.mpr ⟨List.mem_of_getElem? (i := 413) (by decide +kernel), rfl⟩)
theorem tw_414 : (Jvm.Cond.code ({ cls := "DelayMachine$Reader", name := "endCycle", desc := "(I)Z" } : Jvm.MethodName) prog_7_method_8_code (4 : Nat) (Option.some Jvm.ClassFile.FieldType.boolean)) ∈ lw_g := List.mem_append_right _ (List.mem_filter.mpr ⟨List.mem_of_getElem? (i := 414) (by decide +kernel), rfl⟩)
theorem tw_415 : (Jvm.Cond.methodLink "DelayMachineLaw" (38 : Nat) ({ cls := "DelayMachine", name := "look", desc := "(I)I" } : Jvm.MethodName)) ∈ lw_g := List.mem_append_right _ (List.mem_filter.mpr ⟨List.mem_of_getElem? (i := 415) (by decide +kernel), rfl⟩)
theorem tw_416 : (Jvm.Cond.instanceMethod ({ cls := "DelayMachine", name := "look", desc := "(I)I" } : Jvm.MethodName)) ∈ lw_g := List.mem_append_right _ (List.mem_filter.mpr ⟨List.mem_of_getElem? (i := 416) (by decide +kernel), rfl⟩)
theorem tw_417 : (Jvm.Cond.selects "DelayMachine" ({ cls := "DelayMachine", name := "look", desc := "(I)I" } : Jvm.MethodName) ({ cls := "DelayMachine", name := "look", desc := "(I)I" } : Jvm.MethodName)) ∈ lw_g := List.mem_append_right _ (List.mem_filter.mpr ⟨List.mem_of_getElem? (i := 417) (by decide +kernel), rfl⟩)
theorem tw_418 : (Jvm.Cond.code ({ cls := "DelayMachine", name := "look", desc := "(I)I" } : Jvm.MethodName) prog_1_method_7_code (2 : Nat) (Option.some Jvm.ClassFile.FieldType.int)) ∈ lw_g := List.mem_append_right _ (List.mem_filter.mpr ⟨List.mem_of_getElem? (i := 418) (by decide +kernel), rfl⟩)
theorem tw_419 : (Jvm.Cond.methodLink "DelayMachine" (103 : Nat) ({ cls := "DelayMachine$Reader", name := "rowsLeft", desc := "()I" } : Jvm.MethodName)) ∈ lw_g := List.mem_append_right _ (List.mem_filter.mpr ⟨List.mem_of_getElem? (i := 419) (by decide +kernel), rfl⟩)
theorem tw_420 : (Jvm.Cond.methodLink "DelayMachineLaw" (42 : Nat) ({ cls := "DelayMachine", name := "peek", desc := "(II)S" } : Jvm.MethodName)) ∈ lw_g := List.mem_append_right _ (List.mem_filter.mpr ⟨List.mem_of_getElem? (i := 420) (by decide +kernel), rfl⟩)
theorem tw_421 : (Jvm.Cond.instanceMethod ({ cls := "DelayMachine", name := "peek", desc := "(II)S" } : Jvm.MethodName)) ∈ lw_g := List.mem_append_right _ (List.mem_filter.mpr ⟨List.mem_of_getElem? (i := 421) (by decide +kernel), rfl⟩)
theorem tw_422 : (Jvm.Cond.selects "DelayMachine" ({ cls := "DelayMachine", name := "peek", desc := "(II)S" } : Jvm.MethodName) ({ cls := "DelayMachine", name := "peek", desc := "(II)S" } : Jvm.MethodName)) ∈ lw_g := List.mem_append_right _ (List.mem_filter.mpr ⟨List.mem_of_getElem? (i := 422) (by decide +kernel), rfl⟩)
theorem tw_423 : (Jvm.Cond.code ({ cls := "DelayMachine", name := "peek", desc := "(II)S" } : Jvm.MethodName) prog_1_method_8_code (4 : Nat) (Option.some Jvm.ClassFile.FieldType.short)) ∈ lw_g := List.mem_append_right _ (List.mem_filter.mpr ⟨List.mem_of_getElem? (i := 423) (by decide +kernel), rfl⟩)
theorem tw_424 : (Jvm.Cond.methodLink "DelayMachineLaw" (47 : Nat) ({ cls := "DelayMachine", name := "read", desc := "(II)I" } : Jvm.MethodName)) ∈ lw_g := List.mem_append_right _ (List.mem_filter.mpr ⟨List.mem_of_getElem? (i := 424) (by decide +kernel), rfl⟩)
theorem tw_425 : (Jvm.Cond.instanceMethod ({ cls := "DelayMachine", name := "read", desc := "(II)I" } : Jvm.MethodName)) ∈ lw_g := List.mem_append_right _ (List.mem_filter.mpr ⟨List.mem_of_getElem? (i := 425) (by decide +kernel), rfl⟩)
theorem tw_426 : (Jvm.Cond.selects "DelayMachine" ({ cls := "DelayMachine", name := "read", desc := "(II)I" } : Jvm.MethodName) ({ cls := "DelayMachine", name := "read", desc := "(II)I" } : Jvm.MethodName)) ∈ lw_g := List.mem_append_right _ (List.mem_filter.mpr ⟨List.mem_of_getElem? (i := 426) (by decide +kernel), rfl⟩)
theorem tw_427 : (Jvm.Cond.code ({ cls := "DelayMachine", name := "read", desc := "(II)I" } : Jvm.MethodName) prog_1_method_9_code (4 : Nat) (Option.some Jvm.ClassFile.FieldType.int)) ∈ lw_g := List.mem_append_right _ (List.mem_filter.mpr ⟨List.mem_of_getElem? (i := 427) (by decide +kernel), rfl⟩)
theorem tw_428 : (Jvm.Cond.methodLink "DelayMachineLaw" (52 : Nat) ({ cls := "DelayMachine", name := "punched", desc := "(I)S" } : Jvm.MethodName)) ∈ lw_g := List.mem_append_right _ (List.mem_filter.mpr ⟨List.mem_of_getElem? (i := 428) (by decide +kernel), rfl⟩)
theorem tw_429 : (Jvm.Cond.instanceMethod ({ cls := "DelayMachine", name := "punched", desc := "(I)S" } : Jvm.MethodName)) ∈ lw_g := List.mem_append_right _ (List.mem_filter.mpr ⟨List.mem_of_getElem? (i := 429) (by decide +kernel), rfl⟩)
theorem tw_430 : (Jvm.Cond.selects "DelayMachine" ({ cls := "DelayMachine", name := "punched", desc := "(I)S" } : Jvm.MethodName) ({ cls := "DelayMachine", name := "punched", desc := "(I)S" } : Jvm.MethodName)) ∈ lw_g := List.mem_append_right _ (List.mem_filter.mpr ⟨List.mem_of_getElem? (i := 430) (by decide +kernel), rfl⟩)
theorem tw_431 : (Jvm.Cond.code ({ cls := "DelayMachine", name := "punched", desc := "(I)S" } : Jvm.MethodName) prog_1_method_10_code (2 : Nat) (Option.some Jvm.ClassFile.FieldType.short)) ∈ lw_g := List.mem_append_right _ (List.mem_filter.mpr ⟨List.mem_of_getElem? (i := 431) (by decide +kernel), rfl⟩)
theorem tw_432 : (Jvm.Cond.methodLink "DelayMachineLaw" (57 : Nat) ({ cls := "DelayMachine", name := "statement", desc := "(IIIII)I" } : Jvm.MethodName)) ∈ lw_g := List.mem_append_right _ (List.mem_filter.mpr ⟨List.mem_of_getElem? (i := 432) (by decide +kernel), rfl⟩)
theorem tw_433 : (Jvm.Cond.instanceMethod ({ cls := "DelayMachine", name := "statement", desc := "(IIIII)I" } : Jvm.MethodName)) ∈ lw_g := List.mem_append_right _ (List.mem_filter.mpr ⟨List.mem_of_getElem? (i := 433) (by decide +kernel), rfl⟩)
theorem tw_434 : (Jvm.Cond.selects "DelayMachine" ({ cls := "DelayMachine", name := "statement", desc := "(IIIII)I" } : Jvm.MethodName) ({ cls := "DelayMachine", name := "statement", desc := "(IIIII)I" } : Jvm.MethodName)) ∈ lw_g := List.mem_append_right _ (List.mem_filter.mpr ⟨List.mem_of_getElem? (i := 434) (by decide +kernel), rfl⟩)
theorem tw_435 : (Jvm.Cond.code ({ cls := "DelayMachine", name := "statement", desc := "(IIIII)I" } : Jvm.MethodName) prog_1_method_11_code (6 : Nat) (Option.some Jvm.ClassFile.FieldType.int)) ∈ lw_g := List.mem_append_right _ (List.mem_filter.mpr ⟨List.mem_of_getElem? (i := 435) (by decide +kernel), rfl⟩)
theorem tw_436 : (Jvm.Cond.methodLink "DelayMachine" (122 : Nat) ({ cls := "DelayMachine$Program", name := "addStatement", desc := "(IIIII)I" } : Jvm.MethodName)) ∈ lw_g := List.mem_append_right _ (List.mem_filter.mpr ⟨List.mem_of_getElem? (i := 436) (by decide +kernel), rfl⟩)
theorem tw_437 : (Jvm.Cond.instanceMethod ({ cls := "DelayMachine$Program", name := "addStatement", desc := "(IIIII)I" } : Jvm.MethodName)) ∈ lw_g := List.mem_append_right _ (List.mem_filter.mpr ⟨List.mem_of_getElem? (i := 437) (by decide +kernel), rfl⟩)
theorem tw_438 : (Jvm.Cond.selects "DelayMachine$Program" ({ cls := "DelayMachine$Program", name := "addStatement", desc := "(IIIII)I" } : Jvm.MethodName) ({ cls := "DelayMachine$Program", name := "addStatement", desc := "(IIIII)I" } : Jvm.MethodName)) ∈ lw_g := List.mem_append_right _ (List.mem_filter.mpr ⟨List.mem_of_getElem? (i := 438) (by decide +kernel), rfl⟩)
theorem tw_439 : (Jvm.Cond.code ({ cls := "DelayMachine$Program", name := "addStatement", desc := "(IIIII)I" } : Jvm.MethodName) prog_5_method_2_code (9 : Nat) (Option.some Jvm.ClassFile.FieldType.int)) ∈ lw_g := List.mem_append_right _ (List.mem_filter.mpr ⟨List.mem_of_getElem? (i := 439) (by decide +kernel), rfl⟩)
theorem tw_440 : (Jvm.Cond.methodLink "DelayMachine$Program" (27 : Nat) ({ cls := "DelayMachine$Program", name := "isVariable", desc := "(I)Z" } : Jvm.MethodName)) ∈ lw_g := List.mem_append_right _ (List.mem_filter.mpr ⟨List.mem_of_getElem? (i := 440) (by decide +kernel), rfl⟩)
theorem tw_441 : (Jvm.Cond.static ({ cls := "DelayMachine$Program", name := "isVariable", desc := "(I)Z" } : Jvm.MethodName)) ∈ lw_g := List.mem_append_right _ (List.mem_filter.mpr ⟨List.mem_of_getElem? (i := 441) (by decide +kernel), rfl⟩)
theorem tw_442 : (Jvm.Cond.code ({ cls := "DelayMachine$Program", name := "isVariable", desc := "(I)Z" } : Jvm.MethodName) prog_5_method_3_code (1 : Nat) (Option.some Jvm.ClassFile.FieldType.boolean)) ∈ lw_g := List.mem_append_right _ (List.mem_filter.mpr ⟨List.mem_of_getElem? (i := 442) (by decide +kernel), rfl⟩)
theorem tw_443 : (Jvm.Cond.methodLink "DelayMachineLaw" (62 : Nat) ({ cls := "DelayMachine", name := "clear", desc := "()V" } : Jvm.MethodName)) ∈ lw_g := List.mem_append_right _ (List.mem_filter.mpr ⟨List.mem_of_getElem? (i := 443) (by decide +kernel), rfl⟩)
theorem tw_444 : (Jvm.Cond.instanceMethod ({ cls := "DelayMachine", name := "clear", desc := "()V" } : Jvm.MethodName)) ∈ lw_g := List.mem_append_right _ (List.mem_filter.mpr ⟨List.mem_of_getElem? (i := 444) (by decide +kernel), rfl⟩)
theorem tw_445 : (Jvm.Cond.selects "DelayMachine" ({ cls := "DelayMachine", name := "clear", desc := "()V" } : Jvm.MethodName) ({ cls := "DelayMachine", name := "clear", desc := "()V" } : Jvm.MethodName)) ∈ lw_g := List.mem_append_right _ (List.mem_filter.mpr ⟨List.mem_of_getElem? (i := 445) (by decide +kernel), rfl⟩)
theorem tw_446 : (Jvm.Cond.code ({ cls := "DelayMachine", name := "clear", desc := "()V" } : Jvm.MethodName) prog_1_method_12_code (1 : Nat) (Option.none : Option Jvm.ClassFile.FieldType)) ∈ lw_g := List.mem_append_right _ (List.mem_filter.mpr ⟨List.mem_of_getElem? (i := 446) (by decide +kernel), rfl⟩)
theorem tw_447 : (Jvm.Cond.methodLink "DelayMachineLaw" (66 : Nat) ({ cls := "DelayMachine", name := "assemble", desc := "()I" } : Jvm.MethodName)) ∈ lw_g := List.mem_append_right _ (List.mem_filter.mpr ⟨List.mem_of_getElem? (i := 447) (by decide +kernel), rfl⟩)
theorem tw_448 : (Jvm.Cond.instanceMethod ({ cls := "DelayMachine", name := "assemble", desc := "()I" } : Jvm.MethodName)) ∈ lw_g := List.mem_append_right _ (List.mem_filter.mpr ⟨List.mem_of_getElem? (i := 448) (by decide +kernel), rfl⟩)
theorem tw_449 : (Jvm.Cond.selects "DelayMachine" ({ cls := "DelayMachine", name := "assemble", desc := "()I" } : Jvm.MethodName) ({ cls := "DelayMachine", name := "assemble", desc := "()I" } : Jvm.MethodName)) ∈ lw_g := List.mem_append_right _ (List.mem_filter.mpr ⟨List.mem_of_getElem? (i := 449) (by decide +kernel), rfl⟩)
theorem tw_450 : (Jvm.Cond.code ({ cls := "DelayMachine", name := "assemble", desc := "()I" } : Jvm.MethodName) prog_1_method_13_code (2 : Nat) (Option.some Jvm.ClassFile.FieldType.int)) ∈ lw_g := List.mem_append_right _ (List.mem_filter.mpr ⟨List.mem_of_getElem? (i := 450) (by decide +kernel), rfl⟩)
theorem tw_451 : (Jvm.Cond.methodLink "DelayMachine" (127 : Nat) ({ cls := "DelayMachine$Program", name := "allGotosLead", desc := "()Z" } : Jvm.MethodName)) ∈ lw_g := List.mem_append_right _ (List.mem_filter.mpr ⟨List.mem_of_getElem? (i := 451) (by decide +kernel), rfl⟩)
theorem tw_452 : (Jvm.Cond.instanceMethod ({ cls := "DelayMachine$Program", name := "allGotosLead", desc := "()Z" } : Jvm.MethodName)) ∈ lw_g := List.mem_append_right _ (List.mem_filter.mpr ⟨List.mem_of_getElem? (i := 452) (by decide +kernel), rfl⟩)
theorem tw_453 : (Jvm.Cond.selects "DelayMachine$Program" ({ cls := "DelayMachine$Program", name := "allGotosLead", desc := "()Z" } : Jvm.MethodName) ({ cls := "DelayMachine$Program", name := "allGotosLead", desc := "()Z" } : Jvm.MethodName)) ∈ lw_g := List.mem_append_right _ (List.mem_filter.mpr ⟨List.mem_of_getElem? (i := 453) (by decide +kernel), rfl⟩)
theorem tw_454 : (Jvm.Cond.code ({ cls := "DelayMachine$Program", name := "allGotosLead", desc := "()Z" } : Jvm.MethodName) prog_5_method_4_code (2 : Nat) (Option.some Jvm.ClassFile.FieldType.boolean)) ∈ lw_g := List.mem_append_right _ (List.mem_filter.mpr ⟨List.mem_of_getElem? (i := 454) (by decide +kernel), rfl⟩)
theorem tw_455 : (Jvm.Cond.methodLink "DelayMachine" (131 : Nat) ({ cls := "DelayMachine$Placing", name := "placeAll", desc := "(LDelayMachine$Program;)Z" } : Jvm.MethodName)) ∈ lw_g := List.mem_append_right _ (List.mem_filter.mpr ⟨List.mem_of_getElem? (i := 455) (by decide +kernel), rfl⟩)
theorem tw_456 : (Jvm.Cond.instanceMethod ({ cls := "DelayMachine$Placing", name := "placeAll", desc := "(LDelayMachine$Program;)Z" } : Jvm.MethodName)) ∈ lw_g := List.mem_append_right _ (List.mem_filter.mpr ⟨List.mem_of_getElem? (i := 456) (by decide +kernel), rfl⟩)
theorem tw_457 : (Jvm.Cond.selects "DelayMachine$Placing" ({ cls := "DelayMachine$Placing", name := "placeAll", desc := "(LDelayMachine$Program;)Z" } : Jvm.MethodName) ({ cls := "DelayMachine$Placing", name := "placeAll", desc := "(LDelayMachine$Program;)Z" } : Jvm.MethodName)) ∈ lw_g := List.mem_append_right _ (List.mem_filter.mpr ⟨List.mem_of_getElem? (i := 457) (by decide +kernel), rfl⟩)
theorem tw_458 : (Jvm.Cond.code ({ cls := "DelayMachine$Placing", name := "placeAll", desc := "(LDelayMachine$Program;)Z" } : Jvm.MethodName) prog_4_method_2_code (3 : Nat) (Option.some Jvm.ClassFile.FieldType.boolean)) ∈ lw_g := List.mem_append_right _ (List.mem_filter.mpr ⟨List.mem_of_getElem? (i := 458) (by decide +kernel), rfl⟩)
theorem tw_459 : (Jvm.Cond.methodLink "DelayMachine$Placing" (33 : Nat) ({ cls := "DelayMachine$Placing", name := "forget", desc := "()V" } : Jvm.MethodName)) ∈ lw_g := List.mem_append_right _ (List.mem_filter.mpr ⟨List.mem_of_getElem? (i := 459) (by decide +kernel), rfl⟩)
theorem tw_461 : (Jvm.Cond.instanceMethod ({ cls := "DelayMachine$Placing", name := "forget", desc := "()V" } : Jvm.MethodName)) ∈ lw_g := List.mem_append_right _ (List.mem_filter.mpr ⟨List.mem_of_getElem? (i := 461) (by decide +kernel), rfl⟩)
theorem tw_462 : (Jvm.Cond.code ({ cls := "DelayMachine$Placing", name := "forget", desc := "()V" } : Jvm.MethodName) prog_4_method_3_code (1 : Nat) (Option.none : Option Jvm.ClassFile.FieldType)) ∈ lw_g := List.mem_append_right _ (List.mem_filter.mpr ⟨List.mem_of_getElem? (i := 462) (by decide +kernel), rfl⟩)
theorem tw_463 : (Jvm.Cond.methodLink "DelayMachine$Placing" (42 : Nat) ({ cls := "DelayMachine$Placing", name := "freeSpot", desc := "()I" } : Jvm.MethodName)) ∈ lw_g := List.mem_append_right _ (List.mem_filter.mpr ⟨List.mem_of_getElem? (i := 463) (by decide +kernel), rfl⟩)
theorem tw_465 : (Jvm.Cond.instanceMethod ({ cls := "DelayMachine$Placing", name := "freeSpot", desc := "()I" } : Jvm.MethodName)) ∈ lw_g := List.mem_append_right _ (List.mem_filter.mpr ⟨List.mem_of_getElem? (i := 465) (by decide +kernel), rfl⟩)
theorem tw_466 : (Jvm.Cond.code ({ cls := "DelayMachine$Placing", name := "freeSpot", desc := "()I" } : Jvm.MethodName) prog_4_method_10_code (4 : Nat) (Option.some Jvm.ClassFile.FieldType.int)) ∈ lw_g := List.mem_append_right _ (List.mem_filter.mpr ⟨List.mem_of_getElem? (i := 466) (by decide +kernel), rfl⟩)
theorem tw_467 : (Jvm.Cond.methodLink "DelayMachine$Placing" (110 : Nat) ({ cls := "DelayMachine$Placing", name := "isFree", desc := "(II)Z" } : Jvm.MethodName)) ∈ lw_g := List.mem_append_right _ (List.mem_filter.mpr ⟨List.mem_of_getElem? (i := 467) (by decide +kernel), rfl⟩)
theorem tw_469 : (Jvm.Cond.instanceMethod ({ cls := "DelayMachine$Placing", name := "isFree", desc := "(II)Z" } : Jvm.MethodName)) ∈ lw_g := List.mem_append_right _ (List.mem_filter.mpr ⟨List.mem_of_getElem? (i := 469) (by decide +kernel), rfl⟩)
theorem tw_470 : (Jvm.Cond.code ({ cls := "DelayMachine$Placing", name := "isFree", desc := "(II)Z" } : Jvm.MethodName) prog_4_method_12_code (3 : Nat) (Option.some Jvm.ClassFile.FieldType.boolean)) ∈ lw_g := List.mem_append_right _ (List.mem_filter.mpr ⟨List.mem_of_getElem? (i := 470) (by decide +kernel), rfl⟩)
theorem tw_471 : (Jvm.Cond.methodLink "DelayMachine$Placing" (46 : Nat) ({ cls := "DelayMachine$Placing", name := "placeStatement", desc := "(LDelayMachine$Program;I)V" } : Jvm.MethodName)) ∈ lw_g := List.mem_append_right _ (List.mem_filter.mpr ⟨List.mem_of_getElem? (i := 471) (by decide +kernel), rfl⟩)
theorem tw_473 : (Jvm.Cond.instanceMethod ({ cls := "DelayMachine$Placing", name := "placeStatement", desc := "(LDelayMachine$Program;I)V" } : Jvm.MethodName)) ∈ lw_g := List.mem_append_right _ (List.mem_filter.mpr ⟨List.mem_of_getElem? (i := 473) (by decide +kernel), rfl⟩)
theorem tw_474 : (Jvm.Cond.code ({ cls := "DelayMachine$Placing", name := "placeStatement", desc := "(LDelayMachine$Program;I)V" } : Jvm.MethodName) prog_4_method_4_code (5 : Nat) (Option.none : Option Jvm.ClassFile.FieldType)) ∈ lw_g := List.mem_append_right _ (List.mem_filter.mpr ⟨List.mem_of_getElem? (i := 474) (by decide +kernel), rfl⟩)
theorem tw_475 : (Jvm.Cond.methodLink "DelayMachine$Placing" (84 : Nat) ({ cls := "DelayMachine$Placing", name := "placeOrder", desc := "(III)V" } : Jvm.MethodName)) ∈ lw_g := List.mem_append_right _ (List.mem_filter.mpr ⟨List.mem_of_getElem? (i := 475) (by decide +kernel), rfl⟩)
theorem tw_477 : (Jvm.Cond.instanceMethod ({ cls := "DelayMachine$Placing", name := "placeOrder", desc := "(III)V" } : Jvm.MethodName)) ∈ lw_g := List.mem_append_right _ (List.mem_filter.mpr ⟨List.mem_of_getElem? (i := 477) (by decide +kernel), rfl⟩)
theorem tw_478 : (Jvm.Cond.code ({ cls := "DelayMachine$Placing", name := "placeOrder", desc := "(III)V" } : Jvm.MethodName) prog_4_method_5_code (7 : Nat) (Option.none : Option Jvm.ClassFile.FieldType)) ∈ lw_g := List.mem_append_right _ (List.mem_filter.mpr ⟨List.mem_of_getElem? (i := 478) (by decide +kernel), rfl⟩)
theorem tw_479 : (Jvm.Cond.methodLink "DelayMachine$Placing" (95 : Nat) ({ cls := "DelayMachine$Placing", name := "variablePlace", desc := "(II)I" } : Jvm.MethodName)) ∈ lw_g := List.mem_append_right _ (List.mem_filter.mpr ⟨List.mem_of_getElem? (i := 479) (by decide +kernel), rfl⟩)
theorem tw_481 : (Jvm.Cond.instanceMethod ({ cls := "DelayMachine$Placing", name := "variablePlace", desc := "(II)I" } : Jvm.MethodName)) ∈ lw_g := List.mem_append_right _ (List.mem_filter.mpr ⟨List.mem_of_getElem? (i := 481) (by decide +kernel), rfl⟩)
theorem tw_482 : (Jvm.Cond.code ({ cls := "DelayMachine$Placing", name := "variablePlace", desc := "(II)I" } : Jvm.MethodName) prog_4_method_13_code (5 : Nat) (Option.some Jvm.ClassFile.FieldType.int)) ∈ lw_g := List.mem_append_right _ (List.mem_filter.mpr ⟨List.mem_of_getElem? (i := 482) (by decide +kernel), rfl⟩)
theorem tw_483 : (Jvm.Cond.methodLink "DelayMachine$Placing" (99 : Nat) ({ cls := "DelayMachine$Placing", name := "occupy", desc := "(II)V" } : Jvm.MethodName)) ∈ lw_g := List.mem_append_right _ (List.mem_filter.mpr ⟨List.mem_of_getElem? (i := 483) (by decide +kernel), rfl⟩)
theorem tw_485 : (Jvm.Cond.instanceMethod ({ cls := "DelayMachine$Placing", name := "occupy", desc := "(II)V" } : Jvm.MethodName)) ∈ lw_g := List.mem_append_right _ (List.mem_filter.mpr ⟨List.mem_of_getElem? (i := 485) (by decide +kernel), rfl⟩)
theorem tw_486 : (Jvm.Cond.code ({ cls := "DelayMachine$Placing", name := "occupy", desc := "(II)V" } : Jvm.MethodName) prog_4_method_8_code (3 : Nat) (Option.none : Option Jvm.ClassFile.FieldType)) ∈ lw_g := List.mem_append_right _ (List.mem_filter.mpr ⟨List.mem_of_getElem? (i := 486) (by decide +kernel), rfl⟩)
theorem tw_487 : (Jvm.Cond.methodLink "DelayMachine$Placing" (107 : Nat) ({ cls := "DelayMachine$Placing", name := "lead", desc := "(II)V" } : Jvm.MethodName)) ∈ lw_g := List.mem_append_right _ (List.mem_filter.mpr ⟨List.mem_of_getElem? (i := 487) (by decide +kernel), rfl⟩)
theorem tw_489 : (Jvm.Cond.instanceMethod ({ cls := "DelayMachine$Placing", name := "lead", desc := "(II)V" } : Jvm.MethodName)) ∈ lw_g := List.mem_append_right _ (List.mem_filter.mpr ⟨List.mem_of_getElem? (i := 489) (by decide +kernel), rfl⟩)
theorem tw_490 : (Jvm.Cond.code ({ cls := "DelayMachine$Placing", name := "lead", desc := "(II)V" } : Jvm.MethodName) prog_4_method_9_code (4 : Nat) (Option.none : Option Jvm.ClassFile.FieldType)) ∈ lw_g := List.mem_append_right _ (List.mem_filter.mpr ⟨List.mem_of_getElem? (i := 490) (by decide +kernel), rfl⟩)
theorem tw_491 : (Jvm.Cond.methodLink "DelayMachine$Placing" (91 : Nat) ({ cls := "DelayMachine$Placing", name := "placeFork", desc := "(I)V" } : Jvm.MethodName)) ∈ lw_g := List.mem_append_right _ (List.mem_filter.mpr ⟨List.mem_of_getElem? (i := 491) (by decide +kernel), rfl⟩)
theorem tw_493 : (Jvm.Cond.instanceMethod ({ cls := "DelayMachine$Placing", name := "placeFork", desc := "(I)V" } : Jvm.MethodName)) ∈ lw_g := List.mem_append_right _ (List.mem_filter.mpr ⟨List.mem_of_getElem? (i := 493) (by decide +kernel), rfl⟩)
theorem tw_494 : (Jvm.Cond.code ({ cls := "DelayMachine$Placing", name := "placeFork", desc := "(I)V" } : Jvm.MethodName) prog_4_method_7_code (4 : Nat) (Option.none : Option Jvm.ClassFile.FieldType)) ∈ lw_g := List.mem_append_right _ (List.mem_filter.mpr ⟨List.mem_of_getElem? (i := 494) (by decide +kernel), rfl⟩)
theorem tw_495 : (Jvm.Cond.methodLink "DelayMachine$Placing" (104 : Nat) ({ cls := "DelayMachine$Placing", name := "forkSpot", desc := "()I" } : Jvm.MethodName)) ∈ lw_g := List.mem_append_right _ (List.mem_filter.mpr ⟨List.mem_of_getElem? (i := 495) (by decide +kernel), rfl⟩)
theorem tw_497 : (Jvm.Cond.instanceMethod ({ cls := "DelayMachine$Placing", name := "forkSpot", desc := "()I" } : Jvm.MethodName)) ∈ lw_g := List.mem_append_right _ (List.mem_filter.mpr ⟨List.mem_of_getElem? (i := 497) (by decide +kernel), rfl⟩)
theorem tw_498 : (Jvm.Cond.code ({ cls := "DelayMachine$Placing", name := "forkSpot", desc := "()I" } : Jvm.MethodName) prog_4_method_11_code (4 : Nat) (Option.some Jvm.ClassFile.FieldType.int)) ∈ lw_g := List.mem_append_right _ (List.mem_filter.mpr ⟨List.mem_of_getElem? (i := 498) (by decide +kernel), rfl⟩)
theorem tw_499 : (Jvm.Cond.methodLink "DelayMachine$Placing" (54 : Nat) ({ cls := "DelayMachine$Placing", name := "placeStop", desc := "()V" } : Jvm.MethodName)) ∈ lw_g := List.mem_append_right _ (List.mem_filter.mpr ⟨List.mem_of_getElem? (i := 499) (by decide +kernel), rfl⟩)
theorem tw_501 : (Jvm.Cond.instanceMethod ({ cls := "DelayMachine$Placing", name := "placeStop", desc := "()V" } : Jvm.MethodName)) ∈ lw_g := List.mem_append_right _ (List.mem_filter.mpr ⟨List.mem_of_getElem? (i := 501) (by decide +kernel), rfl⟩)
theorem tw_502 : (Jvm.Cond.code ({ cls := "DelayMachine$Placing", name := "placeStop", desc := "()V" } : Jvm.MethodName) prog_4_method_6_code (1 : Nat) (Option.none : Option Jvm.ClassFile.FieldType)) ∈ lw_g := List.mem_append_right _ (List.mem_filter.mpr ⟨List.mem_of_getElem? (i := 502) (by decide +kernel), rfl⟩)
theorem tw_503 : (Jvm.Cond.constant "DelayMachine$Placing" (103 : Nat) (1015824 : Int32)) ∈ lw_g := List.mem_append_right _ (List.mem_filter.mpr ⟨List.mem_of_getElem? (i := 503) (by decide +kernel), rfl⟩)
theorem tw_504 : (Jvm.Cond.methodLink "DelayMachine$Placing" (50 : Nat) ({ cls := "DelayMachine$Program", name := "endsWithHalt", desc := "()Z" } : Jvm.MethodName)) ∈ lw_g := List.mem_append_right _ (List.mem_filter.mpr ⟨List.mem_of_getElem? (i := 504) (by decide +kernel), rfl⟩)
theorem tw_505 : (Jvm.Cond.instanceMethod ({ cls := "DelayMachine$Program", name := "endsWithHalt", desc := "()Z" } : Jvm.MethodName)) ∈ lw_g := List.mem_append_right _ (List.mem_filter.mpr ⟨List.mem_of_getElem? (i := 505) (by decide +kernel), rfl⟩)
theorem tw_506 : (Jvm.Cond.selects "DelayMachine$Program" ({ cls := "DelayMachine$Program", name := "endsWithHalt", desc := "()Z" } : Jvm.MethodName) ({ cls := "DelayMachine$Program", name := "endsWithHalt", desc := "()Z" } : Jvm.MethodName)) ∈ lw_g := List.mem_append_right _ (List.mem_filter.mpr ⟨List.mem_of_getElem? (i := 506) (by decide +kernel), rfl⟩)
theorem tw_507 : (Jvm.Cond.code ({ cls := "DelayMachine$Program", name := "endsWithHalt", desc := "()Z" } : Jvm.MethodName) prog_5_method_5_code (1 : Nat) (Option.some Jvm.ClassFile.FieldType.boolean)) ∈ lw_g := List.mem_append_right _ (List.mem_filter.mpr ⟨List.mem_of_getElem? (i := 507) (by decide +kernel), rfl⟩)
theorem tw_508 : (Jvm.Cond.methodLink "DelayMachine$Placing" (61 : Nat) ({ cls := "DelayMachine$Placing", name := "leadBranches", desc := "(LDelayMachine$Program;)V" } : Jvm.MethodName)) ∈ lw_g := List.mem_append_right _ (List.mem_filter.mpr ⟨List.mem_of_getElem? (i := 508) (by decide +kernel), rfl⟩)
theorem tw_510 : (Jvm.Cond.instanceMethod ({ cls := "DelayMachine$Placing", name := "leadBranches", desc := "(LDelayMachine$Program;)V" } : Jvm.MethodName)) ∈ lw_g := List.mem_append_right _ (List.mem_filter.mpr ⟨List.mem_of_getElem? (i := 510) (by decide +kernel), rfl⟩)
theorem tw_511 : (Jvm.Cond.code ({ cls := "DelayMachine$Placing", name := "leadBranches", desc := "(LDelayMachine$Program;)V" } : Jvm.MethodName) prog_4_method_14_code (3 : Nat) (Option.none : Option Jvm.ClassFile.FieldType)) ∈ lw_g := List.mem_append_right _ (List.mem_filter.mpr ⟨List.mem_of_getElem? (i := 511) (by decide +kernel), rfl⟩)
theorem tw_512 : (Jvm.Cond.methodLink "DelayMachine$Placing" (65 : Nat) ({ cls := "DelayMachine$Placing", name := "fillWithStops", desc := "()V" } : Jvm.MethodName)) ∈ lw_g := List.mem_append_right _ (List.mem_filter.mpr ⟨List.mem_of_getElem? (i := 512) (by decide +kernel), rfl⟩)
theorem tw_514 : (Jvm.Cond.instanceMethod ({ cls := "DelayMachine$Placing", name := "fillWithStops", desc := "()V" } : Jvm.MethodName)) ∈ lw_g := List.mem_append_right _ (List.mem_filter.mpr ⟨List.mem_of_getElem? (i := 514) (by decide +kernel), rfl⟩)
theorem tw_515 : (Jvm.Cond.code ({ cls := "DelayMachine$Placing", name := "fillWithStops", desc := "()V" } : Jvm.MethodName) prog_4_method_15_code (2 : Nat) (Option.none : Option Jvm.ClassFile.FieldType)) ∈ lw_g := List.mem_append_right _ (List.mem_filter.mpr ⟨List.mem_of_getElem? (i := 515) (by decide +kernel), rfl⟩)
theorem tw_516 : (Jvm.Cond.methodLink "DelayMachine" (136 : Nat) ({ cls := "java/lang/System", name := "arraycopy", desc := "(Ljava/lang/Object;ILjava/lang/Object;II)V" } : Jvm.MethodName)) ∈ lw_g := List.mem_append_right _ (List.mem_filter.mpr ⟨List.mem_of_getElem? (i := 516) (by decide +kernel), rfl⟩)
theorem tw_517 : (Jvm.Cond.static ({ cls := "java/lang/System", name := "arraycopy", desc := "(Ljava/lang/Object;ILjava/lang/Object;II)V" } : Jvm.MethodName)) ∈ lw_g := List.mem_append_right _ (List.mem_filter.mpr ⟨List.mem_of_getElem? (i := 517) (by decide +kernel), rfl⟩)
theorem tw_518 : (Jvm.Cond.native ({ cls := "java/lang/System", name := "arraycopy", desc := "(Ljava/lang/Object;ILjava/lang/Object;II)V" } : Jvm.MethodName)) ∈ lw_g := List.mem_append_right _ (List.mem_filter.mpr ⟨List.mem_of_getElem? (i := 518) (by decide +kernel), rfl⟩)
theorem tw_519 : (Jvm.Cond.methodLink "DelayMachineLaw" (71 : Nat) ({ cls := "DelayMachine", name := "placed", desc := "(I)I" } : Jvm.MethodName)) ∈ lw_g := List.mem_append_right _ (List.mem_filter.mpr ⟨List.mem_of_getElem? (i := 519) (by decide +kernel), rfl⟩)
theorem tw_520 : (Jvm.Cond.instanceMethod ({ cls := "DelayMachine", name := "placed", desc := "(I)I" } : Jvm.MethodName)) ∈ lw_g := List.mem_append_right _ (List.mem_filter.mpr ⟨List.mem_of_getElem? (i := 520) (by decide +kernel), rfl⟩)
theorem tw_521 : (Jvm.Cond.selects "DelayMachine" ({ cls := "DelayMachine", name := "placed", desc := "(I)I" } : Jvm.MethodName) ({ cls := "DelayMachine", name := "placed", desc := "(I)I" } : Jvm.MethodName)) ∈ lw_g := List.mem_append_right _ (List.mem_filter.mpr ⟨List.mem_of_getElem? (i := 521) (by decide +kernel), rfl⟩)
theorem tw_522 : (Jvm.Cond.code ({ cls := "DelayMachine", name := "placed", desc := "(I)I" } : Jvm.MethodName) prog_1_method_14_code (2 : Nat) (Option.some Jvm.ClassFile.FieldType.int)) ∈ lw_g := List.mem_append_right _ (List.mem_filter.mpr ⟨List.mem_of_getElem? (i := 522) (by decide +kernel), rfl⟩)
theorem tw_523 : (Jvm.Cond.methodLink "DelayMachineLaw" (75 : Nat) ({ cls := "DelayMachine", name := "variable", desc := "(I)I" } : Jvm.MethodName)) ∈ lw_g := List.mem_append_right _ (List.mem_filter.mpr ⟨List.mem_of_getElem? (i := 523) (by decide +kernel), rfl⟩)
theorem tw_524 : (Jvm.Cond.instanceMethod ({ cls := "DelayMachine", name := "variable", desc := "(I)I" } : Jvm.MethodName)) ∈ lw_g := List.mem_append_right _ (List.mem_filter.mpr ⟨List.mem_of_getElem? (i := 524) (by decide +kernel), rfl⟩)
theorem tw_525 : (Jvm.Cond.selects "DelayMachine" ({ cls := "DelayMachine", name := "variable", desc := "(I)I" } : Jvm.MethodName) ({ cls := "DelayMachine", name := "variable", desc := "(I)I" } : Jvm.MethodName)) ∈ lw_g := List.mem_append_right _ (List.mem_filter.mpr ⟨List.mem_of_getElem? (i := 525) (by decide +kernel), rfl⟩)
theorem tw_526 : (Jvm.Cond.code ({ cls := "DelayMachine", name := "variable", desc := "(I)I" } : Jvm.MethodName) prog_1_method_15_code (2 : Nat) (Option.some Jvm.ClassFile.FieldType.int)) ∈ lw_g := List.mem_append_right _ (List.mem_filter.mpr ⟨List.mem_of_getElem? (i := 526) (by decide +kernel), rfl⟩)
theorem tw_527 : (Jvm.Cond.methodLink "DelayMachine" (146 : Nat) ({ cls := "DelayMachine$Program", name := "isVariable", desc := "(I)Z" } : Jvm.MethodName)) ∈ lw_g := List.mem_append_right _ (List.mem_filter.mpr ⟨List.mem_of_getElem? (i := 527) (by decide +kernel), rfl⟩)
theorem tw_528 : (Jvm.Cond.classLink "DelayMachineLaw" (10 : Nat) "DelayMachineModel") ∈ lw_g := List.mem_append_right _ (List.mem_filter.mpr ⟨List.mem_of_getElem? (i := 528) (by decide +kernel), rfl⟩)
theorem tw_529 : (Jvm.Cond.instantiable "DelayMachineModel" (47 : Nat)) ∈ lw_g := List.mem_append_right _ (List.mem_filter.mpr ⟨List.mem_of_getElem? (i := 529) (by decide +kernel), rfl⟩)
theorem tw_530 : (Jvm.Cond.methodLink "DelayMachineLaw" (12 : Nat) ({ cls := "DelayMachineModel", name := "<init>", desc := "()V" } : Jvm.MethodName)) ∈ lw_g := List.mem_append_right _ (List.mem_filter.mpr ⟨List.mem_of_getElem? (i := 530) (by decide +kernel), rfl⟩)
theorem tw_531 : (Jvm.Cond.instanceMethod ({ cls := "DelayMachineModel", name := "<init>", desc := "()V" } : Jvm.MethodName)) ∈ lw_g := List.mem_append_right _ (List.mem_filter.mpr ⟨List.mem_of_getElem? (i := 531) (by decide +kernel), rfl⟩)
theorem tw_532 : (Jvm.Cond.code ({ cls := "DelayMachineModel", name := "<init>", desc := "()V" } : Jvm.MethodName) prog_11_method_1_code (2 : Nat) (Option.none : Option Jvm.ClassFile.FieldType)) ∈ lw_g := List.mem_append_right _ (List.mem_filter.mpr ⟨List.mem_of_getElem? (i := 532) (by decide +kernel), rfl⟩)
theorem tw_533 : (Jvm.Cond.methodLink "DelayMachineModel" (1 : Nat) ({ cls := "java/lang/Object", name := "<init>", desc := "()V" } : Jvm.MethodName)) ∈ lw_g := List.mem_append_right _ (List.mem_filter.mpr ⟨List.mem_of_getElem? (i := 533) (by decide +kernel), rfl⟩)
theorem tw_534 : (Jvm.Cond.fieldLink "DelayMachineModel" (7 : Nat) "DelayMachineModel" "orders" "[I") ∈ lw_g := List.mem_append_right _ (List.mem_filter.mpr ⟨List.mem_of_getElem? (i := 534) (by decide +kernel), rfl⟩)
theorem tw_535 : (Jvm.Cond.fieldLink "DelayMachineModel" (13 : Nat) "DelayMachineModel" "words" "[S") ∈ lw_g := List.mem_append_right _ (List.mem_filter.mpr ⟨List.mem_of_getElem? (i := 535) (by decide +kernel), rfl⟩)
theorem tw_536 : (Jvm.Cond.fieldLink "DelayMachineModel" (128 : Nat) "DelayMachineModel" "now" "I") ∈ lw_g := List.mem_append_right _ (List.mem_filter.mpr ⟨List.mem_of_getElem? (i := 536) (by decide +kernel), rfl⟩)
theorem tw_537 : (Jvm.Cond.fieldLink "DelayMachineModel" (97 : Nat) "DelayMachineModel" "going" "Z") ∈ lw_g := List.mem_append_right _ (List.mem_filter.mpr ⟨List.mem_of_getElem? (i := 537) (by decide +kernel), rfl⟩)
theorem tw_538 : (Jvm.Cond.fieldLink "DelayMachineModel" (101 : Nat) "DelayMachineModel" "fault" "I") ∈ lw_g := List.mem_append_right _ (List.mem_filter.mpr ⟨List.mem_of_getElem? (i := 538) (by decide +kernel), rfl⟩)
theorem tw_539 : (Jvm.Cond.fieldLink "DelayMachineModel" (131 : Nat) "DelayMachineModel" "due" "I") ∈ lw_g := List.mem_append_right _ (List.mem_filter.mpr ⟨List.mem_of_getElem? (i := 539) (by decide +kernel), rfl⟩)
theorem tw_540 : (Jvm.Cond.fieldLink "DelayMachineModel" (134 : Nat) "DelayMachineModel" "dueLine" "I") ∈ lw_g := List.mem_append_right _ (List.mem_filter.mpr ⟨List.mem_of_getElem? (i := 540) (by decide +kernel), rfl⟩)
theorem tw_541 : (Jvm.Cond.fieldLink "DelayMachineModel" (110 : Nat) "DelayMachineModel" "line" "I") ∈ lw_g := List.mem_append_right _ (List.mem_filter.mpr ⟨List.mem_of_getElem? (i := 541) (by decide +kernel), rfl⟩)
theorem tw_542 : (Jvm.Cond.fieldLink "DelayMachineModel" (113 : Nat) "DelayMachineModel" "place" "I") ∈ lw_g := List.mem_append_right _ (List.mem_filter.mpr ⟨List.mem_of_getElem? (i := 542) (by decide +kernel), rfl⟩)
theorem tw_543 : (Jvm.Cond.fieldLink "DelayMachineModel" (107 : Nat) "DelayMachineModel" "count" "I") ∈ lw_g := List.mem_append_right _ (List.mem_filter.mpr ⟨List.mem_of_getElem? (i := 543) (by decide +kernel), rfl⟩)
theorem tw_544 : (Jvm.Cond.fieldLink "DelayMachineModel" (141 : Nat) "DelayMachineModel" "order" "I") ∈ lw_g := List.mem_append_right _ (List.mem_filter.mpr ⟨List.mem_of_getElem? (i := 544) (by decide +kernel), rfl⟩)
theorem tw_545 : (Jvm.Cond.fieldLink "DelayMachineModel" (116 : Nat) "DelayMachineModel" "opens" "I") ∈ lw_g := List.mem_append_right _ (List.mem_filter.mpr ⟨List.mem_of_getElem? (i := 545) (by decide +kernel), rfl⟩)
theorem tw_546 : (Jvm.Cond.fieldLink "DelayMachineModel" (119 : Nat) "DelayMachineModel" "closes" "I") ∈ lw_g := List.mem_append_right _ (List.mem_filter.mpr ⟨List.mem_of_getElem? (i := 546) (by decide +kernel), rfl⟩)
theorem tw_547 : (Jvm.Cond.fieldLink "DelayMachineModel" (144 : Nat) "DelayMachineModel" "lastOrder" "I") ∈ lw_g := List.mem_append_right _ (List.mem_filter.mpr ⟨List.mem_of_getElem? (i := 547) (by decide +kernel), rfl⟩)
theorem tw_548 : (Jvm.Cond.fieldLink "DelayMachineModel" (122 : Nat) "DelayMachineModel" "lastOpens" "I") ∈ lw_g := List.mem_append_right _ (List.mem_filter.mpr ⟨List.mem_of_getElem? (i := 548) (by decide +kernel), rfl⟩)
theorem tw_549 : (Jvm.Cond.fieldLink "DelayMachineModel" (125 : Nat) "DelayMachineModel" "lastCloses" "I") ∈ lw_g := List.mem_append_right _ (List.mem_filter.mpr ⟨List.mem_of_getElem? (i := 549) (by decide +kernel), rfl⟩)
theorem tw_550 : (Jvm.Cond.fieldLink "DelayMachineModel" (150 : Nat) "DelayMachineModel" "turned" "Z") ∈ lw_g := List.mem_append_right _ (List.mem_filter.mpr ⟨List.mem_of_getElem? (i := 550) (by decide +kernel), rfl⟩)
theorem tw_551 : (Jvm.Cond.fieldLink "DelayMachineModel" (104 : Nat) "DelayMachineModel" "work" "I") ∈ lw_g := List.mem_append_right _ (List.mem_filter.mpr ⟨List.mem_of_getElem? (i := 551) (by decide +kernel), rfl⟩)
theorem tw_552 : (Jvm.Cond.fieldLink "DelayMachineModel" (161 : Nat) "DelayMachineModel" "factor" "I") ∈ lw_g := List.mem_append_right _ (List.mem_filter.mpr ⟨List.mem_of_getElem? (i := 552) (by decide +kernel), rfl⟩)
theorem tw_553 : (Jvm.Cond.fieldLink "DelayMachineModel" (94 : Nat) "DelayMachineModel" "cards" "I") ∈ lw_g := List.mem_append_right _ (List.mem_filter.mpr ⟨List.mem_of_getElem? (i := 553) (by decide +kernel), rfl⟩)
theorem tw_554 : (Jvm.Cond.fieldLink "DelayMachineModel" (91 : Nat) "DelayMachineModel" "came" "I") ∈ lw_g := List.mem_append_right _ (List.mem_filter.mpr ⟨List.mem_of_getElem? (i := 554) (by decide +kernel), rfl⟩)
theorem tw_555 : (Jvm.Cond.fieldLink "DelayMachineModel" (17 : Nat) "DelayMachineModel" "deck" "[S") ∈ lw_g := List.mem_append_right _ (List.mem_filter.mpr ⟨List.mem_of_getElem? (i := 555) (by decide +kernel), rfl⟩)
theorem tw_556 : (Jvm.Cond.fieldLink "DelayMachineModel" (20 : Nat) "DelayMachineModel" "card" "[S") ∈ lw_g := List.mem_append_right _ (List.mem_filter.mpr ⟨List.mem_of_getElem? (i := 556) (by decide +kernel), rfl⟩)
theorem tw_557 : (Jvm.Cond.fieldLink "DelayMachineModel" (23 : Nat) "DelayMachineModel" "fed" "I") ∈ lw_g := List.mem_append_right _ (List.mem_filter.mpr ⟨List.mem_of_getElem? (i := 557) (by decide +kernel), rfl⟩)
theorem tw_558 : (Jvm.Cond.fieldLink "DelayMachineModel" (175 : Nat) "DelayMachineModel" "moved" "Z") ∈ lw_g := List.mem_append_right _ (List.mem_filter.mpr ⟨List.mem_of_getElem? (i := 558) (by decide +kernel), rfl⟩)
theorem tw_559 : (Jvm.Cond.fieldLink "DelayMachineModel" (178 : Nat) "DelayMachineModel" "punches" "I") ∈ lw_g := List.mem_append_right _ (List.mem_filter.mpr ⟨List.mem_of_getElem? (i := 559) (by decide +kernel), rfl⟩)
theorem tw_560 : (Jvm.Cond.fieldLink "DelayMachineModel" (27 : Nat) "DelayMachineModel" "punch" "[S") ∈ lw_g := List.mem_append_right _ (List.mem_filter.mpr ⟨List.mem_of_getElem? (i := 560) (by decide +kernel), rfl⟩)
theorem tw_561 : (Jvm.Cond.fieldLink "DelayMachineModel" (30 : Nat) "DelayMachineModel" "punchedAt" "I") ∈ lw_g := List.mem_append_right _ (List.mem_filter.mpr ⟨List.mem_of_getElem? (i := 561) (by decide +kernel), rfl⟩)
theorem tw_562 : (Jvm.Cond.fieldLink "DelayMachineModel" (206 : Nat) "DelayMachineModel" "statements" "I") ∈ lw_g := List.mem_append_right _ (List.mem_filter.mpr ⟨List.mem_of_getElem? (i := 562) (by decide +kernel), rfl⟩)
theorem tw_563 : (Jvm.Cond.fieldLink "DelayMachineModel" (33 : Nat) "DelayMachineModel" "operation" "[I") ∈ lw_g := List.mem_append_right _ (List.mem_filter.mpr ⟨List.mem_of_getElem? (i := 563) (by decide +kernel), rfl⟩)
theorem tw_564 : (Jvm.Cond.fieldLink "DelayMachineModel" (36 : Nat) "DelayMachineModel" "first" "[I") ∈ lw_g := List.mem_append_right _ (List.mem_filter.mpr ⟨List.mem_of_getElem? (i := 564) (by decide +kernel), rfl⟩)
theorem tw_565 : (Jvm.Cond.fieldLink "DelayMachineModel" (39 : Nat) "DelayMachineModel" "second" "[I") ∈ lw_g := List.mem_append_right _ (List.mem_filter.mpr ⟨List.mem_of_getElem? (i := 565) (by decide +kernel), rfl⟩)
theorem tw_566 : (Jvm.Cond.fieldLink "DelayMachineModel" (42 : Nat) "DelayMachineModel" "third" "[I") ∈ lw_g := List.mem_append_right _ (List.mem_filter.mpr ⟨List.mem_of_getElem? (i := 566) (by decide +kernel), rfl⟩)
theorem tw_567 : (Jvm.Cond.fieldLink "DelayMachineModel" (45 : Nat) "DelayMachineModel" "goTo" "[I") ∈ lw_g := List.mem_append_right _ (List.mem_filter.mpr ⟨List.mem_of_getElem? (i := 567) (by decide +kernel), rfl⟩)
theorem tw_568 : (Jvm.Cond.fieldLink "DelayMachineModel" (209 : Nat) "DelayMachineModel" "listed" "I") ∈ lw_g := List.mem_append_right _ (List.mem_filter.mpr ⟨List.mem_of_getElem? (i := 568) (by decide +kernel), rfl⟩)
theorem tw_569 : (Jvm.Cond.fieldLink "DelayMachineModel" (48 : Nat) "DelayMachineModel" "source" "[I") ∈ lw_g := List.mem_append_right _ (List.mem_filter.mpr ⟨List.mem_of_getElem? (i := 569) (by decide +kernel), rfl⟩)
theorem tw_570 : (Jvm.Cond.fieldLink "DelayMachineModel" (51 : Nat) "DelayMachineModel" "goal" "[I") ∈ lw_g := List.mem_append_right _ (List.mem_filter.mpr ⟨List.mem_of_getElem? (i := 570) (by decide +kernel), rfl⟩)
theorem tw_571 : (Jvm.Cond.fieldLink "DelayMachineModel" (54 : Nat) "DelayMachineModel" "operand" "[I") ∈ lw_g := List.mem_append_right _ (List.mem_filter.mpr ⟨List.mem_of_getElem? (i := 571) (by decide +kernel), rfl⟩)
theorem tw_572 : (Jvm.Cond.fieldLink "DelayMachineModel" (57 : Nat) "DelayMachineModel" "owner" "[I") ∈ lw_g := List.mem_append_right _ (List.mem_filter.mpr ⟨List.mem_of_getElem? (i := 572) (by decide +kernel), rfl⟩)
theorem tw_573 : (Jvm.Cond.fieldLink "DelayMachineModel" (60 : Nat) "DelayMachineModel" "spot" "[I") ∈ lw_g := List.mem_append_right _ (List.mem_filter.mpr ⟨List.mem_of_getElem? (i := 573) (by decide +kernel), rfl⟩)
theorem tw_574 : (Jvm.Cond.fieldLink "DelayMachineModel" (63 : Nat) "DelayMachineModel" "waits" "[I") ∈ lw_g := List.mem_append_right _ (List.mem_filter.mpr ⟨List.mem_of_getElem? (i := 574) (by decide +kernel), rfl⟩)
theorem tw_575 : (Jvm.Cond.fieldLink "DelayMachineModel" (66 : Nat) "DelayMachineModel" "taken" "[Z") ∈ lw_g := List.mem_append_right _ (List.mem_filter.mpr ⟨List.mem_of_getElem? (i := 575) (by decide +kernel), rfl⟩)
theorem tw_576 : (Jvm.Cond.fieldLink "DelayMachineModel" (70 : Nat) "DelayMachineModel" "held" "[Z") ∈ lw_g := List.mem_append_right _ (List.mem_filter.mpr ⟨List.mem_of_getElem? (i := 576) (by decide +kernel), rfl⟩)
theorem tw_577 : (Jvm.Cond.fieldLink "DelayMachineModel" (73 : Nat) "DelayMachineModel" "places" "[I") ∈ lw_g := List.mem_append_right _ (List.mem_filter.mpr ⟨List.mem_of_getElem? (i := 577) (by decide +kernel), rfl⟩)
theorem tw_578 : (Jvm.Cond.fieldLink "DelayMachineModel" (239 : Nat) "DelayMachineModel" "known" "I") ∈ lw_g := List.mem_append_right _ (List.mem_filter.mpr ⟨List.mem_of_getElem? (i := 578) (by decide +kernel), rfl⟩)
theorem tw_579 : (Jvm.Cond.fieldLink "DelayMachineModel" (76 : Nat) "DelayMachineModel" "begins" "[I") ∈ lw_g := List.mem_append_right _ (List.mem_filter.mpr ⟨List.mem_of_getElem? (i := 579) (by decide +kernel), rfl⟩)
theorem tw_580 : (Jvm.Cond.fieldLink "DelayMachineModel" (79 : Nat) "DelayMachineModel" "variables" "[I") ∈ lw_g := List.mem_append_right _ (List.mem_filter.mpr ⟨List.mem_of_getElem? (i := 580) (by decide +kernel), rfl⟩)
theorem tw_676 : (Jvm.Cond.arrayClass Jvm.ClassFile.FieldType.boolean) ∈ lw_g := List.mem_append_right _ (List.mem_filter.mpr ⟨List.mem_of_getElem? (i := 676) (by decide +kernel), rfl⟩)
theorem tw_677 : (Jvm.Cond.methodLink "DelayMachineLaw" (17 : Nat) ({ cls := "DelayMachineModel", name := "order", desc := "(III)Z" } : Jvm.MethodName)) ∈ lw_g := List.mem_append_right _ (List.mem_filter.mpr ⟨List.mem_of_getElem? (i := 677) (by decide +kernel), rfl⟩)
theorem tw_678 : (Jvm.Cond.instanceMethod ({ cls := "DelayMachineModel", name := "order", desc := "(III)Z" } : Jvm.MethodName)) ∈ lw_g := List.mem_append_right _ (List.mem_filter.mpr ⟨List.mem_of_getElem? (i := 678) (by decide +kernel), rfl⟩)
theorem tw_679 : (Jvm.Cond.selects "DelayMachineModel" ({ cls := "DelayMachineModel", name := "order", desc := "(III)Z" } : Jvm.MethodName) ({ cls := "DelayMachineModel", name := "order", desc := "(III)Z" } : Jvm.MethodName)) ∈ lw_g := List.mem_append_right _ (List.mem_filter.mpr ⟨List.mem_of_getElem? (i := 679) (by decide +kernel), rfl⟩)
theorem tw_680 : (Jvm.Cond.code ({ cls := "DelayMachineModel", name := "order", desc := "(III)Z" } : Jvm.MethodName) prog_11_method_4_code (4 : Nat) (Option.some Jvm.ClassFile.FieldType.boolean)) ∈ lw_g := List.mem_append_right _ (List.mem_filter.mpr ⟨List.mem_of_getElem? (i := 680) (by decide +kernel), rfl⟩)
theorem tw_681 : (Jvm.Cond.methodLink "DelayMachineModel" (82 : Nat) ({ cls := "DelayMachineModel", name := "isOrder", desc := "(II)Z" } : Jvm.MethodName)) ∈ lw_g := List.mem_append_right _ (List.mem_filter.mpr ⟨List.mem_of_getElem? (i := 681) (by decide +kernel), rfl⟩)
theorem tw_682 : (Jvm.Cond.static ({ cls := "DelayMachineModel", name := "isOrder", desc := "(II)Z" } : Jvm.MethodName)) ∈ lw_g := List.mem_append_right _ (List.mem_filter.mpr ⟨List.mem_of_getElem? (i := 682) (by decide +kernel), rfl⟩)
theorem tw_683 : (Jvm.Cond.code ({ cls := "DelayMachineModel", name := "isOrder", desc := "(II)Z" } : Jvm.MethodName) prog_11_method_3_code (2 : Nat) (Option.some Jvm.ClassFile.FieldType.boolean)) ∈ lw_g := List.mem_append_right _ (List.mem_filter.mpr ⟨List.mem_of_getElem? (i := 683) (by decide +kernel), rfl⟩)
theorem tw_684 : (Jvm.Cond.constant "DelayMachineModel" (86 : Nat) (2097151 : Int32)) ∈ lw_g := List.mem_append_right _ (List.mem_filter.mpr ⟨List.mem_of_getElem? (i := 684) (by decide +kernel), rfl⟩)
theorem tw_685 : (Jvm.Cond.methodLink "DelayMachineLaw" (22 : Nat) ({ cls := "DelayMachineModel", name := "word", desc := "(IIS)Z" } : Jvm.MethodName)) ∈ lw_g := List.mem_append_right _ (List.mem_filter.mpr ⟨List.mem_of_getElem? (i := 685) (by decide +kernel), rfl⟩)
theorem tw_686 : (Jvm.Cond.instanceMethod ({ cls := "DelayMachineModel", name := "word", desc := "(IIS)Z" } : Jvm.MethodName)) ∈ lw_g := List.mem_append_right _ (List.mem_filter.mpr ⟨List.mem_of_getElem? (i := 686) (by decide +kernel), rfl⟩)
theorem tw_687 : (Jvm.Cond.selects "DelayMachineModel" ({ cls := "DelayMachineModel", name := "word", desc := "(IIS)Z" } : Jvm.MethodName) ({ cls := "DelayMachineModel", name := "word", desc := "(IIS)Z" } : Jvm.MethodName)) ∈ lw_g := List.mem_append_right _ (List.mem_filter.mpr ⟨List.mem_of_getElem? (i := 687) (by decide +kernel), rfl⟩)
theorem tw_688 : (Jvm.Cond.code ({ cls := "DelayMachineModel", name := "word", desc := "(IIS)Z" } : Jvm.MethodName) prog_11_method_5_code (5 : Nat) (Option.some Jvm.ClassFile.FieldType.boolean)) ∈ lw_g := List.mem_append_right _ (List.mem_filter.mpr ⟨List.mem_of_getElem? (i := 688) (by decide +kernel), rfl⟩)
theorem tw_689 : (Jvm.Cond.methodLink "DelayMachineModel" (87 : Nat) ({ cls := "DelayMachineModel", name := "wordAt", desc := "(II)I" } : Jvm.MethodName)) ∈ lw_g := List.mem_append_right _ (List.mem_filter.mpr ⟨List.mem_of_getElem? (i := 689) (by decide +kernel), rfl⟩)
theorem tw_690 : (Jvm.Cond.static ({ cls := "DelayMachineModel", name := "wordAt", desc := "(II)I" } : Jvm.MethodName)) ∈ lw_g := List.mem_append_right _ (List.mem_filter.mpr ⟨List.mem_of_getElem? (i := 690) (by decide +kernel), rfl⟩)
theorem tw_691 : (Jvm.Cond.code ({ cls := "DelayMachineModel", name := "wordAt", desc := "(II)I" } : Jvm.MethodName) prog_11_method_2_code (2 : Nat) (Option.some Jvm.ClassFile.FieldType.int)) ∈ lw_g := List.mem_append_right _ (List.mem_filter.mpr ⟨List.mem_of_getElem? (i := 691) (by decide +kernel), rfl⟩)
theorem tw_692 : (Jvm.Cond.methodLink "DelayMachineLaw" (27 : Nat) ({ cls := "DelayMachineModel", name := "card", desc := "(S)Z" } : Jvm.MethodName)) ∈ lw_g := List.mem_append_right _ (List.mem_filter.mpr ⟨List.mem_of_getElem? (i := 692) (by decide +kernel), rfl⟩)
theorem tw_693 : (Jvm.Cond.instanceMethod ({ cls := "DelayMachineModel", name := "card", desc := "(S)Z" } : Jvm.MethodName)) ∈ lw_g := List.mem_append_right _ (List.mem_filter.mpr ⟨List.mem_of_getElem? (i := 693) (by decide +kernel), rfl⟩)
theorem tw_694 : (Jvm.Cond.selects "DelayMachineModel" ({ cls := "DelayMachineModel", name := "card", desc := "(S)Z" } : Jvm.MethodName) ({ cls := "DelayMachineModel", name := "card", desc := "(S)Z" } : Jvm.MethodName)) ∈ lw_g := List.mem_append_right _ (List.mem_filter.mpr ⟨List.mem_of_getElem? (i := 694) (by decide +kernel), rfl⟩)
theorem tw_695 : (Jvm.Cond.code ({ cls := "DelayMachineModel", name := "card", desc := "(S)Z" } : Jvm.MethodName) prog_11_method_6_code (2 : Nat) (Option.some Jvm.ClassFile.FieldType.boolean)) ∈ lw_g := List.mem_append_right _ (List.mem_filter.mpr ⟨List.mem_of_getElem? (i := 695) (by decide +kernel), rfl⟩)
theorem tw_696 : (Jvm.Cond.methodLink "DelayMachineLaw" (32 : Nat) ({ cls := "DelayMachineModel", name := "start", desc := "(II)Z" } : Jvm.MethodName)) ∈ lw_g := List.mem_append_right _ (List.mem_filter.mpr ⟨List.mem_of_getElem? (i := 696) (by decide +kernel), rfl⟩)
theorem tw_697 : (Jvm.Cond.instanceMethod ({ cls := "DelayMachineModel", name := "start", desc := "(II)Z" } : Jvm.MethodName)) ∈ lw_g := List.mem_append_right _ (List.mem_filter.mpr ⟨List.mem_of_getElem? (i := 697) (by decide +kernel), rfl⟩)
theorem tw_698 : (Jvm.Cond.selects "DelayMachineModel" ({ cls := "DelayMachineModel", name := "start", desc := "(II)Z" } : Jvm.MethodName) ({ cls := "DelayMachineModel", name := "start", desc := "(II)Z" } : Jvm.MethodName)) ∈ lw_g := List.mem_append_right _ (List.mem_filter.mpr ⟨List.mem_of_getElem? (i := 698) (by decide +kernel), rfl⟩)
theorem tw_699 : (Jvm.Cond.code ({ cls := "DelayMachineModel", name := "start", desc := "(II)Z" } : Jvm.MethodName) prog_11_method_7_code (3 : Nat) (Option.some Jvm.ClassFile.FieldType.boolean)) ∈ lw_g := List.mem_append_right _ (List.mem_filter.mpr ⟨List.mem_of_getElem? (i := 699) (by decide +kernel), rfl⟩)
theorem tw_700 : (Jvm.Cond.methodLink "DelayMachineLaw" (37 : Nat) ({ cls := "DelayMachineModel", name := "run", desc := "(I)I" } : Jvm.MethodName)) ∈ lw_g := List.mem_append_right _ (List.mem_filter.mpr ⟨List.mem_of_getElem? (i := 700) (by decide +kernel), rfl⟩)
theorem tw_701 : (Jvm.Cond.instanceMethod ({ cls := "DelayMachineModel", name := "run", desc := "(I)I" } : Jvm.MethodName)) ∈ lw_g := List.mem_append_right _ (List.mem_filter.mpr ⟨List.mem_of_getElem? (i := 701) (by decide +kernel), rfl⟩)
theorem tw_702 : (Jvm.Cond.selects "DelayMachineModel" ({ cls := "DelayMachineModel", name := "run", desc := "(I)I" } : Jvm.MethodName) ({ cls := "DelayMachineModel", name := "run", desc := "(I)I" } : Jvm.MethodName)) ∈ lw_g := List.mem_append_right _ (List.mem_filter.mpr ⟨List.mem_of_getElem? (i := 702) (by decide +kernel), rfl⟩)
theorem tw_703 : (Jvm.Cond.code ({ cls := "DelayMachineModel", name := "run", desc := "(I)I" } : Jvm.MethodName) prog_11_method_21_code (3 : Nat) (Option.some Jvm.ClassFile.FieldType.int)) ∈ lw_g := List.mem_append_right _ (List.mem_filter.mpr ⟨List.mem_of_getElem? (i := 703) (by decide +kernel), rfl⟩)
theorem tw_704 : (Jvm.Cond.methodLink "DelayMachineModel" (199 : Nat) ({ cls := "DelayMachineModel", name := "cycle", desc := "()V" } : Jvm.MethodName)) ∈ lw_g := List.mem_append_right _ (List.mem_filter.mpr ⟨List.mem_of_getElem? (i := 704) (by decide +kernel), rfl⟩)
theorem tw_706 : (Jvm.Cond.instanceMethod ({ cls := "DelayMachineModel", name := "cycle", desc := "()V" } : Jvm.MethodName)) ∈ lw_g := List.mem_append_right _ (List.mem_filter.mpr ⟨List.mem_of_getElem? (i := 706) (by decide +kernel), rfl⟩)
theorem tw_707 : (Jvm.Cond.code ({ cls := "DelayMachineModel", name := "cycle", desc := "()V" } : Jvm.MethodName) prog_11_method_19_code (6 : Nat) (Option.none : Option Jvm.ClassFile.FieldType)) ∈ lw_g := List.mem_append_right _ (List.mem_filter.mpr ⟨List.mem_of_getElem? (i := 707) (by decide +kernel), rfl⟩)
theorem tw_708 : (Jvm.Cond.methodLink "DelayMachineModel" (181 : Nat) ({ cls := "DelayMachineModel", name := "read", desc := "()V" } : Jvm.MethodName)) ∈ lw_g := List.mem_append_right _ (List.mem_filter.mpr ⟨List.mem_of_getElem? (i := 708) (by decide +kernel), rfl⟩)
theorem tw_710 : (Jvm.Cond.instanceMethod ({ cls := "DelayMachineModel", name := "read", desc := "()V" } : Jvm.MethodName)) ∈ lw_g := List.mem_append_right _ (List.mem_filter.mpr ⟨List.mem_of_getElem? (i := 710) (by decide +kernel), rfl⟩)
theorem tw_711 : (Jvm.Cond.code ({ cls := "DelayMachineModel", name := "read", desc := "()V" } : Jvm.MethodName) prog_11_method_10_code (2 : Nat) (Option.none : Option Jvm.ClassFile.FieldType)) ∈ lw_g := List.mem_append_right _ (List.mem_filter.mpr ⟨List.mem_of_getElem? (i := 711) (by decide +kernel), rfl⟩)
theorem tw_712 : (Jvm.Cond.methodLink "DelayMachineModel" (137 : Nat) ({ cls := "DelayMachineModel", name := "waitOf", desc := "(I)I" } : Jvm.MethodName)) ∈ lw_g := List.mem_append_right _ (List.mem_filter.mpr ⟨List.mem_of_getElem? (i := 712) (by decide +kernel), rfl⟩)
theorem tw_713 : (Jvm.Cond.static ({ cls := "DelayMachineModel", name := "waitOf", desc := "(I)I" } : Jvm.MethodName)) ∈ lw_g := List.mem_append_right _ (List.mem_filter.mpr ⟨List.mem_of_getElem? (i := 713) (by decide +kernel), rfl⟩)
theorem tw_714 : (Jvm.Cond.code ({ cls := "DelayMachineModel", name := "waitOf", desc := "(I)I" } : Jvm.MethodName) prog_11_method_8_code (1 : Nat) (Option.some Jvm.ClassFile.FieldType.int)) ∈ lw_g := List.mem_append_right _ (List.mem_filter.mpr ⟨List.mem_of_getElem? (i := 714) (by decide +kernel), rfl⟩)
theorem tw_715 : (Jvm.Cond.methodLink "DelayMachineModel" (147 : Nat) ({ cls := "DelayMachineModel", name := "gapOf", desc := "(I)I" } : Jvm.MethodName)) ∈ lw_g := List.mem_append_right _ (List.mem_filter.mpr ⟨List.mem_of_getElem? (i := 715) (by decide +kernel), rfl⟩)
theorem tw_716 : (Jvm.Cond.static ({ cls := "DelayMachineModel", name := "gapOf", desc := "(I)I" } : Jvm.MethodName)) ∈ lw_g := List.mem_append_right _ (List.mem_filter.mpr ⟨List.mem_of_getElem? (i := 716) (by decide +kernel), rfl⟩)
theorem tw_717 : (Jvm.Cond.code ({ cls := "DelayMachineModel", name := "gapOf", desc := "(I)I" } : Jvm.MethodName) prog_11_method_9_code (2 : Nat) (Option.some Jvm.ClassFile.FieldType.int)) ∈ lw_g := List.mem_append_right _ (List.mem_filter.mpr ⟨List.mem_of_getElem? (i := 717) (by decide +kernel), rfl⟩)
theorem tw_718 : (Jvm.Cond.methodLink "DelayMachineModel" (153 : Nat) ({ cls := "DelayMachineModel", name := "row", desc := "()I" } : Jvm.MethodName)) ∈ lw_g := List.mem_append_right _ (List.mem_filter.mpr ⟨List.mem_of_getElem? (i := 718) (by decide +kernel), rfl⟩)
theorem tw_720 : (Jvm.Cond.instanceMethod ({ cls := "DelayMachineModel", name := "row", desc := "()I" } : Jvm.MethodName)) ∈ lw_g := List.mem_append_right _ (List.mem_filter.mpr ⟨List.mem_of_getElem? (i := 720) (by decide +kernel), rfl⟩)
theorem tw_721 : (Jvm.Cond.code ({ cls := "DelayMachineModel", name := "row", desc := "()I" } : Jvm.MethodName) prog_11_method_11_code (2 : Nat) (Option.some Jvm.ClassFile.FieldType.int)) ∈ lw_g := List.mem_append_right _ (List.mem_filter.mpr ⟨List.mem_of_getElem? (i := 721) (by decide +kernel), rfl⟩)
theorem tw_722 : (Jvm.Cond.methodLink "DelayMachineModel" (184 : Nat) ({ cls := "DelayMachineModel", name := "current", desc := "()I" } : Jvm.MethodName)) ∈ lw_g := List.mem_append_right _ (List.mem_filter.mpr ⟨List.mem_of_getElem? (i := 722) (by decide +kernel), rfl⟩)
theorem tw_724 : (Jvm.Cond.instanceMethod ({ cls := "DelayMachineModel", name := "current", desc := "()I" } : Jvm.MethodName)) ∈ lw_g := List.mem_append_right _ (List.mem_filter.mpr ⟨List.mem_of_getElem? (i := 724) (by decide +kernel), rfl⟩)
theorem tw_725 : (Jvm.Cond.code ({ cls := "DelayMachineModel", name := "current", desc := "()I" } : Jvm.MethodName) prog_11_method_18_code (1 : Nat) (Option.some Jvm.ClassFile.FieldType.int)) ∈ lw_g := List.mem_append_right _ (List.mem_filter.mpr ⟨List.mem_of_getElem? (i := 725) (by decide +kernel), rfl⟩)
theorem tw_726 : (Jvm.Cond.methodLink "DelayMachineModel" (187 : Nat) ({ cls := "DelayMachineModel", name := "get", desc := "(I)S" } : Jvm.MethodName)) ∈ lw_g := List.mem_append_right _ (List.mem_filter.mpr ⟨List.mem_of_getElem? (i := 726) (by decide +kernel), rfl⟩)
theorem tw_728 : (Jvm.Cond.instanceMethod ({ cls := "DelayMachineModel", name := "get", desc := "(I)S" } : Jvm.MethodName)) ∈ lw_g := List.mem_append_right _ (List.mem_filter.mpr ⟨List.mem_of_getElem? (i := 728) (by decide +kernel), rfl⟩)
theorem tw_729 : (Jvm.Cond.code ({ cls := "DelayMachineModel", name := "get", desc := "(I)S" } : Jvm.MethodName) prog_11_method_12_code (4 : Nat) (Option.some Jvm.ClassFile.FieldType.short)) ∈ lw_g := List.mem_append_right _ (List.mem_filter.mpr ⟨List.mem_of_getElem? (i := 729) (by decide +kernel), rfl⟩)
theorem tw_730 : (Jvm.Cond.methodLink "DelayMachineModel" (191 : Nat) ({ cls := "DelayMachineModel", name := "put", desc := "(IS)V" } : Jvm.MethodName)) ∈ lw_g := List.mem_append_right _ (List.mem_filter.mpr ⟨List.mem_of_getElem? (i := 730) (by decide +kernel), rfl⟩)
theorem tw_732 : (Jvm.Cond.instanceMethod ({ cls := "DelayMachineModel", name := "put", desc := "(IS)V" } : Jvm.MethodName)) ∈ lw_g := List.mem_append_right _ (List.mem_filter.mpr ⟨List.mem_of_getElem? (i := 732) (by decide +kernel), rfl⟩)
theorem tw_733 : (Jvm.Cond.code ({ cls := "DelayMachineModel", name := "put", desc := "(IS)V" } : Jvm.MethodName) prog_11_method_14_code (3 : Nat) (Option.none : Option Jvm.ClassFile.FieldType)) ∈ lw_g := List.mem_append_right _ (List.mem_filter.mpr ⟨List.mem_of_getElem? (i := 733) (by decide +kernel), rfl⟩)
theorem tw_734 : (Jvm.Cond.methodLink "DelayMachineModel" (157 : Nat) ({ cls := "DelayMachineModel", name := "discriminate", desc := "(Z)V" } : Jvm.MethodName)) ∈ lw_g := List.mem_append_right _ (List.mem_filter.mpr ⟨List.mem_of_getElem? (i := 734) (by decide +kernel), rfl⟩)
theorem tw_736 : (Jvm.Cond.instanceMethod ({ cls := "DelayMachineModel", name := "discriminate", desc := "(Z)V" } : Jvm.MethodName)) ∈ lw_g := List.mem_append_right _ (List.mem_filter.mpr ⟨List.mem_of_getElem? (i := 736) (by decide +kernel), rfl⟩)
theorem tw_737 : (Jvm.Cond.code ({ cls := "DelayMachineModel", name := "discriminate", desc := "(Z)V" } : Jvm.MethodName) prog_11_method_15_code (2 : Nat) (Option.none : Option Jvm.ClassFile.FieldType)) ∈ lw_g := List.mem_append_right _ (List.mem_filter.mpr ⟨List.mem_of_getElem? (i := 737) (by decide +kernel), rfl⟩)
theorem tw_738 : (Jvm.Cond.methodLink "DelayMachineModel" (164 : Nat) ({ cls := "DelayMachineModel", name := "feed", desc := "()V" } : Jvm.MethodName)) ∈ lw_g := List.mem_append_right _ (List.mem_filter.mpr ⟨List.mem_of_getElem? (i := 738) (by decide +kernel), rfl⟩)
theorem tw_740 : (Jvm.Cond.instanceMethod ({ cls := "DelayMachineModel", name := "feed", desc := "()V" } : Jvm.MethodName)) ∈ lw_g := List.mem_append_right _ (List.mem_filter.mpr ⟨List.mem_of_getElem? (i := 740) (by decide +kernel), rfl⟩)
theorem tw_741 : (Jvm.Cond.code ({ cls := "DelayMachineModel", name := "feed", desc := "()V" } : Jvm.MethodName) prog_11_method_16_code (2 : Nat) (Option.none : Option Jvm.ClassFile.FieldType)) ∈ lw_g := List.mem_append_right _ (List.mem_filter.mpr ⟨List.mem_of_getElem? (i := 741) (by decide +kernel), rfl⟩)
theorem tw_742 : (Jvm.Cond.methodLink "DelayMachineModel" (171 : Nat) ({ cls := "DelayMachineModel", name := "fail", desc := "(I)V" } : Jvm.MethodName)) ∈ lw_g := List.mem_append_right _ (List.mem_filter.mpr ⟨List.mem_of_getElem? (i := 742) (by decide +kernel), rfl⟩)
theorem tw_744 : (Jvm.Cond.instanceMethod ({ cls := "DelayMachineModel", name := "fail", desc := "(I)V" } : Jvm.MethodName)) ∈ lw_g := List.mem_append_right _ (List.mem_filter.mpr ⟨List.mem_of_getElem? (i := 744) (by decide +kernel), rfl⟩)
theorem tw_745 : (Jvm.Cond.code ({ cls := "DelayMachineModel", name := "fail", desc := "(I)V" } : Jvm.MethodName) prog_11_method_13_code (2 : Nat) (Option.none : Option Jvm.ClassFile.FieldType)) ∈ lw_g := List.mem_append_right _ (List.mem_filter.mpr ⟨List.mem_of_getElem? (i := 745) (by decide +kernel), rfl⟩)
theorem tw_746 : (Jvm.Cond.methodLink "DelayMachineModel" (167 : Nat) ({ cls := "DelayMachineModel", name := "press", desc := "(S)V" } : Jvm.MethodName)) ∈ lw_g := List.mem_append_right _ (List.mem_filter.mpr ⟨List.mem_of_getElem? (i := 746) (by decide +kernel), rfl⟩)
theorem tw_748 : (Jvm.Cond.instanceMethod ({ cls := "DelayMachineModel", name := "press", desc := "(S)V" } : Jvm.MethodName)) ∈ lw_g := List.mem_append_right _ (List.mem_filter.mpr ⟨List.mem_of_getElem? (i := 748) (by decide +kernel), rfl⟩)
theorem tw_749 : (Jvm.Cond.code ({ cls := "DelayMachineModel", name := "press", desc := "(S)V" } : Jvm.MethodName) prog_11_method_17_code (2 : Nat) (Option.none : Option Jvm.ClassFile.FieldType)) ∈ lw_g := List.mem_append_right _ (List.mem_filter.mpr ⟨List.mem_of_getElem? (i := 749) (by decide +kernel), rfl⟩)
theorem tw_750 : (Jvm.Cond.methodLink "DelayMachineModel" (195 : Nat) ({ cls := "DelayMachineModel", name := "multiply", desc := "()V" } : Jvm.MethodName)) ∈ lw_g := List.mem_append_right _ (List.mem_filter.mpr ⟨List.mem_of_getElem? (i := 750) (by decide +kernel), rfl⟩)
theorem tw_752 : (Jvm.Cond.instanceMethod ({ cls := "DelayMachineModel", name := "multiply", desc := "()V" } : Jvm.MethodName)) ∈ lw_g := List.mem_append_right _ (List.mem_filter.mpr ⟨List.mem_of_getElem? (i := 752) (by decide +kernel), rfl⟩)
theorem tw_753 : (Jvm.Cond.code ({ cls := "DelayMachineModel", name := "multiply", desc := "()V" } : Jvm.MethodName) prog_11_method_20_code (2 : Nat) (Option.none : Option Jvm.ClassFile.FieldType)) ∈ lw_g := List.mem_append_right _ (List.mem_filter.mpr ⟨List.mem_of_getElem? (i := 753) (by decide +kernel), rfl⟩)
theorem tw_754 : (Jvm.Cond.constant "DelayMachineModel" (198 : Nat) (65535 : Int32)) ∈ lw_g := List.mem_append_right _ (List.mem_filter.mpr ⟨List.mem_of_getElem? (i := 754) (by decide +kernel), rfl⟩)
theorem tw_755 : (Jvm.Cond.methodLink "DelayMachineLaw" (41 : Nat) ({ cls := "DelayMachineModel", name := "look", desc := "(I)I" } : Jvm.MethodName)) ∈ lw_g := List.mem_append_right _ (List.mem_filter.mpr ⟨List.mem_of_getElem? (i := 755) (by decide +kernel), rfl⟩)
theorem tw_756 : (Jvm.Cond.instanceMethod ({ cls := "DelayMachineModel", name := "look", desc := "(I)I" } : Jvm.MethodName)) ∈ lw_g := List.mem_append_right _ (List.mem_filter.mpr ⟨List.mem_of_getElem? (i := 756) (by decide +kernel), rfl⟩)
theorem tw_757 : (Jvm.Cond.selects "DelayMachineModel" ({ cls := "DelayMachineModel", name := "look", desc := "(I)I" } : Jvm.MethodName) ({ cls := "DelayMachineModel", name := "look", desc := "(I)I" } : Jvm.MethodName)) ∈ lw_g := List.mem_append_right _ (List.mem_filter.mpr ⟨List.mem_of_getElem? (i := 757) (by decide +kernel), rfl⟩)
theorem tw_758 : (Jvm.Cond.code ({ cls := "DelayMachineModel", name := "look", desc := "(I)I" } : Jvm.MethodName) prog_11_method_22_code (2 : Nat) (Option.some Jvm.ClassFile.FieldType.int)) ∈ lw_g := List.mem_append_right _ (List.mem_filter.mpr ⟨List.mem_of_getElem? (i := 758) (by decide +kernel), rfl⟩)
theorem tw_759 : (Jvm.Cond.methodLink "DelayMachineLaw" (46 : Nat) ({ cls := "DelayMachineModel", name := "peek", desc := "(II)S" } : Jvm.MethodName)) ∈ lw_g := List.mem_append_right _ (List.mem_filter.mpr ⟨List.mem_of_getElem? (i := 759) (by decide +kernel), rfl⟩)
theorem tw_760 : (Jvm.Cond.instanceMethod ({ cls := "DelayMachineModel", name := "peek", desc := "(II)S" } : Jvm.MethodName)) ∈ lw_g := List.mem_append_right _ (List.mem_filter.mpr ⟨List.mem_of_getElem? (i := 760) (by decide +kernel), rfl⟩)
theorem tw_761 : (Jvm.Cond.selects "DelayMachineModel" ({ cls := "DelayMachineModel", name := "peek", desc := "(II)S" } : Jvm.MethodName) ({ cls := "DelayMachineModel", name := "peek", desc := "(II)S" } : Jvm.MethodName)) ∈ lw_g := List.mem_append_right _ (List.mem_filter.mpr ⟨List.mem_of_getElem? (i := 761) (by decide +kernel), rfl⟩)
theorem tw_762 : (Jvm.Cond.code ({ cls := "DelayMachineModel", name := "peek", desc := "(II)S" } : Jvm.MethodName) prog_11_method_23_code (4 : Nat) (Option.some Jvm.ClassFile.FieldType.short)) ∈ lw_g := List.mem_append_right _ (List.mem_filter.mpr ⟨List.mem_of_getElem? (i := 762) (by decide +kernel), rfl⟩)
theorem tw_763 : (Jvm.Cond.methodLink "DelayMachineLaw" (51 : Nat) ({ cls := "DelayMachineModel", name := "read", desc := "(II)I" } : Jvm.MethodName)) ∈ lw_g := List.mem_append_right _ (List.mem_filter.mpr ⟨List.mem_of_getElem? (i := 763) (by decide +kernel), rfl⟩)
theorem tw_764 : (Jvm.Cond.instanceMethod ({ cls := "DelayMachineModel", name := "read", desc := "(II)I" } : Jvm.MethodName)) ∈ lw_g := List.mem_append_right _ (List.mem_filter.mpr ⟨List.mem_of_getElem? (i := 764) (by decide +kernel), rfl⟩)
theorem tw_765 : (Jvm.Cond.selects "DelayMachineModel" ({ cls := "DelayMachineModel", name := "read", desc := "(II)I" } : Jvm.MethodName) ({ cls := "DelayMachineModel", name := "read", desc := "(II)I" } : Jvm.MethodName)) ∈ lw_g := List.mem_append_right _ (List.mem_filter.mpr ⟨List.mem_of_getElem? (i := 765) (by decide +kernel), rfl⟩)
theorem tw_766 : (Jvm.Cond.code ({ cls := "DelayMachineModel", name := "read", desc := "(II)I" } : Jvm.MethodName) prog_11_method_24_code (3 : Nat) (Option.some Jvm.ClassFile.FieldType.int)) ∈ lw_g := List.mem_append_right _ (List.mem_filter.mpr ⟨List.mem_of_getElem? (i := 766) (by decide +kernel), rfl⟩)
theorem tw_767 : (Jvm.Cond.methodLink "DelayMachineLaw" (56 : Nat) ({ cls := "DelayMachineModel", name := "punched", desc := "(I)S" } : Jvm.MethodName)) ∈ lw_g := List.mem_append_right _ (List.mem_filter.mpr ⟨List.mem_of_getElem? (i := 767) (by decide +kernel), rfl⟩)
theorem tw_768 : (Jvm.Cond.instanceMethod ({ cls := "DelayMachineModel", name := "punched", desc := "(I)S" } : Jvm.MethodName)) ∈ lw_g := List.mem_append_right _ (List.mem_filter.mpr ⟨List.mem_of_getElem? (i := 768) (by decide +kernel), rfl⟩)
theorem tw_769 : (Jvm.Cond.selects "DelayMachineModel" ({ cls := "DelayMachineModel", name := "punched", desc := "(I)S" } : Jvm.MethodName) ({ cls := "DelayMachineModel", name := "punched", desc := "(I)S" } : Jvm.MethodName)) ∈ lw_g := List.mem_append_right _ (List.mem_filter.mpr ⟨List.mem_of_getElem? (i := 769) (by decide +kernel), rfl⟩)
theorem tw_770 : (Jvm.Cond.code ({ cls := "DelayMachineModel", name := "punched", desc := "(I)S" } : Jvm.MethodName) prog_11_method_25_code (2 : Nat) (Option.some Jvm.ClassFile.FieldType.short)) ∈ lw_g := List.mem_append_right _ (List.mem_filter.mpr ⟨List.mem_of_getElem? (i := 770) (by decide +kernel), rfl⟩)
theorem tw_771 : (Jvm.Cond.methodLink "DelayMachineLaw" (61 : Nat) ({ cls := "DelayMachineModel", name := "statement", desc := "(IIIII)I" } : Jvm.MethodName)) ∈ lw_g := List.mem_append_right _ (List.mem_filter.mpr ⟨List.mem_of_getElem? (i := 771) (by decide +kernel), rfl⟩)
theorem tw_772 : (Jvm.Cond.instanceMethod ({ cls := "DelayMachineModel", name := "statement", desc := "(IIIII)I" } : Jvm.MethodName)) ∈ lw_g := List.mem_append_right _ (List.mem_filter.mpr ⟨List.mem_of_getElem? (i := 772) (by decide +kernel), rfl⟩)
theorem tw_773 : (Jvm.Cond.selects "DelayMachineModel" ({ cls := "DelayMachineModel", name := "statement", desc := "(IIIII)I" } : Jvm.MethodName) ({ cls := "DelayMachineModel", name := "statement", desc := "(IIIII)I" } : Jvm.MethodName)) ∈ lw_g := List.mem_append_right _ (List.mem_filter.mpr ⟨List.mem_of_getElem? (i := 773) (by decide +kernel), rfl⟩)
theorem tw_774 : (Jvm.Cond.code ({ cls := "DelayMachineModel", name := "statement", desc := "(IIIII)I" } : Jvm.MethodName) prog_11_method_27_code (7 : Nat) (Option.some Jvm.ClassFile.FieldType.int)) ∈ lw_g := List.mem_append_right _ (List.mem_filter.mpr ⟨List.mem_of_getElem? (i := 774) (by decide +kernel), rfl⟩)
theorem tw_775 : (Jvm.Cond.methodLink "DelayMachineModel" (202 : Nat) ({ cls := "DelayMachineModel", name := "isVariable", desc := "(I)Z" } : Jvm.MethodName)) ∈ lw_g := List.mem_append_right _ (List.mem_filter.mpr ⟨List.mem_of_getElem? (i := 775) (by decide +kernel), rfl⟩)
theorem tw_776 : (Jvm.Cond.static ({ cls := "DelayMachineModel", name := "isVariable", desc := "(I)Z" } : Jvm.MethodName)) ∈ lw_g := List.mem_append_right _ (List.mem_filter.mpr ⟨List.mem_of_getElem? (i := 776) (by decide +kernel), rfl⟩)
theorem tw_777 : (Jvm.Cond.code ({ cls := "DelayMachineModel", name := "isVariable", desc := "(I)Z" } : Jvm.MethodName) prog_11_method_26_code (1 : Nat) (Option.some Jvm.ClassFile.FieldType.boolean)) ∈ lw_g := List.mem_append_right _ (List.mem_filter.mpr ⟨List.mem_of_getElem? (i := 777) (by decide +kernel), rfl⟩)
theorem tw_778 : (Jvm.Cond.methodLink "DelayMachineLaw" (65 : Nat) ({ cls := "DelayMachineModel", name := "clear", desc := "()V" } : Jvm.MethodName)) ∈ lw_g := List.mem_append_right _ (List.mem_filter.mpr ⟨List.mem_of_getElem? (i := 778) (by decide +kernel), rfl⟩)
theorem tw_779 : (Jvm.Cond.instanceMethod ({ cls := "DelayMachineModel", name := "clear", desc := "()V" } : Jvm.MethodName)) ∈ lw_g := List.mem_append_right _ (List.mem_filter.mpr ⟨List.mem_of_getElem? (i := 779) (by decide +kernel), rfl⟩)
theorem tw_780 : (Jvm.Cond.selects "DelayMachineModel" ({ cls := "DelayMachineModel", name := "clear", desc := "()V" } : Jvm.MethodName) ({ cls := "DelayMachineModel", name := "clear", desc := "()V" } : Jvm.MethodName)) ∈ lw_g := List.mem_append_right _ (List.mem_filter.mpr ⟨List.mem_of_getElem? (i := 780) (by decide +kernel), rfl⟩)
theorem tw_781 : (Jvm.Cond.code ({ cls := "DelayMachineModel", name := "clear", desc := "()V" } : Jvm.MethodName) prog_11_method_28_code (1 : Nat) (Option.none : Option Jvm.ClassFile.FieldType)) ∈ lw_g := List.mem_append_right _ (List.mem_filter.mpr ⟨List.mem_of_getElem? (i := 781) (by decide +kernel), rfl⟩)
theorem tw_782 : (Jvm.Cond.methodLink "DelayMachineLaw" (70 : Nat) ({ cls := "DelayMachineModel", name := "assemble", desc := "()I" } : Jvm.MethodName)) ∈ lw_g := List.mem_append_right _ (List.mem_filter.mpr ⟨List.mem_of_getElem? (i := 782) (by decide +kernel), rfl⟩)
theorem tw_783 : (Jvm.Cond.instanceMethod ({ cls := "DelayMachineModel", name := "assemble", desc := "()I" } : Jvm.MethodName)) ∈ lw_g := List.mem_append_right _ (List.mem_filter.mpr ⟨List.mem_of_getElem? (i := 783) (by decide +kernel), rfl⟩)
theorem tw_784 : (Jvm.Cond.selects "DelayMachineModel" ({ cls := "DelayMachineModel", name := "assemble", desc := "()I" } : Jvm.MethodName) ({ cls := "DelayMachineModel", name := "assemble", desc := "()I" } : Jvm.MethodName)) ∈ lw_g := List.mem_append_right _ (List.mem_filter.mpr ⟨List.mem_of_getElem? (i := 784) (by decide +kernel), rfl⟩)
theorem tw_785 : (Jvm.Cond.code ({ cls := "DelayMachineModel", name := "assemble", desc := "()I" } : Jvm.MethodName) prog_11_method_37_code (3 : Nat) (Option.some Jvm.ClassFile.FieldType.int)) ∈ lw_g := List.mem_append_right _ (List.mem_filter.mpr ⟨List.mem_of_getElem? (i := 785) (by decide +kernel), rfl⟩)
theorem tw_786 : (Jvm.Cond.methodLink "DelayMachineModel" (230 : Nat) ({ cls := "DelayMachineModel", name := "listAll", desc := "()V" } : Jvm.MethodName)) ∈ lw_g := List.mem_append_right _ (List.mem_filter.mpr ⟨List.mem_of_getElem? (i := 786) (by decide +kernel), rfl⟩)
theorem tw_788 : (Jvm.Cond.instanceMethod ({ cls := "DelayMachineModel", name := "listAll", desc := "()V" } : Jvm.MethodName)) ∈ lw_g := List.mem_append_right _ (List.mem_filter.mpr ⟨List.mem_of_getElem? (i := 788) (by decide +kernel), rfl⟩)
theorem tw_789 : (Jvm.Cond.code ({ cls := "DelayMachineModel", name := "listAll", desc := "()V" } : Jvm.MethodName) prog_11_method_30_code (5 : Nat) (Option.none : Option Jvm.ClassFile.FieldType)) ∈ lw_g := List.mem_append_right _ (List.mem_filter.mpr ⟨List.mem_of_getElem? (i := 789) (by decide +kernel), rfl⟩)
theorem tw_790 : (Jvm.Cond.methodLink "DelayMachineModel" (212 : Nat) ({ cls := "DelayMachineModel", name := "list", desc := "(IIII)V" } : Jvm.MethodName)) ∈ lw_g := List.mem_append_right _ (List.mem_filter.mpr ⟨List.mem_of_getElem? (i := 790) (by decide +kernel), rfl⟩)
theorem tw_792 : (Jvm.Cond.instanceMethod ({ cls := "DelayMachineModel", name := "list", desc := "(IIII)V" } : Jvm.MethodName)) ∈ lw_g := List.mem_append_right _ (List.mem_filter.mpr ⟨List.mem_of_getElem? (i := 792) (by decide +kernel), rfl⟩)
theorem tw_793 : (Jvm.Cond.code ({ cls := "DelayMachineModel", name := "list", desc := "(IIII)V" } : Jvm.MethodName) prog_11_method_29_code (5 : Nat) (Option.none : Option Jvm.ClassFile.FieldType)) ∈ lw_g := List.mem_append_right _ (List.mem_filter.mpr ⟨List.mem_of_getElem? (i := 793) (by decide +kernel), rfl⟩)
theorem tw_794 : (Jvm.Cond.methodLink "DelayMachineModel" (233 : Nat) ({ cls := "DelayMachineModel", name := "place", desc := "()Z" } : Jvm.MethodName)) ∈ lw_g := List.mem_append_right _ (List.mem_filter.mpr ⟨List.mem_of_getElem? (i := 794) (by decide +kernel), rfl⟩)
theorem tw_796 : (Jvm.Cond.instanceMethod ({ cls := "DelayMachineModel", name := "place", desc := "()Z" } : Jvm.MethodName)) ∈ lw_g := List.mem_append_right _ (List.mem_filter.mpr ⟨List.mem_of_getElem? (i := 796) (by decide +kernel), rfl⟩)
theorem tw_797 : (Jvm.Cond.code ({ cls := "DelayMachineModel", name := "place", desc := "()Z" } : Jvm.MethodName) prog_11_method_32_code (6 : Nat) (Option.some Jvm.ClassFile.FieldType.boolean)) ∈ lw_g := List.mem_append_right _ (List.mem_filter.mpr ⟨List.mem_of_getElem? (i := 797) (by decide +kernel), rfl⟩)
theorem tw_798 : (Jvm.Cond.methodLink "DelayMachineModel" (216 : Nat) ({ cls := "DelayMachineModel", name := "free", desc := "(IZ)I" } : Jvm.MethodName)) ∈ lw_g := List.mem_append_right _ (List.mem_filter.mpr ⟨List.mem_of_getElem? (i := 798) (by decide +kernel), rfl⟩)
theorem tw_800 : (Jvm.Cond.instanceMethod ({ cls := "DelayMachineModel", name := "free", desc := "(IZ)I" } : Jvm.MethodName)) ∈ lw_g := List.mem_append_right _ (List.mem_filter.mpr ⟨List.mem_of_getElem? (i := 800) (by decide +kernel), rfl⟩)
theorem tw_801 : (Jvm.Cond.code ({ cls := "DelayMachineModel", name := "free", desc := "(IZ)I" } : Jvm.MethodName) prog_11_method_31_code (6 : Nat) (Option.some Jvm.ClassFile.FieldType.int)) ∈ lw_g := List.mem_append_right _ (List.mem_filter.mpr ⟨List.mem_of_getElem? (i := 801) (by decide +kernel), rfl⟩)
theorem tw_802 : (Jvm.Cond.methodLink "DelayMachineModel" (220 : Nat) ({ cls := "DelayMachineModel", name := "variableFrom", desc := "(II)I" } : Jvm.MethodName)) ∈ lw_g := List.mem_append_right _ (List.mem_filter.mpr ⟨List.mem_of_getElem? (i := 802) (by decide +kernel), rfl⟩)
theorem tw_804 : (Jvm.Cond.instanceMethod ({ cls := "DelayMachineModel", name := "variableFrom", desc := "(II)I" } : Jvm.MethodName)) ∈ lw_g := List.mem_append_right _ (List.mem_filter.mpr ⟨List.mem_of_getElem? (i := 804) (by decide +kernel), rfl⟩)
theorem tw_805 : (Jvm.Cond.code ({ cls := "DelayMachineModel", name := "variableFrom", desc := "(II)I" } : Jvm.MethodName) prog_11_method_33_code (4 : Nat) (Option.some Jvm.ClassFile.FieldType.int)) ∈ lw_g := List.mem_append_right _ (List.mem_filter.mpr ⟨List.mem_of_getElem? (i := 805) (by decide +kernel), rfl⟩)
theorem tw_806 : (Jvm.Cond.constant "DelayMachineModel" (229 : Nat) (1015824 : Int32)) ∈ lw_g := List.mem_append_right _ (List.mem_filter.mpr ⟨List.mem_of_getElem? (i := 806) (by decide +kernel), rfl⟩)
theorem tw_807 : (Jvm.Cond.methodLink "DelayMachineModel" (236 : Nat) ({ cls := "DelayMachineModel", name := "write", desc := "(I)V" } : Jvm.MethodName)) ∈ lw_g := List.mem_append_right _ (List.mem_filter.mpr ⟨List.mem_of_getElem? (i := 807) (by decide +kernel), rfl⟩)
theorem tw_809 : (Jvm.Cond.instanceMethod ({ cls := "DelayMachineModel", name := "write", desc := "(I)V" } : Jvm.MethodName)) ∈ lw_g := List.mem_append_right _ (List.mem_filter.mpr ⟨List.mem_of_getElem? (i := 809) (by decide +kernel), rfl⟩)
theorem tw_810 : (Jvm.Cond.code ({ cls := "DelayMachineModel", name := "write", desc := "(I)V" } : Jvm.MethodName) prog_11_method_35_code (7 : Nat) (Option.none : Option Jvm.ClassFile.FieldType)) ∈ lw_g := List.mem_append_right _ (List.mem_filter.mpr ⟨List.mem_of_getElem? (i := 810) (by decide +kernel), rfl⟩)
theorem tw_811 : (Jvm.Cond.methodLink "DelayMachineModel" (223 : Nat) ({ cls := "DelayMachineModel", name := "isSecond", desc := "(I)Z" } : Jvm.MethodName)) ∈ lw_g := List.mem_append_right _ (List.mem_filter.mpr ⟨List.mem_of_getElem? (i := 811) (by decide +kernel), rfl⟩)
theorem tw_813 : (Jvm.Cond.instanceMethod ({ cls := "DelayMachineModel", name := "isSecond", desc := "(I)Z" } : Jvm.MethodName)) ∈ lw_g := List.mem_append_right _ (List.mem_filter.mpr ⟨List.mem_of_getElem? (i := 813) (by decide +kernel), rfl⟩)
theorem tw_814 : (Jvm.Cond.code ({ cls := "DelayMachineModel", name := "isSecond", desc := "(I)Z" } : Jvm.MethodName) prog_11_method_36_code (2 : Nat) (Option.some Jvm.ClassFile.FieldType.boolean)) ∈ lw_g := List.mem_append_right _ (List.mem_filter.mpr ⟨List.mem_of_getElem? (i := 814) (by decide +kernel), rfl⟩)
theorem tw_815 : (Jvm.Cond.methodLink "DelayMachineModel" (226 : Nat) ({ cls := "DelayMachineModel", name := "firstOf", desc := "(I)I" } : Jvm.MethodName)) ∈ lw_g := List.mem_append_right _ (List.mem_filter.mpr ⟨List.mem_of_getElem? (i := 815) (by decide +kernel), rfl⟩)
theorem tw_817 : (Jvm.Cond.instanceMethod ({ cls := "DelayMachineModel", name := "firstOf", desc := "(I)I" } : Jvm.MethodName)) ∈ lw_g := List.mem_append_right _ (List.mem_filter.mpr ⟨List.mem_of_getElem? (i := 817) (by decide +kernel), rfl⟩)
theorem tw_818 : (Jvm.Cond.code ({ cls := "DelayMachineModel", name := "firstOf", desc := "(I)I" } : Jvm.MethodName) prog_11_method_34_code (3 : Nat) (Option.some Jvm.ClassFile.FieldType.int)) ∈ lw_g := List.mem_append_right _ (List.mem_filter.mpr ⟨List.mem_of_getElem? (i := 818) (by decide +kernel), rfl⟩)
theorem tw_819 : (Jvm.Cond.methodLink "DelayMachineLaw" (74 : Nat) ({ cls := "DelayMachineModel", name := "placed", desc := "(I)I" } : Jvm.MethodName)) ∈ lw_g := List.mem_append_right _ (List.mem_filter.mpr ⟨List.mem_of_getElem? (i := 819) (by decide +kernel), rfl⟩)
theorem tw_820 : (Jvm.Cond.instanceMethod ({ cls := "DelayMachineModel", name := "placed", desc := "(I)I" } : Jvm.MethodName)) ∈ lw_g := List.mem_append_right _ (List.mem_filter.mpr ⟨List.mem_of_getElem? (i := 820) (by decide +kernel), rfl⟩)
theorem tw_821 : (Jvm.Cond.selects "DelayMachineModel" ({ cls := "DelayMachineModel", name := "placed", desc := "(I)I" } : Jvm.MethodName) ({ cls := "DelayMachineModel", name := "placed", desc := "(I)I" } : Jvm.MethodName)) ∈ lw_g := List.mem_append_right _ (List.mem_filter.mpr ⟨List.mem_of_getElem? (i := 821) (by decide +kernel), rfl⟩)
theorem tw_822 : (Jvm.Cond.code ({ cls := "DelayMachineModel", name := "placed", desc := "(I)I" } : Jvm.MethodName) prog_11_method_38_code (2 : Nat) (Option.some Jvm.ClassFile.FieldType.int)) ∈ lw_g := List.mem_append_right _ (List.mem_filter.mpr ⟨List.mem_of_getElem? (i := 822) (by decide +kernel), rfl⟩)
theorem tw_823 : (Jvm.Cond.methodLink "DelayMachineLaw" (78 : Nat) ({ cls := "DelayMachineModel", name := "variable", desc := "(I)I" } : Jvm.MethodName)) ∈ lw_g := List.mem_append_right _ (List.mem_filter.mpr ⟨List.mem_of_getElem? (i := 823) (by decide +kernel), rfl⟩)
theorem tw_824 : (Jvm.Cond.instanceMethod ({ cls := "DelayMachineModel", name := "variable", desc := "(I)I" } : Jvm.MethodName)) ∈ lw_g := List.mem_append_right _ (List.mem_filter.mpr ⟨List.mem_of_getElem? (i := 824) (by decide +kernel), rfl⟩)
theorem tw_825 : (Jvm.Cond.selects "DelayMachineModel" ({ cls := "DelayMachineModel", name := "variable", desc := "(I)I" } : Jvm.MethodName) ({ cls := "DelayMachineModel", name := "variable", desc := "(I)I" } : Jvm.MethodName)) ∈ lw_g := List.mem_append_right _ (List.mem_filter.mpr ⟨List.mem_of_getElem? (i := 825) (by decide +kernel), rfl⟩)
theorem tw_826 : (Jvm.Cond.code ({ cls := "DelayMachineModel", name := "variable", desc := "(I)I" } : Jvm.MethodName) prog_11_method_39_code (2 : Nat) (Option.some Jvm.ClassFile.FieldType.int)) ∈ lw_g := List.mem_append_right _ (List.mem_filter.mpr ⟨List.mem_of_getElem? (i := 826) (by decide +kernel), rfl⟩)
theorem tn_28 : (Jvm.Cond.fieldLinkNest "DelayMachine" (61 : Nat) "DelayMachine$Store" "orders" "[I" "DelayMachine") ∈ lw_nst := List.mem_of_getElem? (i := 0) rfl
theorem tn_29 : (Jvm.Cond.fieldLinkNest "DelayMachine$Machine" (96 : Nat) "DelayMachine$Store" "orders" "[I" "DelayMachine") ∈ lw_nst := List.mem_of_getElem? (i := 1) rfl
theorem tn_31 : (Jvm.Cond.fieldLinkNest "DelayMachine" (68 : Nat) "DelayMachine$Store" "words" "[S" "DelayMachine") ∈ lw_nst := List.mem_of_getElem? (i := 2) rfl
theorem tn_32 : (Jvm.Cond.fieldLinkNest "DelayMachine$Multiplier" (31 : Nat) "DelayMachine$Store" "words" "[S" "DelayMachine") ∈ lw_nst := List.mem_of_getElem? (i := 3) rfl
theorem tn_33 : (Jvm.Cond.fieldLinkNest "DelayMachine$Machine" (127 : Nat) "DelayMachine$Store" "words" "[S" "DelayMachine") ∈ lw_nst := List.mem_of_getElem? (i := 4) rfl
theorem tn_73 : (Jvm.Cond.fieldLinkNest "DelayMachine" (119 : Nat) "DelayMachine$Punch" "rows" "[S" "DelayMachine") ∈ lw_nst := List.mem_of_getElem? (i := 5) rfl
theorem tn_75 : (Jvm.Cond.fieldLinkNest "DelayMachine" (107 : Nat) "DelayMachine$Punch" "count" "I" "DelayMachine") ∈ lw_nst := List.mem_of_getElem? (i := 6) rfl
theorem tn_92 : (Jvm.Cond.methodLinkNest "DelayMachine$Machine" (25 : Nat) ({ cls := "DelayMachine$Multiplier", name := "<init>", desc := "()V" } : Jvm.MethodName) "DelayMachine") ∈ lw_nst := List.mem_of_getElem? (i := 7) rfl
theorem tn_98 : (Jvm.Cond.fieldLinkNest "DelayMachine" (114 : Nat) "DelayMachine$Multiplier" "left" "I" "DelayMachine") ∈ lw_nst := List.mem_of_getElem? (i := 8) rfl
theorem tn_109 : (Jvm.Cond.methodLinkNest "DelayMachine$Machine" (32 : Nat) ({ cls := "DelayMachine$Window", name := "<init>", desc := "()V" } : Jvm.MethodName) "DelayMachine") ∈ lw_nst := List.mem_of_getElem? (i := 9) rfl
theorem tn_114 : (Jvm.Cond.fieldLinkNest "DelayMachine$Machine" (109 : Nat) "DelayMachine$Window" "source" "I" "DelayMachine") ∈ lw_nst := List.mem_of_getElem? (i := 10) rfl
theorem tn_116 : (Jvm.Cond.fieldLinkNest "DelayMachine$Machine" (116 : Nat) "DelayMachine$Window" "destination" "I" "DelayMachine") ∈ lw_nst := List.mem_of_getElem? (i := 11) rfl
theorem tn_120 : (Jvm.Cond.fieldLinkNest "DelayMachine$Machine" (106 : Nat) "DelayMachine$Window" "leave" "I" "DelayMachine") ∈ lw_nst := List.mem_of_getElem? (i := 12) rfl
theorem tn_136 : (Jvm.Cond.fieldLinkNest "DelayMachine" (110 : Nat) "DelayMachine$Machine" "multiplier" "LDelayMachine$Multiplier;" "DelayMachine") ∈ lw_nst := List.mem_of_getElem? (i := 13) rfl
theorem tn_140 : (Jvm.Cond.fieldLinkNest "DelayMachine" (80 : Nat) "DelayMachine$Machine" "going" "Z" "DelayMachine") ∈ lw_nst := List.mem_of_getElem? (i := 14) rfl
theorem tn_142 : (Jvm.Cond.fieldLinkNest "DelayMachine" (87 : Nat) "DelayMachine$Machine" "fault" "I" "DelayMachine") ∈ lw_nst := List.mem_of_getElem? (i := 15) rfl
theorem tn_144 : (Jvm.Cond.fieldLinkNest "DelayMachine" (91 : Nat) "DelayMachine$Machine" "now" "I" "DelayMachine") ∈ lw_nst := List.mem_of_getElem? (i := 16) rfl
theorem tn_148 : (Jvm.Cond.fieldLinkNest "DelayMachine" (94 : Nat) "DelayMachine$Machine" "latestLine" "I" "DelayMachine") ∈ lw_nst := List.mem_of_getElem? (i := 17) rfl
theorem tn_150 : (Jvm.Cond.fieldLinkNest "DelayMachine" (97 : Nat) "DelayMachine$Machine" "latestPlace" "I" "DelayMachine") ∈ lw_nst := List.mem_of_getElem? (i := 18) rfl
theorem tn_152 : (Jvm.Cond.fieldLinkNest "DelayMachine" (100 : Nat) "DelayMachine$Machine" "ordersTaken" "I" "DelayMachine") ∈ lw_nst := List.mem_of_getElem? (i := 19) rfl
theorem tn_189 : (Jvm.Cond.fieldLinkNest "DelayMachine$Placing" (81 : Nat) "DelayMachine$Program" "operations" "[I" "DelayMachine") ∈ lw_nst := List.mem_of_getElem? (i := 20) rfl
theorem tn_191 : (Jvm.Cond.fieldLinkNest "DelayMachine$Placing" (75 : Nat) "DelayMachine$Program" "as" "[I" "DelayMachine") ∈ lw_nst := List.mem_of_getElem? (i := 21) rfl
theorem tn_193 : (Jvm.Cond.fieldLinkNest "DelayMachine$Placing" (88 : Nat) "DelayMachine$Program" "bs" "[I" "DelayMachine") ∈ lw_nst := List.mem_of_getElem? (i := 22) rfl
theorem tn_195 : (Jvm.Cond.fieldLinkNest "DelayMachine$Placing" (78 : Nat) "DelayMachine$Program" "cs" "[I" "DelayMachine") ∈ lw_nst := List.mem_of_getElem? (i := 23) rfl
theorem tn_197 : (Jvm.Cond.fieldLinkNest "DelayMachine$Placing" (114 : Nat) "DelayMachine$Program" "gotos" "[I" "DelayMachine") ∈ lw_nst := List.mem_of_getElem? (i := 24) rfl
theorem tn_198 : (Jvm.Cond.fieldLinkNest "DelayMachine$Placing" (36 : Nat) "DelayMachine$Program" "count" "I" "DelayMachine") ∈ lw_nst := List.mem_of_getElem? (i := 25) rfl
theorem tn_200 : (Jvm.Cond.fieldLinkNest "DelayMachine" (126 : Nat) "DelayMachine$Program" "count" "I" "DelayMachine") ∈ lw_nst := List.mem_of_getElem? (i := 26) rfl
theorem tn_224 : (Jvm.Cond.fieldLinkNest "DelayMachine" (135 : Nat) "DelayMachine$Placing" "orders" "[I" "DelayMachine") ∈ lw_nst := List.mem_of_getElem? (i := 27) rfl
theorem tn_227 : (Jvm.Cond.fieldLinkNest "DelayMachine" (150 : Nat) "DelayMachine$Placing" "variables" "[I" "DelayMachine") ∈ lw_nst := List.mem_of_getElem? (i := 28) rfl
theorem tn_229 : (Jvm.Cond.fieldLinkNest "DelayMachine" (143 : Nat) "DelayMachine$Placing" "firsts" "[I" "DelayMachine") ∈ lw_nst := List.mem_of_getElem? (i := 29) rfl
theorem tn_234 : (Jvm.Cond.fieldLinkNest "DelayMachine" (142 : Nat) "DelayMachine$Placing" "count" "I" "DelayMachine") ∈ lw_nst := List.mem_of_getElem? (i := 30) rfl
theorem ts_0 : Cond.selects "DelayMachine$Machine" ⟨"DelayMachine$Machine", "takeOrder", "()V"⟩ ⟨"DelayMachine$Machine", "takeOrder", "()V"⟩ ∈ lw_g := List.mem_append_left _ (List.mem_of_getElem? (i := 0) (by decide +kernel))
theorem ts_1 : Cond.selects "DelayMachine$Window" ⟨"DelayMachine$Window", "lastOf", "(I)I"⟩ ⟨"DelayMachine$Window", "lastOf", "(I)I"⟩ ∈ lw_g := List.mem_append_left _ (List.mem_of_getElem? (i := 1) (by decide +kernel))
theorem ts_2 : Cond.selects "DelayMachine$Machine" ⟨"DelayMachine$Machine", "move", "(LDelayMachine$Window;)V"⟩ ⟨"DelayMachine$Machine", "move", "(LDelayMachine$Window;)V"⟩ ∈ lw_g := List.mem_append_left _ (List.mem_of_getElem? (i := 2) (by decide +kernel))
theorem ts_3 : Cond.selects "DelayMachine$Machine" ⟨"DelayMachine$Machine", "sourceWord", "(I)S"⟩ ⟨"DelayMachine$Machine", "sourceWord", "(I)S"⟩ ∈ lw_g := List.mem_append_left _ (List.mem_of_getElem? (i := 3) (by decide +kernel))
theorem ts_4 : Cond.selects "DelayMachine$Reader" ⟨"DelayMachine$Reader", "offset", "(I)I"⟩ ⟨"DelayMachine$Reader", "offset", "(I)I"⟩ ∈ lw_g := List.mem_append_left _ (List.mem_of_getElem? (i := 4) (by decide +kernel))
theorem ts_5 : Cond.selects "DelayMachine$Machine" ⟨"DelayMachine$Machine", "discriminate", "(LDelayMachine$Window;Z)V"⟩ ⟨"DelayMachine$Machine", "discriminate", "(LDelayMachine$Window;Z)V"⟩ ∈ lw_g := List.mem_append_left _ (List.mem_of_getElem? (i := 5) (by decide +kernel))
theorem ts_6 : Cond.selects "DelayMachine$Machine" ⟨"DelayMachine$Machine", "deliver", "(SI)V"⟩ ⟨"DelayMachine$Machine", "deliver", "(SI)V"⟩ ∈ lw_g := List.mem_append_left _ (List.mem_of_getElem? (i := 6) (by decide +kernel))
theorem ts_7 : Cond.selects "DelayMachine$Machine" ⟨"DelayMachine$Machine", "stopBy", "(I)V"⟩ ⟨"DelayMachine$Machine", "stopBy", "(I)V"⟩ ∈ lw_g := List.mem_append_left _ (List.mem_of_getElem? (i := 7) (by decide +kernel))
theorem ts_8 : Cond.selects "DelayMachine$Placing" ⟨"DelayMachine$Placing", "forget", "()V"⟩ ⟨"DelayMachine$Placing", "forget", "()V"⟩ ∈ lw_g := List.mem_append_left _ (List.mem_of_getElem? (i := 8) (by decide +kernel))
theorem ts_9 : Cond.selects "DelayMachine$Placing" ⟨"DelayMachine$Placing", "freeSpot", "()I"⟩ ⟨"DelayMachine$Placing", "freeSpot", "()I"⟩ ∈ lw_g := List.mem_append_left _ (List.mem_of_getElem? (i := 9) (by decide +kernel))
theorem ts_10 : Cond.selects "DelayMachine$Placing" ⟨"DelayMachine$Placing", "isFree", "(II)Z"⟩ ⟨"DelayMachine$Placing", "isFree", "(II)Z"⟩ ∈ lw_g := List.mem_append_left _ (List.mem_of_getElem? (i := 10) (by decide +kernel))
theorem ts_11 : Cond.selects "DelayMachine$Placing" ⟨"DelayMachine$Placing", "placeStatement", "(LDelayMachine$Program;I)V"⟩ ⟨"DelayMachine$Placing", "placeStatement", "(LDelayMachine$Program;I)V"⟩ ∈ lw_g := List.mem_append_left _ (List.mem_of_getElem? (i := 11) (by decide +kernel))
theorem ts_12 : Cond.selects "DelayMachine$Placing" ⟨"DelayMachine$Placing", "placeOrder", "(III)V"⟩ ⟨"DelayMachine$Placing", "placeOrder", "(III)V"⟩ ∈ lw_g := List.mem_append_left _ (List.mem_of_getElem? (i := 12) (by decide +kernel))
theorem ts_13 : Cond.selects "DelayMachine$Placing" ⟨"DelayMachine$Placing", "variablePlace", "(II)I"⟩ ⟨"DelayMachine$Placing", "variablePlace", "(II)I"⟩ ∈ lw_g := List.mem_append_left _ (List.mem_of_getElem? (i := 13) (by decide +kernel))
theorem ts_14 : Cond.selects "DelayMachine$Placing" ⟨"DelayMachine$Placing", "occupy", "(II)V"⟩ ⟨"DelayMachine$Placing", "occupy", "(II)V"⟩ ∈ lw_g := List.mem_append_left _ (List.mem_of_getElem? (i := 14) (by decide +kernel))
theorem ts_15 : Cond.selects "DelayMachine$Placing" ⟨"DelayMachine$Placing", "lead", "(II)V"⟩ ⟨"DelayMachine$Placing", "lead", "(II)V"⟩ ∈ lw_g := List.mem_append_left _ (List.mem_of_getElem? (i := 15) (by decide +kernel))
theorem ts_16 : Cond.selects "DelayMachine$Placing" ⟨"DelayMachine$Placing", "placeFork", "(I)V"⟩ ⟨"DelayMachine$Placing", "placeFork", "(I)V"⟩ ∈ lw_g := List.mem_append_left _ (List.mem_of_getElem? (i := 16) (by decide +kernel))
theorem ts_17 : Cond.selects "DelayMachine$Placing" ⟨"DelayMachine$Placing", "forkSpot", "()I"⟩ ⟨"DelayMachine$Placing", "forkSpot", "()I"⟩ ∈ lw_g := List.mem_append_left _ (List.mem_of_getElem? (i := 17) (by decide +kernel))
theorem ts_18 : Cond.selects "DelayMachine$Placing" ⟨"DelayMachine$Placing", "placeStop", "()V"⟩ ⟨"DelayMachine$Placing", "placeStop", "()V"⟩ ∈ lw_g := List.mem_append_left _ (List.mem_of_getElem? (i := 18) (by decide +kernel))
theorem ts_19 : Cond.selects "DelayMachine$Placing" ⟨"DelayMachine$Placing", "leadBranches", "(LDelayMachine$Program;)V"⟩ ⟨"DelayMachine$Placing", "leadBranches", "(LDelayMachine$Program;)V"⟩ ∈ lw_g := List.mem_append_left _ (List.mem_of_getElem? (i := 19) (by decide +kernel))
theorem ts_20 : Cond.selects "DelayMachine$Placing" ⟨"DelayMachine$Placing", "fillWithStops", "()V"⟩ ⟨"DelayMachine$Placing", "fillWithStops", "()V"⟩ ∈ lw_g := List.mem_append_left _ (List.mem_of_getElem? (i := 20) (by decide +kernel))
theorem ts_21 : Cond.selects "DelayMachineModel" ⟨"DelayMachineModel", "cycle", "()V"⟩ ⟨"DelayMachineModel", "cycle", "()V"⟩ ∈ lw_g := List.mem_append_left _ (List.mem_of_getElem? (i := 21) (by decide +kernel))
theorem ts_22 : Cond.selects "DelayMachineModel" ⟨"DelayMachineModel", "read", "()V"⟩ ⟨"DelayMachineModel", "read", "()V"⟩ ∈ lw_g := List.mem_append_left _ (List.mem_of_getElem? (i := 22) (by decide +kernel))
theorem ts_23 : Cond.selects "DelayMachineModel" ⟨"DelayMachineModel", "row", "()I"⟩ ⟨"DelayMachineModel", "row", "()I"⟩ ∈ lw_g := List.mem_append_left _ (List.mem_of_getElem? (i := 23) (by decide +kernel))
theorem ts_24 : Cond.selects "DelayMachineModel" ⟨"DelayMachineModel", "current", "()I"⟩ ⟨"DelayMachineModel", "current", "()I"⟩ ∈ lw_g := List.mem_append_left _ (List.mem_of_getElem? (i := 24) (by decide +kernel))
theorem ts_25 : Cond.selects "DelayMachineModel" ⟨"DelayMachineModel", "get", "(I)S"⟩ ⟨"DelayMachineModel", "get", "(I)S"⟩ ∈ lw_g := List.mem_append_left _ (List.mem_of_getElem? (i := 25) (by decide +kernel))
theorem ts_26 : Cond.selects "DelayMachineModel" ⟨"DelayMachineModel", "put", "(IS)V"⟩ ⟨"DelayMachineModel", "put", "(IS)V"⟩ ∈ lw_g := List.mem_append_left _ (List.mem_of_getElem? (i := 26) (by decide +kernel))
theorem ts_27 : Cond.selects "DelayMachineModel" ⟨"DelayMachineModel", "discriminate", "(Z)V"⟩ ⟨"DelayMachineModel", "discriminate", "(Z)V"⟩ ∈ lw_g := List.mem_append_left _ (List.mem_of_getElem? (i := 27) (by decide +kernel))
theorem ts_28 : Cond.selects "DelayMachineModel" ⟨"DelayMachineModel", "feed", "()V"⟩ ⟨"DelayMachineModel", "feed", "()V"⟩ ∈ lw_g := List.mem_append_left _ (List.mem_of_getElem? (i := 28) (by decide +kernel))
theorem ts_29 : Cond.selects "DelayMachineModel" ⟨"DelayMachineModel", "fail", "(I)V"⟩ ⟨"DelayMachineModel", "fail", "(I)V"⟩ ∈ lw_g := List.mem_append_left _ (List.mem_of_getElem? (i := 29) (by decide +kernel))
theorem ts_30 : Cond.selects "DelayMachineModel" ⟨"DelayMachineModel", "press", "(S)V"⟩ ⟨"DelayMachineModel", "press", "(S)V"⟩ ∈ lw_g := List.mem_append_left _ (List.mem_of_getElem? (i := 30) (by decide +kernel))
theorem ts_31 : Cond.selects "DelayMachineModel" ⟨"DelayMachineModel", "multiply", "()V"⟩ ⟨"DelayMachineModel", "multiply", "()V"⟩ ∈ lw_g := List.mem_append_left _ (List.mem_of_getElem? (i := 31) (by decide +kernel))
theorem ts_32 : Cond.selects "DelayMachineModel" ⟨"DelayMachineModel", "listAll", "()V"⟩ ⟨"DelayMachineModel", "listAll", "()V"⟩ ∈ lw_g := List.mem_append_left _ (List.mem_of_getElem? (i := 32) (by decide +kernel))
theorem ts_33 : Cond.selects "DelayMachineModel" ⟨"DelayMachineModel", "list", "(IIII)V"⟩ ⟨"DelayMachineModel", "list", "(IIII)V"⟩ ∈ lw_g := List.mem_append_left _ (List.mem_of_getElem? (i := 33) (by decide +kernel))
theorem ts_34 : Cond.selects "DelayMachineModel" ⟨"DelayMachineModel", "place", "()Z"⟩ ⟨"DelayMachineModel", "place", "()Z"⟩ ∈ lw_g := List.mem_append_left _ (List.mem_of_getElem? (i := 34) (by decide +kernel))
theorem ts_35 : Cond.selects "DelayMachineModel" ⟨"DelayMachineModel", "free", "(IZ)I"⟩ ⟨"DelayMachineModel", "free", "(IZ)I"⟩ ∈ lw_g := List.mem_append_left _ (List.mem_of_getElem? (i := 35) (by decide +kernel))
theorem ts_36 : Cond.selects "DelayMachineModel" ⟨"DelayMachineModel", "variableFrom", "(II)I"⟩ ⟨"DelayMachineModel", "variableFrom", "(II)I"⟩ ∈ lw_g := List.mem_append_left _ (List.mem_of_getElem? (i := 36) (by decide +kernel))
theorem ts_37 : Cond.selects "DelayMachineModel" ⟨"DelayMachineModel", "write", "(I)V"⟩ ⟨"DelayMachineModel", "write", "(I)V"⟩ ∈ lw_g := List.mem_append_left _ (List.mem_of_getElem? (i := 37) (by decide +kernel))
theorem ts_38 : Cond.selects "DelayMachineModel" ⟨"DelayMachineModel", "isSecond", "(I)Z"⟩ ⟨"DelayMachineModel", "isSecond", "(I)Z"⟩ ∈ lw_g := List.mem_append_left _ (List.mem_of_getElem? (i := 38) (by decide +kernel))
theorem ts_39 : Cond.selects "DelayMachineModel" ⟨"DelayMachineModel", "firstOf", "(I)I"⟩ ⟨"DelayMachineModel", "firstOf", "(I)I"⟩ ∈ lw_g := List.mem_append_left _ (List.mem_of_getElem? (i := 39) (by decide +kernel))
def gNst (U : State) : Prop := ∀ w ∈ lw_nst, va_Nw w U
theorem lw_nstO {w : Cond} (h : w ∈ lw_nst) : w.onTables = true := by
  rcases lw_nstK w h with ⟨a, i, b, n, d, x, rfl⟩ | ⟨a, i, x, y, rfl⟩ <;> rfl
theorem gNst.same {u U : State} (e : u.vm = U.vm) (h : gNst u) : gNst U := fun w hw => va_Nw.same (lw_nstO hw) e (h w hw)
theorem gNst.warm {s U : State} (hW : s.WarmedH U.vm) (h : gNst s) : gNst U := by
  intro w hw
  have z := h w hw
  rcases lw_nstK w hw with ⟨a, i, b, n, d, x, rfl⟩ | ⟨a, i, x, y, rfl⟩
  · exact va_Nw.warmF hW z
  · exact va_Nw.warmM hW z
end
section
theorem in_places {big ws : List Cond} (ps : List Nat) (hp : ws = ps.filterMap (fun i => big[i]?)) : ∀ w ∈ ws, w ∈ big := by
  intro w hw
  rw [hp] at hw
  obtain ⟨i, -, hi⟩ := List.mem_filterMap.mp hw
  first | exact List.mem_of_getElem? hi | exact List.getElem?_mem hi
def R_Dm : String := "DelayMachine"
def T_Dm : u_T := fun k => match k with
  | 0 => ("DelayMachine", "store", "LDelayMachine$Store;", true)
  | 1 => ("DelayMachine", "reader", "LDelayMachine$Reader;", true)
  | 2 => ("DelayMachine", "punch", "LDelayMachine$Punch;", true)
  | 3 => ("DelayMachine", "machine", "LDelayMachine$Machine;", true)
  | 4 => ("DelayMachine", "program", "LDelayMachine$Program;", true)
  | 5 => ("DelayMachine", "kept", "LDelayMachine$Placing;", false)
  | _ => ("DelayMachine", "trial", "LDelayMachine$Placing;", false)
def t_Dm : Nat → FieldType := fun k => match k with
  | 0 => .object "DelayMachine$Store"
  | 1 => .object "DelayMachine$Reader"
  | 2 => .object "DelayMachine$Punch"
  | 3 => .object "DelayMachine$Machine"
  | 4 => .object "DelayMachine$Program"
  | 5 => .object "DelayMachine$Placing"
  | _ => .object "DelayMachine$Placing"
theorem n_Dm : ∀ a, a < 7 → ∀ b, b < 7 → a ≠ b → (T_Dm a).2.1 ≠ (T_Dm b).2.1 := by decide +kernel
theorem o_Dm : ∀ k, k < 7 → parseFieldDescriptor (T_Dm k).2.2.1 = some (t_Dm k) := by decide +kernel
theorem i_Dm : ∀ w ∈ u_ws R_Dm T_Dm 7, w ∈ lw_g := fun w h => List.mem_append_right _ (List.mem_filter.mpr ⟨in_places [262, 264, 266, 268, 270, 272, 274] (by decide +kernel) w h, List.all_eq_true.mp (show (u_ws R_Dm T_Dm 7).all goodWord = true by decide +kernel) w h⟩)
def R_St : String := "DelayMachine$Store"
def T_St : u_T := fun k => match k with
  | 0 => ("DelayMachine$Store", "orders", "[I", true)
  | _ => ("DelayMachine$Store", "words", "[S", true)
def t_St : Nat → FieldType := fun k => match k with
  | 0 => .array .int
  | _ => .array .short
theorem n_St : ∀ a, a < 2 → ∀ b, b < 2 → a ≠ b → (T_St a).2.1 ≠ (T_St b).2.1 := by decide +kernel
theorem o_St : ∀ k, k < 2 → parseFieldDescriptor (T_St k).2.2.1 = some (t_St k) := by decide +kernel
theorem i_St : ∀ w ∈ u_ws R_St T_St 2, w ∈ lw_g := fun w h => List.mem_append_right _ (List.mem_filter.mpr ⟨in_places [34, 36] (by decide +kernel) w h, List.all_eq_true.mp (show (u_ws R_St T_St 2).all goodWord = true by decide +kernel) w h⟩)
def R_Rd : String := "DelayMachine$Reader"
def T_Rd : u_T := fun k => match k with
  | 0 => ("DelayMachine$Reader", "deck", "[S", true)
  | 1 => ("DelayMachine$Reader", "came", "I", false)
  | 2 => ("DelayMachine$Reader", "taken", "I", false)
  | 3 => ("DelayMachine$Reader", "cardPasses", "Z", false)
  | 4 => ("DelayMachine$Reader", "fedAt", "I", false)
  | _ => ("DelayMachine$Reader", "rowMoved", "Z", false)
def t_Rd : Nat → FieldType := fun k => match k with
  | 0 => .array .short
  | 1 => .int
  | 2 => .int
  | 3 => .boolean
  | 4 => .int
  | _ => .boolean
theorem n_Rd : ∀ a, a < 6 → ∀ b, b < 6 → a ≠ b → (T_Rd a).2.1 ≠ (T_Rd b).2.1 := by decide +kernel
theorem o_Rd : ∀ k, k < 6 → parseFieldDescriptor (T_Rd k).2.2.1 = some (t_Rd k) := by decide +kernel
theorem i_Rd : ∀ w ∈ u_ws R_Rd T_Rd 6, w ∈ lw_g := fun w h => List.mem_append_right _ (List.mem_filter.mpr ⟨in_places [53, 55, 57, 59, 61, 63] (by decide +kernel) w h, List.all_eq_true.mp (show (u_ws R_Rd T_Rd 6).all goodWord = true by decide +kernel) w h⟩)
def R_Pu : String := "DelayMachine$Punch"
def T_Pu : u_T := fun k => match k with
  | 0 => ("DelayMachine$Punch", "rows", "[S", true)
  | 1 => ("DelayMachine$Punch", "count", "I", false)
  | _ => ("DelayMachine$Punch", "lastCycle", "I", false)
def t_Pu : Nat → FieldType := fun k => match k with
  | 0 => .array .short
  | 1 => .int
  | _ => .int
theorem n_Pu : ∀ a, a < 3 → ∀ b, b < 3 → a ≠ b → (T_Pu a).2.1 ≠ (T_Pu b).2.1 := by decide +kernel
theorem o_Pu : ∀ k, k < 3 → parseFieldDescriptor (T_Pu k).2.2.1 = some (t_Pu k) := by decide +kernel
theorem i_Pu : ∀ w ∈ u_ws R_Pu T_Pu 3, w ∈ lw_g := fun w h => List.mem_append_right _ (List.mem_filter.mpr ⟨in_places [77, 79, 81] (by decide +kernel) w h, List.all_eq_true.mp (show (u_ws R_Pu T_Pu 3).all goodWord = true by decide +kernel) w h⟩)
def R_Mc : String := "DelayMachine$Machine"
def T_Mc : u_T := fun k => match k with
  | 0 => ("DelayMachine$Machine", "store", "LDelayMachine$Store;", true)
  | 1 => ("DelayMachine$Machine", "reader", "LDelayMachine$Reader;", true)
  | 2 => ("DelayMachine$Machine", "punch", "LDelayMachine$Punch;", true)
  | 3 => ("DelayMachine$Machine", "multiplier", "LDelayMachine$Multiplier;", true)
  | 4 => ("DelayMachine$Machine", "current", "LDelayMachine$Window;", false)
  | 5 => ("DelayMachine$Machine", "before", "LDelayMachine$Window;", false)
  | 6 => ("DelayMachine$Machine", "going", "Z", false)
  | 7 => ("DelayMachine$Machine", "fault", "I", false)
  | 8 => ("DelayMachine$Machine", "now", "I", false)
  | 9 => ("DelayMachine$Machine", "nextLine", "I", false)
  | 10 => ("DelayMachine$Machine", "nextCycle", "I", false)
  | 11 => ("DelayMachine$Machine", "latestLine", "I", false)
  | 12 => ("DelayMachine$Machine", "latestPlace", "I", false)
  | _ => ("DelayMachine$Machine", "ordersTaken", "I", false)
def t_Mc : Nat → FieldType := fun k => match k with
  | 0 => .object "DelayMachine$Store"
  | 1 => .object "DelayMachine$Reader"
  | 2 => .object "DelayMachine$Punch"
  | 3 => .object "DelayMachine$Multiplier"
  | 4 => .object "DelayMachine$Window"
  | 5 => .object "DelayMachine$Window"
  | 6 => .boolean
  | 7 => .int
  | 8 => .int
  | 9 => .int
  | 10 => .int
  | 11 => .int
  | 12 => .int
  | _ => .int
theorem n_Mc : ∀ a, a < 14 → ∀ b, b < 14 → a ≠ b → (T_Mc a).2.1 ≠ (T_Mc b).2.1 := by decide +kernel
theorem o_Mc : ∀ k, k < 14 → parseFieldDescriptor (T_Mc k).2.2.1 = some (t_Mc k) := by decide +kernel
theorem i_Mc : ∀ w ∈ u_ws R_Mc T_Mc 14, w ∈ lw_g := fun w h => List.mem_append_right _ (List.mem_filter.mpr ⟨in_places [153, 155, 157, 159, 161, 163, 165, 167, 169, 171, 173, 175, 177, 179] (by decide +kernel) w h, List.all_eq_true.mp (show (u_ws R_Mc T_Mc 14).all goodWord = true by decide +kernel) w h⟩)
def R_Mu : String := "DelayMachine$Multiplier"
def T_Mu : u_T := fun k => match k with
  | 0 => ("DelayMachine$Multiplier", "factor", "I", false)
  | 1 => ("DelayMachine$Multiplier", "left", "I", false)
  | _ => ("DelayMachine$Multiplier", "fresh", "Z", false)
def t_Mu : Nat → FieldType := fun k => match k with
  | 0 => .int
  | 1 => .int
  | _ => .boolean
theorem n_Mu : ∀ a, a < 3 → ∀ b, b < 3 → a ≠ b → (T_Mu a).2.1 ≠ (T_Mu b).2.1 := by decide +kernel
theorem o_Mu : ∀ k, k < 3 → parseFieldDescriptor (T_Mu k).2.2.1 = some (t_Mu k) := by decide +kernel
theorem i_Mu : ∀ w ∈ u_ws R_Mu T_Mu 3, w ∈ lw_g := fun w h => List.mem_append_right _ (List.mem_filter.mpr ⟨in_places [100, 102, 104] (by decide +kernel) w h, List.all_eq_true.mp (show (u_ws R_Mu T_Mu 3).all goodWord = true by decide +kernel) w h⟩)
def R_Wi : String := "DelayMachine$Window"
def T_Wi : u_T := fun k => match k with
  | 0 => ("DelayMachine$Window", "source", "I", false)
  | 1 => ("DelayMachine$Window", "destination", "I", false)
  | 2 => ("DelayMachine$Window", "first", "I", false)
  | 3 => ("DelayMachine$Window", "last", "I", false)
  | _ => ("DelayMachine$Window", "leave", "I", false)
def t_Wi : Nat → FieldType := fun k => match k with
  | 0 => .int
  | 1 => .int
  | 2 => .int
  | 3 => .int
  | _ => .int
theorem n_Wi : ∀ a, a < 5 → ∀ b, b < 5 → a ≠ b → (T_Wi a).2.1 ≠ (T_Wi b).2.1 := by decide +kernel
theorem o_Wi : ∀ k, k < 5 → parseFieldDescriptor (T_Wi k).2.2.1 = some (t_Wi k) := by decide +kernel
theorem i_Wi : ∀ w ∈ u_ws R_Wi T_Wi 5, w ∈ lw_g := fun w h => List.mem_append_right _ (List.mem_filter.mpr ⟨in_places [121, 123, 125, 127, 129] (by decide +kernel) w h, List.all_eq_true.mp (show (u_ws R_Wi T_Wi 5).all goodWord = true by decide +kernel) w h⟩)
def R_Pr : String := "DelayMachine$Program"
def T_Pr : u_T := fun k => match k with
  | 0 => ("DelayMachine$Program", "operations", "[I", true)
  | 1 => ("DelayMachine$Program", "as", "[I", true)
  | 2 => ("DelayMachine$Program", "bs", "[I", true)
  | 3 => ("DelayMachine$Program", "cs", "[I", true)
  | 4 => ("DelayMachine$Program", "gotos", "[I", true)
  | _ => ("DelayMachine$Program", "count", "I", false)
def t_Pr : Nat → FieldType := fun k => match k with
  | 0 => .array .int
  | 1 => .array .int
  | 2 => .array .int
  | 3 => .array .int
  | 4 => .array .int
  | _ => .int
theorem n_Pr : ∀ a, a < 6 → ∀ b, b < 6 → a ≠ b → (T_Pr a).2.1 ≠ (T_Pr b).2.1 := by decide +kernel
theorem o_Pr : ∀ k, k < 6 → parseFieldDescriptor (T_Pr k).2.2.1 = some (t_Pr k) := by decide +kernel
theorem i_Pr : ∀ w ∈ u_ws R_Pr T_Pr 6, w ∈ lw_g := fun w h => List.mem_append_right _ (List.mem_filter.mpr ⟨in_places [201, 203, 205, 207, 209, 211] (by decide +kernel) w h, List.all_eq_true.mp (show (u_ws R_Pr T_Pr 6).all goodWord = true by decide +kernel) w h⟩)
def R_Pl : String := "DelayMachine$Placing"
def T_Pl : u_T := fun k => match k with
  | 0 => ("DelayMachine$Placing", "orders", "[I", true)
  | 1 => ("DelayMachine$Placing", "holders", "[I", true)
  | 2 => ("DelayMachine$Placing", "variables", "[I", true)
  | 3 => ("DelayMachine$Placing", "firsts", "[I", true)
  | 4 => ("DelayMachine$Placing", "branches", "[I", true)
  | 5 => ("DelayMachine$Placing", "from", "I", false)
  | 6 => ("DelayMachine$Placing", "leader", "I", false)
  | 7 => ("DelayMachine$Placing", "count", "I", false)
  | _ => ("DelayMachine$Placing", "fits", "Z", false)
def t_Pl : Nat → FieldType := fun k => match k with
  | 0 => .array .int
  | 1 => .array .int
  | 2 => .array .int
  | 3 => .array .int
  | 4 => .array .int
  | 5 => .int
  | 6 => .int
  | 7 => .int
  | _ => .boolean
theorem n_Pl : ∀ a, a < 9 → ∀ b, b < 9 → a ≠ b → (T_Pl a).2.1 ≠ (T_Pl b).2.1 := by decide +kernel
theorem o_Pl : ∀ k, k < 9 → parseFieldDescriptor (T_Pl k).2.2.1 = some (t_Pl k) := by decide +kernel
theorem i_Pl : ∀ w ∈ u_ws R_Pl T_Pl 9, w ∈ lw_g := fun w h => List.mem_append_right _ (List.mem_filter.mpr ⟨in_places [236, 238, 240, 242, 244, 246, 248, 250, 252] (by decide +kernel) w h, List.all_eq_true.mp (show (u_ws R_Pl T_Pl 9).all goodWord = true by decide +kernel) w h⟩)
def R_Md : String := "DelayMachineModel"
def T_Md : u_T := fun k => match k with
  | 0 => ("DelayMachineModel", "orders", "[I", true)
  | 1 => ("DelayMachineModel", "words", "[S", true)
  | 2 => ("DelayMachineModel", "now", "I", false)
  | 3 => ("DelayMachineModel", "going", "Z", false)
  | 4 => ("DelayMachineModel", "fault", "I", false)
  | 5 => ("DelayMachineModel", "due", "I", false)
  | 6 => ("DelayMachineModel", "dueLine", "I", false)
  | 7 => ("DelayMachineModel", "line", "I", false)
  | 8 => ("DelayMachineModel", "place", "I", false)
  | 9 => ("DelayMachineModel", "count", "I", false)
  | 10 => ("DelayMachineModel", "order", "I", false)
  | 11 => ("DelayMachineModel", "opens", "I", false)
  | 12 => ("DelayMachineModel", "closes", "I", false)
  | 13 => ("DelayMachineModel", "lastOrder", "I", false)
  | 14 => ("DelayMachineModel", "lastOpens", "I", false)
  | 15 => ("DelayMachineModel", "lastCloses", "I", false)
  | 16 => ("DelayMachineModel", "turned", "Z", false)
  | 17 => ("DelayMachineModel", "work", "I", false)
  | 18 => ("DelayMachineModel", "factor", "I", false)
  | 19 => ("DelayMachineModel", "cards", "I", false)
  | 20 => ("DelayMachineModel", "came", "I", false)
  | 21 => ("DelayMachineModel", "deck", "[S", true)
  | 22 => ("DelayMachineModel", "card", "[S", true)
  | 23 => ("DelayMachineModel", "fed", "I", false)
  | 24 => ("DelayMachineModel", "moved", "Z", false)
  | 25 => ("DelayMachineModel", "punches", "I", false)
  | 26 => ("DelayMachineModel", "punch", "[S", true)
  | 27 => ("DelayMachineModel", "punchedAt", "I", false)
  | 28 => ("DelayMachineModel", "statements", "I", false)
  | 29 => ("DelayMachineModel", "operation", "[I", true)
  | 30 => ("DelayMachineModel", "first", "[I", true)
  | 31 => ("DelayMachineModel", "second", "[I", true)
  | 32 => ("DelayMachineModel", "third", "[I", true)
  | 33 => ("DelayMachineModel", "goTo", "[I", true)
  | 34 => ("DelayMachineModel", "listed", "I", false)
  | 35 => ("DelayMachineModel", "source", "[I", true)
  | 36 => ("DelayMachineModel", "goal", "[I", true)
  | 37 => ("DelayMachineModel", "operand", "[I", true)
  | 38 => ("DelayMachineModel", "owner", "[I", true)
  | 39 => ("DelayMachineModel", "spot", "[I", true)
  | 40 => ("DelayMachineModel", "waits", "[I", true)
  | 41 => ("DelayMachineModel", "taken", "[Z", true)
  | 42 => ("DelayMachineModel", "held", "[Z", true)
  | 43 => ("DelayMachineModel", "places", "[I", true)
  | 44 => ("DelayMachineModel", "known", "I", false)
  | 45 => ("DelayMachineModel", "begins", "[I", true)
  | _ => ("DelayMachineModel", "variables", "[I", true)
def t_Md : Nat → FieldType := fun k => match k with
  | 0 => .array .int
  | 1 => .array .short
  | 2 => .int
  | 3 => .boolean
  | 4 => .int
  | 5 => .int
  | 6 => .int
  | 7 => .int
  | 8 => .int
  | 9 => .int
  | 10 => .int
  | 11 => .int
  | 12 => .int
  | 13 => .int
  | 14 => .int
  | 15 => .int
  | 16 => .boolean
  | 17 => .int
  | 18 => .int
  | 19 => .int
  | 20 => .int
  | 21 => .array .short
  | 22 => .array .short
  | 23 => .int
  | 24 => .boolean
  | 25 => .int
  | 26 => .array .short
  | 27 => .int
  | 28 => .int
  | 29 => .array .int
  | 30 => .array .int
  | 31 => .array .int
  | 32 => .array .int
  | 33 => .array .int
  | 34 => .int
  | 35 => .array .int
  | 36 => .array .int
  | 37 => .array .int
  | 38 => .array .int
  | 39 => .array .int
  | 40 => .array .int
  | 41 => .array .boolean
  | 42 => .array .boolean
  | 43 => .array .int
  | 44 => .int
  | 45 => .array .int
  | _ => .array .int
theorem n_Md : ∀ a, a < 47 → ∀ b, b < 47 → a ≠ b → (T_Md a).2.1 ≠ (T_Md b).2.1 := by decide +kernel
theorem o_Md : ∀ k, k < 47 → parseFieldDescriptor (T_Md k).2.2.1 = some (t_Md k) := by decide +kernel
theorem i_Md : ∀ w ∈ u_ws R_Md T_Md 47, w ∈ lw_g := fun w h => List.mem_append_right _ (List.mem_filter.mpr ⟨in_places [581, 583, 585, 587, 589, 591, 593, 595, 597, 599, 601, 603, 605, 607, 609, 611, 613, 615, 617, 619, 621, 623, 625, 627, 629, 631, 633, 635, 637, 639, 641, 643, 645, 647, 649, 651, 653, 655, 657, 659, 661, 663, 665, 667, 669, 671, 673] (by decide +kernel) w h, List.all_eq_true.mp (show (u_ws R_Md T_Md 47).all goodWord = true by decide +kernel) w h⟩)
abbrev gCl : List vw_C := [(R_Dm, T_Dm, 7), (R_St, T_St, 2), (R_Rd, T_Rd, 6), (R_Pu, T_Pu, 3), (R_Mc, T_Mc, 14), (R_Mu, T_Mu, 3), (R_Wi, T_Wi, 5), (R_Pr, T_Pr, 6), (R_Pl, T_Pl, 9), (R_Md, T_Md, 47)]
abbrev b_Dm_init : ByteArray := prog_1_method_1_code
def y_Dm_init : MethodName := ⟨R_Dm, "<init>", "()V"⟩
abbrev b_Dm_order : ByteArray := prog_1_method_2_code
def y_Dm_order : MethodName := ⟨R_Dm, "order", "(III)Z"⟩
abbrev b_Dm_word : ByteArray := prog_1_method_3_code
def y_Dm_word : MethodName := ⟨R_Dm, "word", "(IIS)Z"⟩
abbrev b_Dm_card : ByteArray := prog_1_method_4_code
def y_Dm_card : MethodName := ⟨R_Dm, "card", "(S)Z"⟩
abbrev b_Dm_start : ByteArray := prog_1_method_5_code
def y_Dm_start : MethodName := ⟨R_Dm, "start", "(II)Z"⟩
abbrev b_Dm_run : ByteArray := prog_1_method_6_code
def y_Dm_run : MethodName := ⟨R_Dm, "run", "(I)I"⟩
abbrev b_Dm_look : ByteArray := prog_1_method_7_code
def y_Dm_look : MethodName := ⟨R_Dm, "look", "(I)I"⟩
abbrev b_Dm_peek : ByteArray := prog_1_method_8_code
def y_Dm_peek : MethodName := ⟨R_Dm, "peek", "(II)S"⟩
abbrev b_Dm_read : ByteArray := prog_1_method_9_code
def y_Dm_read : MethodName := ⟨R_Dm, "read", "(II)I"⟩
abbrev b_Dm_punched : ByteArray := prog_1_method_10_code
def y_Dm_punched : MethodName := ⟨R_Dm, "punched", "(I)S"⟩
abbrev b_Dm_statement : ByteArray := prog_1_method_11_code
def y_Dm_statement : MethodName := ⟨R_Dm, "statement", "(IIIII)I"⟩
abbrev b_Dm_clear : ByteArray := prog_1_method_12_code
def y_Dm_clear : MethodName := ⟨R_Dm, "clear", "()V"⟩
abbrev b_Dm_assemble : ByteArray := prog_1_method_13_code
def y_Dm_assemble : MethodName := ⟨R_Dm, "assemble", "()I"⟩
abbrev b_Dm_placed : ByteArray := prog_1_method_14_code
def y_Dm_placed : MethodName := ⟨R_Dm, "placed", "(I)I"⟩
abbrev b_Dm_variable : ByteArray := prog_1_method_15_code
def y_Dm_variable : MethodName := ⟨R_Dm, "variable", "(I)I"⟩
abbrev b_Md_init : ByteArray := prog_11_method_1_code
def y_Md_init : MethodName := ⟨R_Md, "<init>", "()V"⟩
abbrev b_Md_wordAt : ByteArray := prog_11_method_2_code
def y_Md_wordAt : MethodName := ⟨R_Md, "wordAt", "(II)I"⟩
abbrev b_Md_isOrder : ByteArray := prog_11_method_3_code
def y_Md_isOrder : MethodName := ⟨R_Md, "isOrder", "(II)Z"⟩
abbrev b_Md_order : ByteArray := prog_11_method_4_code
def y_Md_order : MethodName := ⟨R_Md, "order", "(III)Z"⟩
abbrev b_Md_word : ByteArray := prog_11_method_5_code
def y_Md_word : MethodName := ⟨R_Md, "word", "(IIS)Z"⟩
abbrev b_Md_card : ByteArray := prog_11_method_6_code
def y_Md_card : MethodName := ⟨R_Md, "card", "(S)Z"⟩
abbrev b_Md_start : ByteArray := prog_11_method_7_code
def y_Md_start : MethodName := ⟨R_Md, "start", "(II)Z"⟩
abbrev b_Md_waitOf : ByteArray := prog_11_method_8_code
def y_Md_waitOf : MethodName := ⟨R_Md, "waitOf", "(I)I"⟩
abbrev b_Md_gapOf : ByteArray := prog_11_method_9_code
def y_Md_gapOf : MethodName := ⟨R_Md, "gapOf", "(I)I"⟩
abbrev b_Md_read_0 : ByteArray := prog_11_method_10_code
def y_Md_read_0 : MethodName := ⟨R_Md, "read", "()V"⟩
abbrev b_Md_row : ByteArray := prog_11_method_11_code
def y_Md_row : MethodName := ⟨R_Md, "row", "()I"⟩
abbrev b_Md_get : ByteArray := prog_11_method_12_code
def y_Md_get : MethodName := ⟨R_Md, "get", "(I)S"⟩
abbrev b_Md_fail : ByteArray := prog_11_method_13_code
def y_Md_fail : MethodName := ⟨R_Md, "fail", "(I)V"⟩
abbrev b_Md_put : ByteArray := prog_11_method_14_code
def y_Md_put : MethodName := ⟨R_Md, "put", "(IS)V"⟩
abbrev b_Md_discriminate : ByteArray := prog_11_method_15_code
def y_Md_discriminate : MethodName := ⟨R_Md, "discriminate", "(Z)V"⟩
abbrev b_Md_feed : ByteArray := prog_11_method_16_code
def y_Md_feed : MethodName := ⟨R_Md, "feed", "()V"⟩
abbrev b_Md_press : ByteArray := prog_11_method_17_code
def y_Md_press : MethodName := ⟨R_Md, "press", "(S)V"⟩
abbrev b_Md_current : ByteArray := prog_11_method_18_code
def y_Md_current : MethodName := ⟨R_Md, "current", "()I"⟩
abbrev b_Md_cycle : ByteArray := prog_11_method_19_code
def y_Md_cycle : MethodName := ⟨R_Md, "cycle", "()V"⟩
abbrev b_Md_multiply : ByteArray := prog_11_method_20_code
def y_Md_multiply : MethodName := ⟨R_Md, "multiply", "()V"⟩
abbrev b_Md_run : ByteArray := prog_11_method_21_code
def y_Md_run : MethodName := ⟨R_Md, "run", "(I)I"⟩
abbrev b_Md_look : ByteArray := prog_11_method_22_code
def y_Md_look : MethodName := ⟨R_Md, "look", "(I)I"⟩
abbrev b_Md_peek : ByteArray := prog_11_method_23_code
def y_Md_peek : MethodName := ⟨R_Md, "peek", "(II)S"⟩
abbrev b_Md_read_II : ByteArray := prog_11_method_24_code
def y_Md_read_II : MethodName := ⟨R_Md, "read", "(II)I"⟩
abbrev b_Md_punched : ByteArray := prog_11_method_25_code
def y_Md_punched : MethodName := ⟨R_Md, "punched", "(I)S"⟩
abbrev b_Md_isVariable : ByteArray := prog_11_method_26_code
def y_Md_isVariable : MethodName := ⟨R_Md, "isVariable", "(I)Z"⟩
abbrev b_Md_statement : ByteArray := prog_11_method_27_code
def y_Md_statement : MethodName := ⟨R_Md, "statement", "(IIIII)I"⟩
abbrev b_Md_clear : ByteArray := prog_11_method_28_code
def y_Md_clear : MethodName := ⟨R_Md, "clear", "()V"⟩
abbrev b_Md_list : ByteArray := prog_11_method_29_code
def y_Md_list : MethodName := ⟨R_Md, "list", "(IIII)V"⟩
abbrev b_Md_listAll : ByteArray := prog_11_method_30_code
def y_Md_listAll : MethodName := ⟨R_Md, "listAll", "()V"⟩
abbrev b_Md_free : ByteArray := prog_11_method_31_code
def y_Md_free : MethodName := ⟨R_Md, "free", "(IZ)I"⟩
abbrev b_Md_place : ByteArray := prog_11_method_32_code
def y_Md_place : MethodName := ⟨R_Md, "place", "()Z"⟩
abbrev b_Md_variableFrom : ByteArray := prog_11_method_33_code
def y_Md_variableFrom : MethodName := ⟨R_Md, "variableFrom", "(II)I"⟩
abbrev b_Md_firstOf : ByteArray := prog_11_method_34_code
def y_Md_firstOf : MethodName := ⟨R_Md, "firstOf", "(I)I"⟩
abbrev b_Md_write : ByteArray := prog_11_method_35_code
def y_Md_write : MethodName := ⟨R_Md, "write", "(I)V"⟩
abbrev b_Md_isSecond : ByteArray := prog_11_method_36_code
def y_Md_isSecond : MethodName := ⟨R_Md, "isSecond", "(I)Z"⟩
abbrev b_Md_assemble : ByteArray := prog_11_method_37_code
def y_Md_assemble : MethodName := ⟨R_Md, "assemble", "()I"⟩
abbrev b_Md_placed : ByteArray := prog_11_method_38_code
def y_Md_placed : MethodName := ⟨R_Md, "placed", "(I)I"⟩
abbrev b_Md_variable : ByteArray := prog_11_method_39_code
def y_Md_variable : MethodName := ⟨R_Md, "variable", "(I)I"⟩
abbrev b_Mc_init : ByteArray := prog_2_method_1_code
def y_Mc_init : MethodName := ⟨R_Mc, "<init>", "(LDelayMachine$Store;LDelayMachine$Reader;LDelayMachine$Punch;)V"⟩
abbrev b_Mc_begin : ByteArray := prog_2_method_2_code
def y_Mc_begin : MethodName := ⟨R_Mc, "begin", "(II)V"⟩
abbrev b_Mc_goThroughCycle : ByteArray := prog_2_method_3_code
def y_Mc_goThroughCycle : MethodName := ⟨R_Mc, "goThroughCycle", "()V"⟩
abbrev b_Mc_takeOrder : ByteArray := prog_2_method_4_code
def y_Mc_takeOrder : MethodName := ⟨R_Mc, "takeOrder", "()V"⟩
abbrev b_Mc_stopBy : ByteArray := prog_2_method_5_code
def y_Mc_stopBy : MethodName := ⟨R_Mc, "stopBy", "(I)V"⟩
abbrev b_Mc_move : ByteArray := prog_2_method_6_code
def y_Mc_move : MethodName := ⟨R_Mc, "move", "(LDelayMachine$Window;)V"⟩
abbrev b_Mc_discriminate : ByteArray := prog_2_method_7_code
def y_Mc_discriminate : MethodName := ⟨R_Mc, "discriminate", "(LDelayMachine$Window;Z)V"⟩
abbrev b_Mc_sourceWord : ByteArray := prog_2_method_8_code
def y_Mc_sourceWord : MethodName := ⟨R_Mc, "sourceWord", "(I)S"⟩
abbrev b_Mc_deliver : ByteArray := prog_2_method_9_code
def y_Mc_deliver : MethodName := ⟨R_Mc, "deliver", "(SI)V"⟩
abbrev b_Mu_init : ByteArray := prog_3_method_1_code
def y_Mu_init : MethodName := ⟨R_Mu, "<init>", "()V"⟩
abbrev b_Mu_rest : ByteArray := prog_3_method_2_code
def y_Mu_rest : MethodName := ⟨R_Mu, "rest", "()V"⟩
abbrev b_Mu_begin : ByteArray := prog_3_method_3_code
def y_Mu_begin : MethodName := ⟨R_Mu, "begin", "(SLDelayMachine$Store;)V"⟩
abbrev b_Mu_endCycle : ByteArray := prog_3_method_4_code
def y_Mu_endCycle : MethodName := ⟨R_Mu, "endCycle", "(LDelayMachine$Store;)V"⟩
abbrev b_Pl_init : ByteArray := prog_4_method_1_code
def y_Pl_init : MethodName := ⟨R_Pl, "<init>", "()V"⟩
abbrev b_Pl_placeAll : ByteArray := prog_4_method_2_code
def y_Pl_placeAll : MethodName := ⟨R_Pl, "placeAll", "(LDelayMachine$Program;)Z"⟩
abbrev b_Pl_forget : ByteArray := prog_4_method_3_code
def y_Pl_forget : MethodName := ⟨R_Pl, "forget", "()V"⟩
abbrev b_Pl_placeStatement : ByteArray := prog_4_method_4_code
def y_Pl_placeStatement : MethodName := ⟨R_Pl, "placeStatement", "(LDelayMachine$Program;I)V"⟩
abbrev b_Pl_placeOrder : ByteArray := prog_4_method_5_code
def y_Pl_placeOrder : MethodName := ⟨R_Pl, "placeOrder", "(III)V"⟩
abbrev b_Pl_placeStop : ByteArray := prog_4_method_6_code
def y_Pl_placeStop : MethodName := ⟨R_Pl, "placeStop", "()V"⟩
abbrev b_Pl_placeFork : ByteArray := prog_4_method_7_code
def y_Pl_placeFork : MethodName := ⟨R_Pl, "placeFork", "(I)V"⟩
abbrev b_Pl_occupy : ByteArray := prog_4_method_8_code
def y_Pl_occupy : MethodName := ⟨R_Pl, "occupy", "(II)V"⟩
abbrev b_Pl_lead : ByteArray := prog_4_method_9_code
def y_Pl_lead : MethodName := ⟨R_Pl, "lead", "(II)V"⟩
abbrev b_Pl_freeSpot : ByteArray := prog_4_method_10_code
def y_Pl_freeSpot : MethodName := ⟨R_Pl, "freeSpot", "()I"⟩
abbrev b_Pl_forkSpot : ByteArray := prog_4_method_11_code
def y_Pl_forkSpot : MethodName := ⟨R_Pl, "forkSpot", "()I"⟩
abbrev b_Pl_isFree : ByteArray := prog_4_method_12_code
def y_Pl_isFree : MethodName := ⟨R_Pl, "isFree", "(II)Z"⟩
abbrev b_Pl_variablePlace : ByteArray := prog_4_method_13_code
def y_Pl_variablePlace : MethodName := ⟨R_Pl, "variablePlace", "(II)I"⟩
abbrev b_Pl_leadBranches : ByteArray := prog_4_method_14_code
def y_Pl_leadBranches : MethodName := ⟨R_Pl, "leadBranches", "(LDelayMachine$Program;)V"⟩
abbrev b_Pl_fillWithStops : ByteArray := prog_4_method_15_code
def y_Pl_fillWithStops : MethodName := ⟨R_Pl, "fillWithStops", "()V"⟩
abbrev b_Pr_init : ByteArray := prog_5_method_1_code
def y_Pr_init : MethodName := ⟨R_Pr, "<init>", "()V"⟩
abbrev b_Pr_addStatement : ByteArray := prog_5_method_2_code
def y_Pr_addStatement : MethodName := ⟨R_Pr, "addStatement", "(IIIII)I"⟩
abbrev b_Pr_isVariable : ByteArray := prog_5_method_3_code
def y_Pr_isVariable : MethodName := ⟨R_Pr, "isVariable", "(I)Z"⟩
abbrev b_Pr_allGotosLead : ByteArray := prog_5_method_4_code
def y_Pr_allGotosLead : MethodName := ⟨R_Pr, "allGotosLead", "()Z"⟩
abbrev b_Pr_endsWithHalt : ByteArray := prog_5_method_5_code
def y_Pr_endsWithHalt : MethodName := ⟨R_Pr, "endsWithHalt", "()Z"⟩
abbrev b_Pu_init : ByteArray := prog_6_method_1_code
def y_Pu_init : MethodName := ⟨R_Pu, "<init>", "()V"⟩
abbrev b_Pu_take : ByteArray := prog_6_method_2_code
def y_Pu_take : MethodName := ⟨R_Pu, "take", "(SI)Z"⟩
abbrev b_Rd_init : ByteArray := prog_7_method_1_code
def y_Rd_init : MethodName := ⟨R_Rd, "<init>", "()V"⟩
abbrev b_Rd_addRow : ByteArray := prog_7_method_2_code
def y_Rd_addRow : MethodName := ⟨R_Rd, "addRow", "(S)Z"⟩
abbrev b_Rd_rowsLeft : ByteArray := prog_7_method_3_code
def y_Rd_rowsLeft : MethodName := ⟨R_Rd, "rowsLeft", "()I"⟩
abbrev b_Rd_rest : ByteArray := prog_7_method_4_code
def y_Rd_rest : MethodName := ⟨R_Rd, "rest", "()V"⟩
abbrev b_Rd_feed : ByteArray := prog_7_method_5_code
def y_Rd_feed : MethodName := ⟨R_Rd, "feed", "(I)Z"⟩
abbrev b_Rd_offset : ByteArray := prog_7_method_6_code
def y_Rd_offset : MethodName := ⟨R_Rd, "offset", "(I)I"⟩
abbrev b_Rd_moveRow : ByteArray := prog_7_method_7_code
def y_Rd_moveRow : MethodName := ⟨R_Rd, "moveRow", "(I)S"⟩
abbrev b_Rd_endCycle : ByteArray := prog_7_method_8_code
def y_Rd_endCycle : MethodName := ⟨R_Rd, "endCycle", "(I)Z"⟩
abbrev b_St_init : ByteArray := prog_8_method_1_code
def y_St_init : MethodName := ⟨R_St, "<init>", "()V"⟩
abbrev b_St_orderSpot : ByteArray := prog_8_method_2_code
def y_St_orderSpot : MethodName := ⟨R_St, "orderSpot", "(II)I"⟩
abbrev b_St_wordSpot : ByteArray := prog_8_method_3_code
def y_St_wordSpot : MethodName := ⟨R_St, "wordSpot", "(II)I"⟩
abbrev b_St_presentedSpot : ByteArray := prog_8_method_4_code
def y_St_presentedSpot : MethodName := ⟨R_St, "presentedSpot", "(II)I"⟩
abbrev b_St_placesOf : ByteArray := prog_8_method_5_code
def y_St_placesOf : MethodName := ⟨R_St, "placesOf", "(I)I"⟩
abbrev b_St_firstSpot : ByteArray := prog_8_method_6_code
def y_St_firstSpot : MethodName := ⟨R_St, "firstSpot", "(I)I"⟩
abbrev b_St_product : ByteArray := prog_8_method_7_code
def y_St_product : MethodName := ⟨R_St, "product", "()I"⟩
abbrev b_St_setProduct : ByteArray := prog_8_method_8_code
def y_St_setProduct : MethodName := ⟨R_St, "setProduct", "(I)V"⟩
abbrev b_Wi_init : ByteArray := prog_9_method_1_code
def y_Wi_init : MethodName := ⟨R_Wi, "<init>", "()V"⟩
abbrev b_Wi_close : ByteArray := prog_9_method_2_code
def y_Wi_close : MethodName := ⟨R_Wi, "close", "()V"⟩
abbrev b_Wi_open : ByteArray := prog_9_method_3_code
def y_Wi_open : MethodName := ⟨R_Wi, "open", "(II)V"⟩
abbrev b_Wi_lastOf : ByteArray := prog_9_method_4_code
def y_Wi_lastOf : MethodName := ⟨R_Wi, "lastOf", "(I)I"⟩
abbrev b_Wi_covers : ByteArray := prog_9_method_5_code
def y_Wi_covers : MethodName := ⟨R_Wi, "covers", "(I)Z"⟩
abbrev b_Lw_law : ByteArray := code
def y_Lw_law : MethodName := ⟨"DelayMachineLaw", "law", "([I)Z"⟩
abbrev b_Ar_fill : ByteArray := prog_13_method_103_code
def y_Ar_fill : MethodName := ⟨"java/util/Arrays", "fill", "([II)V"⟩
end
section
theorem d_Ar_fill_0 : decode b_Ar_fill 0 = .ok (.iconst 0, 1) := by decide +kernel
theorem d_Ar_fill_1 : decode b_Ar_fill 1 = .ok (.istore_n 2, 1) := by decide +kernel
theorem d_Ar_fill_2 : decode b_Ar_fill 2 = .ok (.aload_n 0, 1) := by decide +kernel
theorem d_Ar_fill_3 : decode b_Ar_fill 3 = .ok (.arraylength, 1) := by decide +kernel
theorem d_Ar_fill_4 : decode b_Ar_fill 4 = .ok (.istore_n 3, 1) := by decide +kernel
theorem d_Ar_fill_5 : decode b_Ar_fill 5 = .ok (.iload_n 2, 1) := by decide +kernel
theorem d_Ar_fill_6 : decode b_Ar_fill 6 = .ok (.iload_n 3, 1) := by decide +kernel
theorem d_Ar_fill_7 : decode b_Ar_fill 7 = .ok (.if_icmp .ge 13, 3) := by decide +kernel
theorem d_Ar_fill_10 : decode b_Ar_fill 10 = .ok (.aload_n 0, 1) := by decide +kernel
theorem d_Ar_fill_11 : decode b_Ar_fill 11 = .ok (.iload_n 2, 1) := by decide +kernel
theorem d_Ar_fill_12 : decode b_Ar_fill 12 = .ok (.iload_n 1, 1) := by decide +kernel
theorem d_Ar_fill_13 : decode b_Ar_fill 13 = .ok (.iastore, 1) := by decide +kernel
theorem d_Ar_fill_14 : decode b_Ar_fill 14 = .ok (.iinc 2 1, 3) := by decide +kernel
theorem d_Ar_fill_17 : decode b_Ar_fill 17 = .ok (.goto (-12), 3) := by decide +kernel
theorem d_Ar_fill_20 : decode b_Ar_fill 20 = .ok (.return_, 1) := by decide +kernel
end
section
abbrev gS : Type := (Nat → Int32) × (Nat → Nat → Int32)
abbrev gSW : Type := Nat × Nat × (Nat → Int32) × (Nat → Nat → Int32)
abbrev gSP : Type := (Nat → Nat) × (Nat → Nat) × (Nat → Int32) × (Nat → Nat → Int32)
abbrev gT (cI cS cZ : ClassId) : List (ClassId × FieldType) := [(cI, .int), (cS, .short), (cZ, .boolean)]
section GK
variable {S : Type}
/-- before a method: the world at a state u, of a heap of sz cells -/
def gPre (D : va_G) (tys : List (ClassId × FieldType)) (Wd : S → va_W) (sz : Nat) (u : S) : State → Prop := fun U => U.heap.size = sz ∧ va_P D gCl (Wd u) U.heap ∧ (va_K D gCl tys U ∧ gNst U) ∧ va_D (fun _ => True) (Wd u)
/-- behind it -/
def gAt (D : va_G) (tys : List (ClassId × FieldType)) (Wd : S → va_W) (A : Nat → Prop) (u : S) (t : State) : Prop := va_P D gCl (Wd u) t.heap ∧ va_K D gCl tys t ∧ va_D A (Wd u)
/-- a method that answers an int (short, boolean), over the world Wd -/
def gMi (l : Launch) (y : MethodName) (cc : ByteArray) (maxL : Nat) (ty : FieldType) (rm : Room) (D : va_G) (tys : List (ClassId × FieldType)) (Wd : S → va_W) (av : List Value) (u : S) (post : Int32 → S → Prop) : Prop :=
  ∀ sz : Nat, Met l y (.code y cc maxL (some ty) :: lw_g) rm (va_Pc av (gPre D tys Wd sz u)) (va_Qi post (gAt D tys Wd (va_A (Wd u) sz)) (va_A (Wd u) sz)) 0 0 (va_A (Wd u) sz)
def gMv (l : Launch) (y : MethodName) (cc : ByteArray) (maxL : Nat) (rm : Room) (D : va_G) (tys : List (ClassId × FieldType)) (Wd : S → va_W) (av : List Value) (u : S) (post : S → Prop) : Prop :=
  ∀ sz : Nat, Met l y (.code y cc maxL none :: lw_g) rm (va_Pc av (gPre D tys Wd sz u)) (va_Qv post (gAt D tys Wd (va_A (Wd u) sz)) (va_A (Wd u) sz)) 0 0 (va_A (Wd u) sz)
theorem gMi.of {l : Launch} {y : MethodName} {cc : ByteArray} {maxL : Nat} {ty : FieldType} {rm : Room} {D : va_G} {tys : List (ClassId × FieldType)} {Wd : S → va_W} {av : List Value} {u : S} {post : Int32 → S → Prop}
    (hy : plainName y.cls = true) (hlen : (lg_sl av).length ≤ maxL)
    (K : ∀ (p : Program) (e : Env) (s : State) (m : MethodId) (below : List Frame) (meth : Method) (c : Code) (Q : State → Prop) (A : Nat → Prop),
      p.tables.exec = Jvm.exec → c.code = cc → c.maxLocals = maxL → s.vm.findClass y.cls = some m.cls → (∀ w ∈ lw_g, w.before av.toArray s = true) → va_K D gCl tys s → gNst s → (∀ q, s.heap.size ≤ q → A q) → va_S A s.heap s.heap [] → va_P D gCl (Wd u) s.heap → va_D A (Wd u) →
      (∀ (H : Heap) (locs : List Loc) (pc : Nat) (ls : Array Slot) (v : Int32) (u1 : S), decode cc pc = .ok (.ireturn, 1) → va_P D gCl (Wd u1) H → va_D A (Wd u1) → va_S A s.heap H locs → narrow ty (.int v) = .int v → post v u1 → W p l e rm s m av.toArray below meth c H locs 0 0 Q (F0 m pc ls [.int v])) →
      ∀ ls : Array Slot, lv_has ls maxL (lv_args 0 av) → W p l e rm s m av.toArray below meth c s.heap [] 0 0 Q (F0 m 0 ls [])) : gMi l y cc maxL ty rm D tys Wd av u post := by
  intro sz
  refine Met.ofW (cc := cc) (maxL := maxL) (ret := some ty) hy rfl ?_
  intro p e s m args below meth c s₁ B hml hv
  obtain ⟨rfl, hsz, hP, ⟨hK, hN⟩, hD0⟩ := hv
  have hts := atoms_spec (ws := Cond.code y cc maxL (some ty) :: lw_g) B.pre
  have hown : s.vm.findClass y.cls = some m.cls := findClass_of_methodNamed B.named
  subst hsz
  have hl := lv_entry av (n := maxL) hlen
  rw [lg_entry_eq]
  exact K p e s m below meth c _ (va_A (Wd u) s.heap.size) B.exec B.bytes hml hown (fun w h => hts w (List.mem_cons_of_mem _ h)) hK hN (fun q h => Or.inr h) va_S.rf hP hD0.self
    (fun H locs pc ls v u1 hd hP1 hD1 hS1 hn hp => W.zret B.exec B.bytes B.returns hn (fun t ht hW => ⟨⟨v, u1, rfl, hp, by rw [ht]; exact hP1, va_K.moved hW.alike hK, hD1⟩, hS1.F ht⟩) hS1.2.2 hd B.notSynchronized) _ hl
theorem gMv.of {l : Launch} {y : MethodName} {cc : ByteArray} {maxL : Nat} {rm : Room} {D : va_G} {tys : List (ClassId × FieldType)} {Wd : S → va_W} {av : List Value} {u : S} {post : S → Prop}
    (hy : plainName y.cls = true) (hlen : (lg_sl av).length ≤ maxL)
    (K : ∀ (p : Program) (e : Env) (s : State) (m : MethodId) (below : List Frame) (meth : Method) (c : Code) (Q : State → Prop) (A : Nat → Prop),
      p.tables.exec = Jvm.exec → c.code = cc → c.maxLocals = maxL → s.vm.findClass y.cls = some m.cls → (∀ w ∈ lw_g, w.before av.toArray s = true) → va_K D gCl tys s → gNst s → (∀ q, s.heap.size ≤ q → A q) → va_S A s.heap s.heap [] → va_P D gCl (Wd u) s.heap → va_D A (Wd u) →
      (∀ (H : Heap) (locs : List Loc) (pc : Nat) (ls : Array Slot) (u1 : S), decode cc pc = .ok (.return_, 1) → va_P D gCl (Wd u1) H → va_D A (Wd u1) → va_S A s.heap H locs → post u1 → W p l e rm s m av.toArray below meth c H locs 0 0 Q (F0 m pc ls [])) →
      ∀ ls : Array Slot, lv_has ls maxL (lv_args 0 av) → W p l e rm s m av.toArray below meth c s.heap [] 0 0 Q (F0 m 0 ls [])) : gMv l y cc maxL rm D tys Wd av u post := by
  intro sz
  refine Met.ofW (cc := cc) (maxL := maxL) (ret := none) hy rfl ?_
  intro p e s m args below meth c s₁ B hml hv
  obtain ⟨rfl, hsz, hP, ⟨hK, hN⟩, hD0⟩ := hv
  have hts := atoms_spec (ws := Cond.code y cc maxL none :: lw_g) B.pre
  have hown : s.vm.findClass y.cls = some m.cls := findClass_of_methodNamed B.named
  subst hsz
  have hl := lv_entry av (n := maxL) hlen
  rw [lg_entry_eq]
  exact K p e s m below meth c _ (va_A (Wd u) s.heap.size) B.exec B.bytes hml hown (fun w h => hts w (List.mem_cons_of_mem _ h)) hK hN (fun q h => Or.inr h) va_S.rf hP hD0.self
    (fun H locs pc ls u1 hd hP1 hD1 hS1 hp => W.vret B.exec B.bytes B.returns (fun t ht hW => ⟨⟨u1, rfl, hp, by rw [ht]; exact hP1, va_K.moved hW.alike hK, hD1⟩, hS1.F ht⟩) hS1.2.2 hd B.notSynchronized) _ hl
end GK
-- the words of a call
theorem gGV {own C : String} {idx maxL : Nat} {y : MethodName} {bytes : ByteArray} {ret : Option FieldType} (h1 : Cond.methodLink own idx y ∈ lw_g) (h2 : Cond.instanceMethod y ∈ lw_g) (h3 : Cond.selects C y y ∈ lw_g) (h4 : Cond.initialized C ∈ lw_g) (h5 : Cond.code y bytes maxL ret ∈ lw_g) : GoodIn lw_g (wsV own idx C y (.code y bytes maxL ret :: lw_g)) := by
  intro w hw
  have h : w ∈ lw_g := by
    unfold wsV at hw
    simp only [List.cons_append, List.nil_append, List.mem_cons] at hw
    rcases hw with rfl | rfl | rfl | rfl | rfl | h
    · exact h1
    · exact h2
    · exact h3
    · exact h4
    · exact h5
    · exact h
  exact ⟨h, lw_good w h⟩
theorem gGS {own : String} {idx maxL : Nat} {y : MethodName} {bytes : ByteArray} {ret : Option FieldType} (h1 : Cond.methodLink own idx y ∈ lw_g) (h2 : Cond.static y ∈ lw_g) (h4 : Cond.initialized y.cls ∈ lw_g) (h5 : Cond.code y bytes maxL ret ∈ lw_g) : GoodIn lw_g (va_wsS own idx y (.code y bytes maxL ret :: lw_g)) := by
  intro w hw
  have h : w ∈ lw_g := by
    unfold va_wsS at hw
    simp only [List.cons_append, List.nil_append, List.mem_cons] at hw
    rcases hw with rfl | rfl | rfl | rfl | h
    · exact h1
    · exact h2
    · exact h4
    · exact h5
    · exact h
  exact ⟨h, lw_good w h⟩
theorem gGI {maxL : Nat} {y : MethodName} {bytes : ByteArray} {ret : Option FieldType} (h5 : Cond.code y bytes maxL ret ∈ lw_g) : GoodIn lw_g (.code y bytes maxL ret :: lw_g) := by
  intro w hw
  have h : w ∈ lw_g := by
    rcases List.mem_cons.mp hw with rfl | h
    · exact h5
    · exact h
  exact ⟨h, lw_good w h⟩
section GC
variable {p : Program} {l : Launch} {e : Env} {R : Room} {s : State} {m : MethodId} {args : Array Value} {below : List Frame} {meth : Method} {c : Code} {H H0 : Heap} {locs : List Loc} {cells slots : Nat} {Q : State → Prop}
variable {cc bytes : ByteArray} {pc nL n index maxL : Nat} {ls : Array Slot} {rest st0 As : List Value} {D : va_G} {tys : List (ClassId × FieldType)} {A : Nat → Prop} {own C : String} {y : MethodName} {ty : FieldType} {rm : Room} {b : Nat} {S : Type} {Wd : S → va_W} {u : S}
theorem gFree (hD : va_D A (Wd u)) (hS : va_S A H0 H locs) (hA : ∀ q, H0.size ≤ q → A q) : ∀ q, va_A (Wd u) H.size q → A q := by
  intro q h
  rcases h with ⟨k, e, h⟩ | h
  · exact hD.2 k (q, e) h
  · exact hA q (Nat.le_trans hS.1 h)
theorem gPreB (D : va_G) (tys : List (ClassId × FieldType)) (Wd : S → va_W) (sz : Nat) (u : S) (av : List Value) : FrameBlind (va_Pc av (gPre D tys Wd sz u)) := by
  intro a U g mk q
  obtain ⟨q0, q1, qP, ⟨qK, qN⟩, qD⟩ := q
  exact ⟨q0, q1, qP, ⟨va_K.moved (u := U) (U := U.calling g mk a) (Vm.Alike.refl U.vm) qK, gNst.same (u := U) (U := U.calling g mk a) rfl qN⟩, qD⟩
theorem gPreAt (hK : va_K D gCl tys s) (hN : gNst s) (hP : va_P D gCl (Wd u) H) (hD : va_D A (Wd u)) (av : List Value) : ∀ U : State, U.heap = H → s.WarmedH U.vm → va_Pc av (gPre D tys Wd H.size u) av.toArray U :=
  fun U hU hW => ⟨rfl, by rw [hU], by rw [hU]; exact hP, ⟨va_K.moved hW.alike hK, gNst.warm hW hN⟩, hD.weaken (fun _ _ _ _ => trivial)⟩
theorem gCallVi {post : Int32 → S → Prop} (hM : gMi l y bytes maxL ty rm D tys Wd (.ref b :: As) u post) (hx : p.tables.exec = Jvm.exec) (hb : c.code = cc) (hml : c.maxLocals = nL) (hown : s.vm.findClass own = some m.cls) (hts : ∀ w ∈ lw_g, w.before args s = true) (hK : va_K D gCl tys s) (hN : gNst s) (hA : ∀ q, H0.size ≤ q → A q) (hS : va_S A H0 H locs) (hP : va_P D gCl (Wd u) H) (hD : va_D A (Wd u))
    (cw : CallW R s args own C index y bytes maxL (some ty) (.code y bytes maxL (some ty) :: lw_g) rm 0 0 n) (hrecv : ∃ cell : Cell, H[b]? = some cell ∧ cell.vm.isStatics = false ∧ s.vm.findClass C = some cell.cls)
    (hn : As.length = n) (hls : ls.size = nL) (hst : st0 = As.reverse ++ .ref b :: rest) (hroom : (rest.map fun v => v.category).sum ≤ 8) (hdg : decode cc pc = .ok (.invokevirtual index, 3))
    (kk : ∀ (r : Int32) (u1 : S) (H1 : Heap) (locs1 : List Loc), post r u1 → va_P D gCl (Wd u1) H1 → va_D A (Wd u1) → va_S A H0 H1 locs1 → W p l e R s m args below meth c H1 locs1 cells slots Q (F0 m (pc + 3) ls (.int r :: rest))) (hc : cells ≤ R.cells := by exact Nat.zero_le _) (hs : slots ≤ R.slots := by exact Nat.zero_le _) : W p l e R s m args below meth c H locs cells slots Q (F0 m pc ls st0) := by
  have hF := gFree hD hS hA
  refine va_calli (va_runV (g := F0 m pc ls st0) ⟨hx, hb, hml, hown, hts⟩ (hM H.size) cw ⟨gPreB D tys Wd H.size u _, hrecv, gPreAt hK hN hP hD _⟩ rfl hn hls hst (lv_room hroom) hdg ⟨hc, hs⟩) hS (fun q _ h => hF q h) hF (fun r u1 t H1 locs1 ht hvm hp hB hz hk hS1 => ?_)
  obtain ⟨hP1, hK1, hD1⟩ := hB
  rw [ht] at hP1
  exact kk r u1 H1 locs1 hp hP1 (hD1.weaken (fun _ _ _ h => hF _ h)) hS1
theorem gCallVv {post : S → Prop} (hM : gMv l y bytes maxL rm D tys Wd (.ref b :: As) u post) (hx : p.tables.exec = Jvm.exec) (hb : c.code = cc) (hml : c.maxLocals = nL) (hown : s.vm.findClass own = some m.cls) (hts : ∀ w ∈ lw_g, w.before args s = true) (hK : va_K D gCl tys s) (hN : gNst s) (hA : ∀ q, H0.size ≤ q → A q) (hS : va_S A H0 H locs) (hP : va_P D gCl (Wd u) H) (hD : va_D A (Wd u))
    (cw : CallW R s args own C index y bytes maxL none (.code y bytes maxL none :: lw_g) rm 0 0 n) (hrecv : ∃ cell : Cell, H[b]? = some cell ∧ cell.vm.isStatics = false ∧ s.vm.findClass C = some cell.cls)
    (hn : As.length = n) (hls : ls.size = nL) (hst : st0 = As.reverse ++ .ref b :: rest) (hroom : (rest.map fun v => v.category).sum ≤ 8) (hdg : decode cc pc = .ok (.invokevirtual index, 3))
    (kk : ∀ (u1 : S) (H1 : Heap) (locs1 : List Loc), post u1 → va_P D gCl (Wd u1) H1 → va_D A (Wd u1) → va_S A H0 H1 locs1 → W p l e R s m args below meth c H1 locs1 cells slots Q (F0 m (pc + 3) ls rest)) (hc : cells ≤ R.cells := by exact Nat.zero_le _) (hs : slots ≤ R.slots := by exact Nat.zero_le _) : W p l e R s m args below meth c H locs cells slots Q (F0 m pc ls st0) := by
  have hF := gFree hD hS hA
  refine va_callv (va_runV (g := F0 m pc ls st0) ⟨hx, hb, hml, hown, hts⟩ (hM H.size) cw ⟨gPreB D tys Wd H.size u _, hrecv, gPreAt hK hN hP hD _⟩ rfl hn hls hst (lv_room hroom) hdg ⟨hc, hs⟩) hS (fun q _ h => hF q h) hF (fun u1 t H1 locs1 ht hvm hp hB hz hk hS1 => ?_)
  obtain ⟨hP1, hK1, hD1⟩ := hB
  rw [ht] at hP1
  exact kk u1 H1 locs1 hp hP1 (hD1.weaken (fun _ _ _ h => hF _ h)) hS1
theorem gCallSi {post : Int32 → S → Prop} (hM : gMi l y bytes maxL ty rm D tys Wd As u post) (hx : p.tables.exec = Jvm.exec) (hb : c.code = cc) (hml : c.maxLocals = nL) (hown : s.vm.findClass own = some m.cls) (hts : ∀ w ∈ lw_g, w.before args s = true) (hK : va_K D gCl tys s) (hN : gNst s) (hA : ∀ q, H0.size ≤ q → A q) (hS : va_S A H0 H locs) (hP : va_P D gCl (Wd u) H) (hD : va_D A (Wd u))
    (cw : CallB R s args own index y bytes maxL (some ty) (.code y bytes maxL (some ty) :: lw_g) rm 0 0 n ∧ (Cond.static y).before args s = true)
    (hn : As.length = n) (hls : ls.size = nL) (hst : st0 = As.reverse ++ rest) (hroom : (rest.map fun v => v.category).sum ≤ 8) (hdg : decode cc pc = .ok (.invokestatic index, 3))
    (kk : ∀ (r : Int32) (u1 : S) (H1 : Heap) (locs1 : List Loc), post r u1 → va_P D gCl (Wd u1) H1 → va_D A (Wd u1) → va_S A H0 H1 locs1 → W p l e R s m args below meth c H1 locs1 cells slots Q (F0 m (pc + 3) ls (.int r :: rest))) (hc : cells ≤ R.cells := by exact Nat.zero_le _) (hs : slots ≤ R.slots := by exact Nat.zero_le _) : W p l e R s m args below meth c H locs cells slots Q (F0 m pc ls st0) := by
  have hF := gFree hD hS hA
  refine va_calli (va_runS (g := F0 m pc ls st0) ⟨hx, hb, hml, hown, hts⟩ (hM H.size) cw ⟨gPreB D tys Wd H.size u _, gPreAt hK hN hP hD _⟩ rfl hn hls hst (lv_room hroom) hdg ⟨hc, hs⟩) hS (fun q _ h => hF q h) hF (fun r u1 t H1 locs1 ht hvm hp hB hz hk hS1 => ?_)
  obtain ⟨hP1, hK1, hD1⟩ := hB
  rw [ht] at hP1
  exact kk r u1 H1 locs1 hp hP1 (hD1.weaken (fun _ _ _ h => hF _ h)) hS1
theorem gCallSv {post : S → Prop} (hM : gMv l y bytes maxL rm D tys Wd As u post) (hx : p.tables.exec = Jvm.exec) (hb : c.code = cc) (hml : c.maxLocals = nL) (hown : s.vm.findClass own = some m.cls) (hts : ∀ w ∈ lw_g, w.before args s = true) (hK : va_K D gCl tys s) (hN : gNst s) (hA : ∀ q, H0.size ≤ q → A q) (hS : va_S A H0 H locs) (hP : va_P D gCl (Wd u) H) (hD : va_D A (Wd u))
    (cw : CallB R s args own index y bytes maxL none (.code y bytes maxL none :: lw_g) rm 0 0 n ∧ (Cond.static y).before args s = true)
    (hn : As.length = n) (hls : ls.size = nL) (hst : st0 = As.reverse ++ rest) (hroom : (rest.map fun v => v.category).sum ≤ 8) (hdg : decode cc pc = .ok (.invokestatic index, 3))
    (kk : ∀ (u1 : S) (H1 : Heap) (locs1 : List Loc), post u1 → va_P D gCl (Wd u1) H1 → va_D A (Wd u1) → va_S A H0 H1 locs1 → W p l e R s m args below meth c H1 locs1 cells slots Q (F0 m (pc + 3) ls rest)) (hc : cells ≤ R.cells := by exact Nat.zero_le _) (hs : slots ≤ R.slots := by exact Nat.zero_le _) : W p l e R s m args below meth c H locs cells slots Q (F0 m pc ls st0) := by
  have hF := gFree hD hS hA
  refine va_callv (va_runS (g := F0 m pc ls st0) ⟨hx, hb, hml, hown, hts⟩ (hM H.size) cw ⟨gPreB D tys Wd H.size u _, gPreAt hK hN hP hD _⟩ rfl hn hls hst (lv_room hroom) hdg ⟨hc, hs⟩) hS (fun q _ h => hF q h) hF (fun u1 t H1 locs1 ht hvm hp hB hz hk hS1 => ?_)
  obtain ⟨hP1, hK1, hD1⟩ := hB
  rw [ht] at hP1
  exact kk u1 H1 locs1 hp hP1 (hD1.weaken (fun _ _ _ h => hF _ h)) hS1
end GC
-- Arrays.fill(int[], int)
def gfill (n : Nat) (v : Int32) (f : Nat → Int32) : Nat → Int32 := fun j => if j < n then v else f j
theorem gfill_0 (v : Int32) (f : Nat → Int32) : gfill 0 v f = f := by funext j; simp [gfill]
theorem gfill_succ {i : Nat} (hi : i < 2 ^ 31) (v : Int32) (f : Nat → Int32) : upd (gfill i v f) (nI i).toNatClampNeg v = gfill (i + 1) v f := by
  rw [nI_clamp hi]
  funext j
  unfold upd gfill
  by_cases h : j = i
  · subst h; simp
  · by_cases h2 : j < i
    · simp [h, h2, Nat.lt_succ_of_lt h2]
    · simp [h, h2, show ¬ j < i + 1 by omega]
abbrev rm_Ar_fill : Room := { frames := 0, cells := 0, slots := 0, locals := 0 }
set_option maxHeartbeats 4000000 in
set_option maxRecDepth 100000 in
theorem c_Ar_fill (l : Launch) (D : va_G) (cI cS cZ : ClassId) (a n : Nat) (hn : n < 2 ^ 31) (f : Nat → Int32) (v : Int32) : gMv l y_Ar_fill b_Ar_fill 4 rm_Ar_fill D (gT cI cS cZ) (fun f : Nat → Int32 => [(a, .inl (cI, n, .inl f))]) [.ref a, .int v] f (fun g => g = gfill n v f) := by
  refine gMv.of (by decide) (Nat.le_of_ble_eq_true rfl) ?_
  intro p e s m below meth c Q A hx hb hml hown hts hK hN hA hS hP hD hret ls hl
  have hl : lv_has ls 4 [(0, .ref a), (1, .int v)] := hl
  have L : ∀ (k i : Nat) (ls : Array Slot) (H : Heap) (locs : List Loc), i + k = n → lv_has ls 4 [(0, .ref a), (1, .int v), (2, .int (nI i)), (3, .int (nI n))] → va_P D gCl [(a, .inl (cI, n, .inl (gfill i v f)))] H → va_D A [(a, .inl (cI, n, .inl (gfill i v f)))] → va_S A s.heap H locs → W p l e rm_Ar_fill s m ([.ref a, .int v] : List Value).toArray below meth c H locs 0 0 Q (F0 m 5 ls []) := by
    intro k
    induction k with
    | zero =>
      intro i ls H locs hi hl hP hD hS
      have hi : i = n := by omega
      subst hi
      refine lv_iload_n hx hb d_Ar_fill_5 rfl (lv_at hl 2 rfl) ?_
      refine lv_iload_n hx hb d_Ar_fill_6 rfl (lv_at hl 3 rfl) ?_
      refine lv_icmp_ge (tgt := 20) hx hb d_Ar_fill_7 (by decide) (fun h => ?_) (fun h => ?_)
      · exact hret H locs 20 ls (gfill i v f) d_Ar_fill_20 hP hD hS rfl
      · exact absurd (Int32.le_refl _) h
    | succ k ih =>
      intro i ls H locs hi hl hP hD hS
      refine lv_iload_n hx hb d_Ar_fill_5 rfl (lv_at hl 2 rfl) ?_
      refine lv_iload_n hx hb d_Ar_fill_6 rfl (lv_at hl 3 rfl) ?_
      refine lv_icmp_ge (tgt := 20) hx hb d_Ar_fill_7 (by decide) (fun h => ?_) (fun h => ?_)
      · exact absurd h (nI_ge (by omega) hn)
      · refine lv_aload_n hx hb d_Ar_fill_10 rfl (lv_at hl 0 rfl) ?_
        refine lv_iload_n hx hb d_Ar_fill_11 rfl (lv_at hl 2 rfl) ?_
        refine lv_iload_n hx hb d_Ar_fill_12 rfl (lv_at hl 1 rfl) ?_
        refine va_iast (f := gfill i v f) (i := nI i) (x := v) hx hb hK hP hD hS 0 0 rfl rfl (vp_in_nI (by omega) hn) d_Ar_fill_13 (fun H locs hP hD hS => ?_)
        have e1 := gfill_succ (i := i) (by omega) v f
        have hP : va_P D gCl [(a, .inl (cI, n, .inl (gfill (i + 1) v f)))] H := by rw [← e1]; exact hP
        have hD : va_D A [(a, .inl (cI, n, .inl (gfill (i + 1) v f)))] := by rw [← e1]; exact hD
        refine lv_iinc (k := 2) hx hb d_Ar_fill_14 hl rfl (show nI i + Int32.ofInt 1 = nI (i + 1) from (nI_succ i).symm) (by decide) rfl (fun ls hl => ?_)
        have hl : lv_has ls 4 [(2, .int (nI (i + 1))), (0, .ref a), (1, .int v), (3, .int (nI n))] := hl
        refine lv_goto (tgt := 5) hx hb d_Ar_fill_17 (by decide) ?_
        exact ih (i + 1) ls H locs (by omega) (lv_sub hl [1, 2, 0, 3] rfl) hP hD hS
  have hP : va_P D gCl [(a, .inl (cI, n, .inl f))] s.heap := hP
  have hD : va_D A [(a, .inl (cI, n, .inl f))] := hD
  refine lv_iconst (v := 0) hx hb d_Ar_fill_0 (by decide) ?_
  refine lv_istore_n hx hb d_Ar_fill_1 rfl hl (by decide) rfl (fun ls hl => ?_)
  have hl : lv_has ls 4 [(2, .int 0), (0, .ref a), (1, .int v)] := hl
  refine lv_aload_n hx hb d_Ar_fill_2 rfl (lv_at hl 1 rfl) ?_
  refine va_alen (v := nI n) hx hb hK hP 0 0 rfl rfl rfl d_Ar_fill_3 ?_
  refine lv_istore_n hx hb d_Ar_fill_4 rfl hl (by decide) rfl (fun ls hl => ?_)
  have hl : lv_has ls 4 [(3, .int (nI n)), (2, .int 0), (0, .ref a), (1, .int v)] := hl
  exact L n 0 ls s.heap [] (by omega) (lv_sub hl [2, 3, 1, 0] rfl) (by rw [gfill_0]; exact hP) (by rw [gfill_0]; exact hD) hS
section GF
variable {p : Program} {l : Launch} {e : Env} {R : Room} {s : State} {m : MethodId} {args : Array Value} {below : List Frame} {meth : Method} {c : Code} {H H0 : Heap} {locs : List Loc} {cells slots : Nat} {Q : State → Prop}
variable {cc : ByteArray} {pc nL index : Nat} {ls : Array Slot} {rest : List Value} {D : va_G} {cI cS cZ : ClassId} {A : Nat → Prop} {own : String} {ws : va_W} {a n : Nat} {f : Nat → Int32} {v : Int32}
theorem gFill (hx : p.tables.exec = Jvm.exec) (hb : c.code = cc) (hml : c.maxLocals = nL) (hown : s.vm.findClass own = some m.cls) (hts : ∀ w ∈ lw_g, w.before args s = true) (hK : va_K D gCl (gT cI cS cZ) s) (hN : gNst s) (hA : ∀ q, H0.size ≤ q → A q) (hS : va_S A H0 H locs) (hP : va_P D gCl ws H) (hD : va_D A ws)
    (q0 : Nat) (ha : ws[q0]? = some (a, .inl (cI, n, .inl f))) (hn : n < 2 ^ 31)
    (cw : CallB R s args own index y_Ar_fill b_Ar_fill 4 none (.code y_Ar_fill b_Ar_fill 4 none :: lw_g) rm_Ar_fill 0 0 2 ∧ (Cond.static y_Ar_fill).before args s = true)
    (hls : ls.size = nL) (hroom : (rest.map fun v => v.category).sum ≤ 8) (hdg : decode cc pc = .ok (.invokestatic index, 3))
    (kk : ∀ (H1 : Heap) (locs1 : List Loc), va_P D gCl (ws.set q0 (a, .inl (cI, n, .inl (gfill n v f)))) H1 → va_D A (ws.set q0 (a, .inl (cI, n, .inl (gfill n v f)))) → va_S A H0 H1 locs1 → W p l e R s m args below meth c H1 locs1 cells slots Q (F0 m (pc + 3) ls rest)) (hc : cells ≤ R.cells := by exact Nat.zero_le _) (hs : slots ≤ R.slots := by exact Nat.zero_le _) : W p l e R s m args below meth c H locs cells slots Q (F0 m pc ls (.int v :: .ref a :: rest)) := by
  have h1 : va_P D gCl [(a, .inl (cI, n, .inl f))] H := fun k q hk => by
    have hz : k < 1 := (List.getElem?_eq_some_iff.mp hk).1
    rw [show k = 0 by omega] at hk
    cases hk
    exact hP q0 _ ha
  have d1 : va_D A [(a, .inl (cI, n, .inl f))] := ⟨fun i j x y hi hj _ => by
    have hz : i < 1 := (List.getElem?_eq_some_iff.mp hi).1
    have hz2 : j < 1 := (List.getElem?_eq_some_iff.mp hj).1
    omega, fun k q hk => by
    have hz : k < 1 := (List.getElem?_eq_some_iff.mp hk).1
    rw [show k = 0 by omega] at hk
    cases hk
    exact hD.2 q0 _ ha⟩
  have hM := c_Ar_fill l D cI cS cZ a n hn f v
  have hF := gFree (Wd := fun f : Nat → Int32 => [(a, .inl (cI, n, .inl f))]) (u := f) d1 hS hA
  refine va_callv (va_runS (g := F0 m pc ls (.int v :: .ref a :: rest)) (As := [.ref a, .int v]) (rest := rest) ⟨hx, hb, hml, hown, hts⟩ (hM H.size) cw ⟨gPreB D _ (fun f : Nat → Int32 => [(a, .inl (cI, n, .inl f))]) H.size f _, gPreAt (Wd := fun f : Nat → Int32 => [(a, .inl (cI, n, .inl f))]) hK hN h1 d1 _⟩ rfl rfl hls rfl (lv_room hroom) hdg ⟨hc, hs⟩) hS (fun q _ h => hF q h) hF (fun u1 t H1 locs1 ht hvm hp hB hz hfr hS1 => ?_)
  obtain ⟨hP1, hK1, hD1⟩ := hB
  rw [ht] at hP1
  subst hp
  refine kk H1 locs1 ?_ (hD.set ha) hS1
  have hl := (List.getElem?_eq_some_iff.mp ha).1
  intro k q hk
  by_cases hq : k = q0
  · subst hq
    rw [List.getElem?_set_self hl] at hk
    cases hk
    exact hP1 0 _ rfl
  · rw [List.getElem?_set_ne (fun h => hq h.symm)] at hk
    refine (hP k q hk).kept (hfr q.1 (hP k q hk).lt (fun h => ?_))
    rcases h with ⟨k2, e2, h⟩ | h
    · have hz2 : k2 < 1 := (List.getElem?_eq_some_iff.mp h).1
      rw [show k2 = 0 by omega] at h
      have h3 : q.1 = a := by have := Option.some.inj h; exact (congrArg Prod.fst this).symm
      exact hq (hD.1 k q0 q _ hk ha h3)
    · have := (hP k q hk).lt
      omega
end GF
-- constructors: out of the object alone a world comes, at addresses that are new
abbrev gSA : Type := (Nat → Nat) × (Nat → Int32) × (Nat → Nat → Int32)
section GQ
variable {S : Type}
def gK (l : Launch) (y : MethodName) (cc : ByteArray) (maxL : Nat) (rm : Room) (D : va_G) (tys : List (ClassId × FieldType)) (av : List Value) (w0 : va_W) (Wd : S → va_W) (post : S → Prop) (mc ms : Nat) : Prop :=
  ∀ sz : Nat, Met l y (.code y cc maxL none :: lw_g) rm (va_Pc av (fun U => U.heap.size = sz ∧ va_P D gCl w0 U.heap ∧ (va_K D gCl tys U ∧ gNst U) ∧ va_D (fun _ => True) w0)) (va_Qv post (gAt D tys Wd (va_A w0 sz)) (va_A w0 sz)) mc ms (va_A w0 sz)
theorem gK.of {l : Launch} {y : MethodName} {cc : ByteArray} {maxL : Nat} {rm : Room} {D : va_G} {tys : List (ClassId × FieldType)} {av : List Value} {w0 : va_W} {Wd : S → va_W} {post : S → Prop} {mc ms : Nat}
    (hy : plainName y.cls = true) (hlen : (lg_sl av).length ≤ maxL)
    (K : ∀ (p : Program) (e : Env) (s : State) (m : MethodId) (below : List Frame) (meth : Method) (c : Code) (Q : State → Prop) (A : Nat → Prop),
      p.tables.exec = Jvm.exec → c.code = cc → c.maxLocals = maxL → s.vm.findClass y.cls = some m.cls → (∀ w ∈ lw_g, w.before av.toArray s = true) → va_K D gCl tys s → gNst s → (∀ q, s.heap.size ≤ q → A q) → va_S A s.heap s.heap [] → va_P D gCl w0 s.heap → va_D A w0 → meth.name = y.name →
      (∀ (H : Heap) (locs : List Loc) (pc : Nat) (ls : Array Slot) (u1 : S), decode cc pc = .ok (.return_, 1) → va_P D gCl (Wd u1) H → va_D A (Wd u1) → va_S A s.heap H locs → post u1 → W p l e rm s m av.toArray below meth c H locs mc ms Q (F0 m pc ls [])) →
      ∀ ls : Array Slot, lv_has ls maxL (lv_args 0 av) → W p l e rm s m av.toArray below meth c s.heap [] 0 0 Q (F0 m 0 ls [])) : gK l y cc maxL rm D tys av w0 Wd post mc ms := by
  intro sz
  refine Met.ofW (cc := cc) (maxL := maxL) (ret := none) hy rfl ?_
  intro p e s m args below meth c s₁ B hml hv
  obtain ⟨rfl, hsz, hP, ⟨hK, hN⟩, hD0⟩ := hv
  have hts := atoms_spec (ws := Cond.code y cc maxL none :: lw_g) B.pre
  have hown : s.vm.findClass y.cls = some m.cls := findClass_of_methodNamed B.named
  subst hsz
  have hl := lv_entry av (n := maxL) hlen
  rw [lg_entry_eq]
  exact K p e s m below meth c _ (va_A w0 s.heap.size) B.exec B.bytes hml hown (fun w h => hts w (List.mem_cons_of_mem _ h)) hK hN (fun q h => Or.inr h) va_S.rf hP hD0.self (name_of_methodNamed B.named B.method).1
    (fun H locs pc ls u1 hd hP1 hD1 hS1 hp => W.vret B.exec B.bytes B.returns (fun t ht hW => ⟨⟨u1, rfl, hp, by rw [ht]; exact hP1, va_K.moved hW.alike hK, hD1⟩, hS1.F ht⟩) hS1.2.2 hd B.notSynchronized) _ hl
end GQ
theorem gPl {D : va_G} {w1 w2 : va_W} {H : Heap} (h : va_P D gCl (w1 ++ w2) H) : va_P D gCl w1 H := fun k q hk => h k q (by rw [List.getElem?_append_left (List.getElem?_eq_some_iff.mp hk).1]; exact hk)
theorem gPr {D : va_G} {w1 w2 : va_W} {H : Heap} (h : va_P D gCl (w1 ++ w2) H) : va_P D gCl w2 H := fun k q hk => h (w1.length + k) q (by rw [List.getElem?_append_right (Nat.le_add_right _ _), Nat.add_sub_cancel_left]; exact hk)
theorem gDl {A : Nat → Prop} {w1 w2 : va_W} (h : va_D A (w1 ++ w2)) : va_D A w1 := by
  have key : ∀ (k : Nat) (q : Nat × va_E), w1[k]? = some q → (w1 ++ w2)[k]? = some q := fun k q hk => by rw [List.getElem?_append_left (List.getElem?_eq_some_iff.mp hk).1]; exact hk
  exact ⟨fun i j x y hi hj e => h.1 i j x y (key i x hi) (key j y hj) e, fun k q hk => h.2 k q (key k q hk)⟩
theorem gDr {A : Nat → Prop} {w1 w2 : va_W} (h : va_D A (w1 ++ w2)) : va_D A w2 := by
  have key : ∀ (k : Nat) (q : Nat × va_E), w2[k]? = some q → (w1 ++ w2)[w1.length + k]? = some q := fun k q hk => by rw [List.getElem?_append_right (Nat.le_add_right _ _), Nat.add_sub_cancel_left]; exact hk
  refine ⟨fun i j x y hi hj e => ?_, fun k q hk => h.2 _ q (key k q hk)⟩
  have := h.1 _ _ x y (key i x hi) (key j y hj) e
  omega
theorem gDx {A : Nat → Prop} {w1 w2 : va_W} (h : va_D A (w1 ++ w2)) : ∀ (i j : Nat) (x y : Nat × va_E), w1[i]? = some x → w2[j]? = some y → x.1 ≠ y.1 := by
  intro i j x y hi hj e
  have h1 : (w1 ++ w2)[i]? = some x := by rw [List.getElem?_append_left (List.getElem?_eq_some_iff.mp hi).1]; exact hi
  have h2 : (w1 ++ w2)[w1.length + j]? = some y := by rw [List.getElem?_append_right (Nat.le_add_right _ _), Nat.add_sub_cancel_left]; exact hj
  have h3 := h.1 _ _ x y h1 h2 e
  have := (List.getElem?_eq_some_iff.mp hi).1
  omega
theorem gSwP {D : va_G} {w1 w2 : va_W} {H : Heap} (h : va_P D gCl (w1 ++ w2) H) : va_P D gCl (w2 ++ w1) H := va_P.app (gPr h) (gPl h)
theorem gSwD {A : Nat → Prop} {w1 w2 : va_W} (h : va_D A (w1 ++ w2)) : va_D A (w2 ++ w1) := va_D.app (gDr h) (gDl h) (fun i j x y hx hy e => gDx h j i y x hy hx e.symm)
/-- behind a call: the rest of the world stays, the callee's part is new -/
theorem gJoin {A : Nat → Prop} {D : va_G} {wr w0 w1 : va_W} {H H1 : Heap} (hP : va_P D gCl (wr ++ w0) H) (hD : va_D A (wr ++ w0)) (hfr : ∀ q : Nat, q < H.size → ¬ va_A w0 H.size q → H1[q]? = H[q]?) (hF : ∀ q, va_A w0 H.size q → A q) (hP1 : va_P D gCl w1 H1) (hD1 : va_D (va_A w0 H.size) w1) : va_P D gCl (wr ++ w1) H1 ∧ va_D A (wr ++ w1) := by
  have hPr := gPl hP
  have out : ∀ (k : Nat) (q : Nat × va_E), wr[k]? = some q → q.1 < H.size ∧ ¬ va_A w0 H.size q.1 := by
    intro k q hk
    have hlt := (hPr k q hk).lt
    refine ⟨hlt, fun h => ?_⟩
    rcases h with ⟨j, e, h⟩ | h
    · exact gDx hD k j q (q.1, e) hk h rfl
    · omega
  refine ⟨va_P.app (fun k q hk => (hPr k q hk).kept (hfr q.1 (out k q hk).1 (out k q hk).2)) hP1, va_D.app (gDl hD) (hD1.weaken (fun k q _ h => hF q.1 h)) (fun i j x y hx hy hxy => ?_)⟩
  exact (out i x hx).2 (by rw [hxy]; exact hD1.2 j y hy)
section GR
variable {p : Program} {l : Launch} {e : Env} {R : Room} {s : State} {m : MethodId} {args : Array Value} {below : List Frame} {meth : Method} {c : Code} {H H0 : Heap} {locs : List Loc} {cells slots : Nat} {Q : State → Prop}
variable {cc bytes : ByteArray} {pc nL n index maxL mc ms : Nat} {ls : Array Slot} {rest st0 As : List Value} {D : va_G} {tys : List (ClassId × FieldType)} {A : Nat → Prop} {own C host : String} {y : MethodName} {ty : FieldType} {rm : Room} {b : Nat} {S : Type} {Wd : S → va_W} {u : S} {wr w0 : va_W}
theorem gFree0 (hD : va_D A w0) (hS : va_S A H0 H locs) (hA : ∀ q, H0.size ≤ q → A q) : ∀ q, va_A w0 H.size q → A q := by
  intro q h
  rcases h with ⟨k, e, h⟩ | h
  · exact hD.2 k (q, e) h
  · exact hA q (Nat.le_trans hS.1 h)
/-- a constructor's call; the object is the last cell of the world -/
theorem gCallK {post : S → Prop} (hM : gK l y bytes maxL rm D tys (.ref b :: As) w0 Wd post mc ms) (hx : p.tables.exec = Jvm.exec) (hb : c.code = cc) (hml : c.maxLocals = nL) (hown : s.vm.findClass own = some m.cls) (hts : ∀ w ∈ lw_g, w.before args s = true) (hK : va_K D gCl tys s) (hN : gNst s) (hA : ∀ q, H0.size ≤ q → A q) (hS : va_S A H0 H locs) (hP : va_P D gCl (wr ++ w0) H) (hD : va_D A (wr ++ w0))
    (cw : CallB R s args own index y bytes maxL none (.code y bytes maxL none :: lw_g) rm mc ms n ∧ y.name = "<init>" ∧ (Cond.instanceMethod y).before args s = true)
    (hn : As.length = n) (hls : ls.size = nL) (hst : st0 = As.reverse ++ .ref b :: rest) (hroom : (rest.map fun v => v.category).sum ≤ 8) (hdg : decode cc pc = .ok (.invokespecial index, 3)) (hc : cells + mc ≤ R.cells ∧ slots + ms ≤ R.slots)
    (kk : ∀ (u1 : S) (H1 : Heap) (locs1 : List Loc), post u1 → va_P D gCl (wr ++ Wd u1) H1 → va_D A (wr ++ Wd u1) → va_S A H0 H1 locs1 → W p l e R s m args below meth c H1 locs1 (cells + mc) (slots + ms) Q (F0 m (pc + 3) ls rest)) : W p l e R s m args below meth c H locs cells slots Q (F0 m pc ls st0) := by
  have hF := gFree0 (gDr hD) hS hA
  refine va_callv (va_runI (g := F0 m pc ls st0) ⟨hx, hb, hml, hown, hts⟩ (hM H.size) cw ⟨fun a U g mk q => by obtain ⟨q0, q1, qP, ⟨qK, qN⟩, qD⟩ := q; exact ⟨q0, q1, qP, ⟨va_K.moved (u := U) (U := U.calling g mk a) (Vm.Alike.refl U.vm) qK, gNst.same (u := U) (U := U.calling g mk a) rfl qN⟩, qD⟩, fun U hU hW => ⟨rfl, by rw [hU], by rw [hU]; exact gPr hP, ⟨va_K.moved hW.alike hK, gNst.warm hW hN⟩, (gDr hD).weaken (fun _ _ _ _ => trivial)⟩⟩ rfl hn hls hst (lv_room hroom) hdg hc) hS (fun q _ h => hF q h) hF (fun u1 t H1 locs1 ht hvm hp hB hz hfr hS1 => ?_)
  obtain ⟨hP1, hK1, hD1⟩ := hB
  rw [ht] at hP1
  obtain ⟨h1, h2⟩ := gJoin hP hD hfr hF hP1 hD1
  exact kk u1 H1 locs1 hp h1 h2 hS1
/-- the same of a hidden constructor of a nest mate -/
theorem gCallKN {post : S → Prop} (hM : gK l y bytes maxL rm D tys (.ref b :: As) w0 Wd post mc ms) (hx : p.tables.exec = Jvm.exec) (hb : c.code = cc) (hml : c.maxLocals = nL) (hown : s.vm.findClass own = some m.cls) (hts : ∀ w ∈ lw_g, w.before args s = true) (hK : va_K D gCl tys s) (hN : gNst s) (hA : ∀ q, H0.size ≤ q → A q) (hS : va_S A H0 H locs) (hP : va_P D gCl (wr ++ w0) H) (hD : va_D A (wr ++ w0))
    (cw : va_CN R s args own index y host bytes maxL none (.code y bytes maxL none :: lw_g) rm mc ms n ∧ y.name = "<init>" ∧ (Cond.instanceMethod y).before args s = true)
    (hn : As.length = n) (hls : ls.size = nL) (hst : st0 = As.reverse ++ .ref b :: rest) (hroom : (rest.map fun v => v.category).sum ≤ 8) (hdg : decode cc pc = .ok (.invokespecial index, 3)) (hc : cells + mc ≤ R.cells ∧ slots + ms ≤ R.slots)
    (kk : ∀ (u1 : S) (H1 : Heap) (locs1 : List Loc), post u1 → va_P D gCl (wr ++ Wd u1) H1 → va_D A (wr ++ Wd u1) → va_S A H0 H1 locs1 → W p l e R s m args below meth c H1 locs1 (cells + mc) (slots + ms) Q (F0 m (pc + 3) ls rest)) : W p l e R s m args below meth c H locs cells slots Q (F0 m pc ls st0) := by
  have hF := gFree0 (gDr hD) hS hA
  refine va_callv (va_runIN (g := F0 m pc ls st0) ⟨hx, hb, hml, hown, hts⟩ (hM H.size) cw ⟨fun a U g mk q => by obtain ⟨q0, q1, qP, ⟨qK, qN⟩, qD⟩ := q; exact ⟨q0, q1, qP, ⟨va_K.moved (u := U) (U := U.calling g mk a) (Vm.Alike.refl U.vm) qK, gNst.same (u := U) (U := U.calling g mk a) rfl qN⟩, qD⟩, fun U hU hW => ⟨rfl, by rw [hU], by rw [hU]; exact gPr hP, ⟨va_K.moved hW.alike hK, gNst.warm hW hN⟩, (gDr hD).weaken (fun _ _ _ _ => trivial)⟩⟩ rfl hn hls hst (lv_room hroom) hdg hc) hS (fun q _ h => hF q h) hF (fun u1 t H1 locs1 ht hvm hp hB hz hfr hS1 => ?_)
  obtain ⟨hP1, hK1, hD1⟩ := hB
  rw [ht] at hP1
  obtain ⟨h1, h2⟩ := gJoin hP hD hfr hF hP1 hD1
  exact kk u1 H1 locs1 hp h1 h2 hS1
/-- calls beside a part of the world that stays: the law's own -/
theorem gCallVi2 {post : Int32 → S → Prop} (hM : gMi l y bytes maxL ty rm D tys Wd (.ref b :: As) u post) (hx : p.tables.exec = Jvm.exec) (hb : c.code = cc) (hml : c.maxLocals = nL) (hown : s.vm.findClass own = some m.cls) (hts : ∀ w ∈ lw_g, w.before args s = true) (hK : va_K D gCl tys s) (hN : gNst s) (hA : ∀ q, H0.size ≤ q → A q) (hS : va_S A H0 H locs) (hP : va_P D gCl (wr ++ Wd u) H) (hD : va_D A (wr ++ Wd u))
    (cw : CallW R s args own C index y bytes maxL (some ty) (.code y bytes maxL (some ty) :: lw_g) rm 0 0 n) (hrecv : ∃ cell : Cell, H[b]? = some cell ∧ cell.vm.isStatics = false ∧ s.vm.findClass C = some cell.cls)
    (hn : As.length = n) (hls : ls.size = nL) (hst : st0 = As.reverse ++ .ref b :: rest) (hroom : (rest.map fun v => v.category).sum ≤ 8) (hdg : decode cc pc = .ok (.invokevirtual index, 3)) (hc : cells ≤ R.cells) (hs : slots ≤ R.slots)
    (kk : ∀ (r : Int32) (u1 : S) (H1 : Heap) (locs1 : List Loc), post r u1 → va_P D gCl (wr ++ Wd u1) H1 → va_D A (wr ++ Wd u1) → va_S A H0 H1 locs1 → W p l e R s m args below meth c H1 locs1 cells slots Q (F0 m (pc + 3) ls (.int r :: rest))) : W p l e R s m args below meth c H locs cells slots Q (F0 m pc ls st0) := by
  have hF := gFree (gDr hD) hS hA
  refine va_calli (va_runV (g := F0 m pc ls st0) ⟨hx, hb, hml, hown, hts⟩ (hM H.size) cw ⟨gPreB D tys Wd H.size u _, hrecv, gPreAt hK hN (gPr hP) (gDr hD) _⟩ rfl hn hls hst (lv_room hroom) hdg ⟨hc, hs⟩) hS (fun q _ h => hF q h) hF (fun r u1 t H1 locs1 ht hvm hp hB hz hfr hS1 => ?_)
  obtain ⟨hP1, hK1, hD1⟩ := hB
  rw [ht] at hP1
  obtain ⟨h1, h2⟩ := gJoin hP hD hfr hF hP1 hD1
  exact kk r u1 H1 locs1 hp h1 h2 hS1
theorem gCallVv2 {post : S → Prop} (hM : gMv l y bytes maxL rm D tys Wd (.ref b :: As) u post) (hx : p.tables.exec = Jvm.exec) (hb : c.code = cc) (hml : c.maxLocals = nL) (hown : s.vm.findClass own = some m.cls) (hts : ∀ w ∈ lw_g, w.before args s = true) (hK : va_K D gCl tys s) (hN : gNst s) (hA : ∀ q, H0.size ≤ q → A q) (hS : va_S A H0 H locs) (hP : va_P D gCl (wr ++ Wd u) H) (hD : va_D A (wr ++ Wd u))
    (cw : CallW R s args own C index y bytes maxL none (.code y bytes maxL none :: lw_g) rm 0 0 n) (hrecv : ∃ cell : Cell, H[b]? = some cell ∧ cell.vm.isStatics = false ∧ s.vm.findClass C = some cell.cls)
    (hn : As.length = n) (hls : ls.size = nL) (hst : st0 = As.reverse ++ .ref b :: rest) (hroom : (rest.map fun v => v.category).sum ≤ 8) (hdg : decode cc pc = .ok (.invokevirtual index, 3)) (hc : cells ≤ R.cells) (hs : slots ≤ R.slots)
    (kk : ∀ (u1 : S) (H1 : Heap) (locs1 : List Loc), post u1 → va_P D gCl (wr ++ Wd u1) H1 → va_D A (wr ++ Wd u1) → va_S A H0 H1 locs1 → W p l e R s m args below meth c H1 locs1 cells slots Q (F0 m (pc + 3) ls rest)) : W p l e R s m args below meth c H locs cells slots Q (F0 m pc ls st0) := by
  have hF := gFree (gDr hD) hS hA
  refine va_callv (va_runV (g := F0 m pc ls st0) ⟨hx, hb, hml, hown, hts⟩ (hM H.size) cw ⟨gPreB D tys Wd H.size u _, hrecv, gPreAt hK hN (gPr hP) (gDr hD) _⟩ rfl hn hls hst (lv_room hroom) hdg ⟨hc, hs⟩) hS (fun q _ h => hF q h) hF (fun u1 t H1 locs1 ht hvm hp hB hz hfr hS1 => ?_)
  obtain ⟨hP1, hK1, hD1⟩ := hB
  rw [ht] at hP1
  obtain ⟨h1, h2⟩ := gJoin hP hD hfr hF hP1 hD1
  exact kk u1 H1 locs1 hp h1 h2 hS1
end GR
end
section
def xW (cI cS cZ : ClassId) (ad : Nat → Nat) (wc wb : Nat) (kp tp : Nat → Nat) (σ : Nat → Int32) (α : Nat → Nat → Int32) : va_W := [(ad 0, .inr (0, [.ref (ad 1), .ref (ad 4), .ref (ad 6), .ref (ad 8), .ref (ad 12), .ref (kp 0), .ref (tp 0)])), (ad 1, .inr (1, [.ref (ad 2), .ref (ad 3)])), (ad 2, .inl (cI, 64, .inl (α 2))), (ad 3, .inl (cS, 132, .inl (α 3))), (ad 4, .inr (2, [.ref (ad 5), .int (σ 0), .int (σ 1), .int (σ 2), .int (σ 3), .int (σ 4)])), (ad 5, .inl (cS, 48, .inl (α 5))), (ad 6, .inr (3, [.ref (ad 7), .int (σ 5), .int (σ 6)])), (ad 7, .inl (cS, 60, .inl (α 7))), (ad 8, .inr (4, [.ref (ad 1), .ref (ad 4), .ref (ad 6), .ref (ad 9), .ref (wc), .ref (wb), .int (σ 7), .int (σ 8), .int (σ 9), .int (σ 10), .int (σ 11), .int (σ 12), .int (σ 13), .int (σ 14)])), (ad 9, .inr (5, [.int (σ 15), .int (σ 16), .int (σ 17)])), (wc, .inr (6, [.int (σ 18), .int (σ 19), .int (σ 20), .int (σ 21), .int (σ 22)])), (wb, .inr (6, [.int (σ 23), .int (σ 24), .int (σ 25), .int (σ 26), .int (σ 27)])), (ad 12, .inr (7, [.ref (ad 13), .ref (ad 14), .ref (ad 15), .ref (ad 16), .ref (ad 17), .int (σ 28)])), (ad 13, .inl (cI, 12, .inl (α 13))), (ad 14, .inl (cI, 12, .inl (α 14))), (ad 15, .inl (cI, 12, .inl (α 15))), (ad 16, .inl (cI, 12, .inl (α 16))), (ad 17, .inl (cI, 12, .inl (α 17))), (kp 0, .inr (8, [.ref (kp 1), .ref (kp 2), .ref (kp 3), .ref (kp 4), .ref (kp 5), .int (σ 29), .int (σ 30), .int (σ 31), .int (σ 32)])), (kp 1, .inl (cI, 64, .inl (α 19))), (kp 2, .inl (cI, 32, .inl (α 20))), (kp 3, .inl (cI, 16, .inl (α 21))), (kp 4, .inl (cI, 12, .inl (α 22))), (kp 5, .inl (cI, 12, .inl (α 23))), (tp 0, .inr (8, [.ref (tp 1), .ref (tp 2), .ref (tp 3), .ref (tp 4), .ref (tp 5), .int (σ 33), .int (σ 34), .int (σ 35), .int (σ 36)])), (tp 1, .inl (cI, 64, .inl (α 25))), (tp 2, .inl (cI, 32, .inl (α 26))), (tp 3, .inl (cI, 16, .inl (α 27))), (tp 4, .inl (cI, 12, .inl (α 28))), (tp 5, .inl (cI, 12, .inl (α 29)))]
def mW (cI cS cZ : ClassId) (ad : Nat → Nat) (σ : Nat → Int32) (α : Nat → Nat → Int32) : va_W := [(ad 0, .inr (9, [.ref (ad 1), .ref (ad 2), .int (σ 0), .int (σ 1), .int (σ 2), .int (σ 3), .int (σ 4), .int (σ 5), .int (σ 6), .int (σ 7), .int (σ 8), .int (σ 9), .int (σ 10), .int (σ 11), .int (σ 12), .int (σ 13), .int (σ 14), .int (σ 15), .int (σ 16), .int (σ 17), .int (σ 18), .ref (ad 3), .ref (ad 4), .int (σ 19), .int (σ 20), .int (σ 21), .ref (ad 5), .int (σ 22), .int (σ 23), .ref (ad 6), .ref (ad 7), .ref (ad 8), .ref (ad 9), .ref (ad 10), .int (σ 24), .ref (ad 11), .ref (ad 12), .ref (ad 13), .ref (ad 14), .ref (ad 15), .ref (ad 16), .ref (ad 17), .ref (ad 18), .ref (ad 19), .int (σ 25), .ref (ad 20), .ref (ad 21)])), (ad 1, .inl (cI, 64, .inl (α 1))), (ad 2, .inl (cS, 132, .inl (α 2))), (ad 3, .inl (cS, 48, .inl (α 3))), (ad 4, .inl (cS, 12, .inl (α 4))), (ad 5, .inl (cS, 60, .inl (α 5))), (ad 6, .inl (cI, 12, .inl (α 6))), (ad 7, .inl (cI, 12, .inl (α 7))), (ad 8, .inl (cI, 12, .inl (α 8))), (ad 9, .inl (cI, 12, .inl (α 9))), (ad 10, .inl (cI, 12, .inl (α 10))), (ad 11, .inl (cI, 64, .inl (α 11))), (ad 12, .inl (cI, 64, .inl (α 12))), (ad 13, .inl (cI, 64, .inl (α 13))), (ad 14, .inl (cI, 64, .inl (α 14))), (ad 15, .inl (cI, 64, .inl (α 15))), (ad 16, .inl (cI, 64, .inl (α 16))), (ad 17, .inl (cZ, 64, .inl (α 17))), (ad 18, .inl (cZ, 32, .inl (α 18))), (ad 19, .inl (cI, 16, .inl (α 19))), (ad 20, .inl (cI, 12, .inl (α 20))), (ad 21, .inl (cI, 16, .inl (α 21)))]
def wp_St_orderSpot_J39 (σ : Nat → Int32) (α : Nat → Nat → Int32) (t0 : Int32) (post : Int32 → gS → Prop) : Prop := post t0 (σ, α)
def wp_St_orderSpot_J24 (σ : Nat → Int32) (α : Nat → Nat → Int32) (a0 : Int32) (a1 : Int32) (t0 : Int32) (post : Int32 → gS → Prop) : Prop := (t0 = 0 → wp_St_orderSpot_J39 σ α (-1 : Int32) post) ∧ (¬ t0 = 0 → wp_St_orderSpot_J39 σ α ((a0 * (32 : Int32)) + a1) post)
def wp_St_orderSpot_J23 (σ : Nat → Int32) (α : Nat → Nat → Int32) (a0 : Int32) (a1 : Int32) (post : Int32 → gS → Prop) : Prop := wp_St_orderSpot_J24 σ α a0 a1 (0 : Int32) post
def wp_St_orderSpot (σ : Nat → Int32) (α : Nat → Nat → Int32) (x0 : Int32) (x1 : Int32) (post : Int32 → gS → Prop) : Prop := (x0 < 0 → wp_St_orderSpot_J23 σ α x0 x1 post) ∧ (¬ x0 < 0 → ((2 : Int32) ≤ x0 → wp_St_orderSpot_J23 σ α x0 x1 post) ∧ (¬ (2 : Int32) ≤ x0 → (x1 < 0 → wp_St_orderSpot_J23 σ α x0 x1 post) ∧ (¬ x1 < 0 → ((32 : Int32) ≤ x1 → wp_St_orderSpot_J23 σ α x0 x1 post) ∧ (¬ (32 : Int32) ≤ x1 → wp_St_orderSpot_J24 σ α x0 x1 (1 : Int32) post))))
def wp_Dm_order_J22 (σ : Nat → Int32) (α : Nat → Nat → Int32) (post : Int32 → gS → Prop) : Prop := post (0 : Int32) (σ, α)
def wp_Dm_order (σ : Nat → Int32) (α : Nat → Nat → Int32) (x1 : Int32) (x2 : Int32) (x3 : Int32) (post : Int32 → gS → Prop) : Prop := wp_St_orderSpot σ α x1 x2 (fun (r2 : Int32) (u2 : gS) => (r2 < 0 → wp_Dm_order_J22 u2.1 u2.2 post) ∧ (¬ r2 < 0 → (x3 < 0 → wp_Dm_order_J22 u2.1 u2.2 post) ∧ (¬ x3 < 0 → (x3 ≤ (2097151 : Int32) → vp_in r2 64 ∧ (post (1 : Int32) (u2.1, (va_up u2.2 2 (upd (u2.2 2) r2.toNatClampNeg x3))))) ∧ (¬ x3 ≤ (2097151 : Int32) → wp_Dm_order_J22 u2.1 u2.2 post))))
def wp_St_placesOf_J38 (σ : Nat → Int32) (α : Nat → Nat → Int32) (t0 : Int32) (post : Int32 → gS → Prop) : Prop := post t0 (σ, α)
def wp_St_placesOf_J25 (σ : Nat → Int32) (α : Nat → Nat → Int32) (post : Int32 → gS → Prop) : Prop := post (1 : Int32) (σ, α)
def wp_St_placesOf_J13 (σ : Nat → Int32) (α : Nat → Nat → Int32) (a0 : Int32) (post : Int32 → gS → Prop) : Prop := (a0 = (6 : Int32) → wp_St_placesOf_J25 σ α post) ∧ (¬ a0 = (6 : Int32) → (¬ a0 = (7 : Int32) → (¬ a0 = (8 : Int32) → wp_St_placesOf_J38 σ α (0 : Int32) post) ∧ (a0 = (8 : Int32) → wp_St_placesOf_J38 σ α (2 : Int32) post)) ∧ (a0 = (7 : Int32) → wp_St_placesOf_J25 σ α post))
def wp_St_placesOf (σ : Nat → Int32) (α : Nat → Nat → Int32) (x0 : Int32) (post : Int32 → gS → Prop) : Prop := (x0 < (2 : Int32) → wp_St_placesOf_J13 σ α x0 post) ∧ (¬ x0 < (2 : Int32) → ((5 : Int32) < x0 → wp_St_placesOf_J13 σ α x0 post) ∧ (¬ (5 : Int32) < x0 → post (32 : Int32) (σ, α)))
def wp_St_firstSpot (σ : Nat → Int32) (α : Nat → Nat → Int32) (x0 : Int32) (post : Int32 → gS → Prop) : Prop := (x0 = 6 → post (128 : Int32) (σ, α)) ∧ (x0 = 7 → post (129 : Int32) (σ, α)) ∧ (x0 = 8 → post (130 : Int32) (σ, α)) ∧ (x0.toInt < 6 ∨ 8 < x0.toInt → post ((x0 - (2 : Int32)) * (32 : Int32)) (σ, α))
def wp_St_wordSpot_J22 (σ : Nat → Int32) (α : Nat → Nat → Int32) (t0 : Int32) (post : Int32 → gS → Prop) : Prop := post t0 (σ, α)
def wp_St_wordSpot_J21 (σ : Nat → Int32) (α : Nat → Nat → Int32) (post : Int32 → gS → Prop) : Prop := wp_St_wordSpot_J22 σ α (-1 : Int32) post
def wp_St_wordSpot (σ : Nat → Int32) (α : Nat → Nat → Int32) (x0 : Int32) (x1 : Int32) (post : Int32 → gS → Prop) : Prop := (x1 < 0 → wp_St_wordSpot_J21 σ α post) ∧ (¬ x1 < 0 → wp_St_placesOf σ α x0 (fun (r6 : Int32) (u6 : gS) => (r6 ≤ x1 → wp_St_wordSpot_J21 u6.1 u6.2 post) ∧ (¬ r6 ≤ x1 → wp_St_firstSpot u6.1 u6.2 x0 (fun (r13 : Int32) (u13 : gS) => wp_St_wordSpot_J22 u13.1 u13.2 (r13 + x1) post))))
def wp_Dm_word (σ : Nat → Int32) (α : Nat → Nat → Int32) (x1 : Int32) (x2 : Int32) (x3 : Int32) (post : Int32 → gS → Prop) : Prop := wp_St_wordSpot σ α x1 x2 (fun (r2 : Int32) (u2 : gS) => (0 ≤ r2 → vp_in r2 132 ∧ (post (1 : Int32) (u2.1, (va_up u2.2 3 (upd (u2.2 3) r2.toNatClampNeg (vp_nar .short x3)))))) ∧ (¬ 0 ≤ r2 → post (0 : Int32) (u2.1, u2.2)))
def wp_Rd_addRow (σ : Nat → Int32) (α : Nat → Nat → Int32) (x1 : Int32) (post : Int32 → gS → Prop) : Prop := ((σ 0) < (48 : Int32) → vp_in (σ 0) 48 ∧ (post (1 : Int32) ((va_up σ 0 ((σ 0) + (1 : Int32))), (va_up α 5 (upd (α 5) (σ 0).toNatClampNeg (vp_nar .short x1)))))) ∧ (¬ (σ 0) < (48 : Int32) → post (0 : Int32) (σ, α))
def wp_Dm_card (σ : Nat → Int32) (α : Nat → Nat → Int32) (x1 : Int32) (post : Int32 → gS → Prop) : Prop := wp_Rd_addRow σ α x1 (fun (r5 : Int32) (u5 : gS) => narrow .boolean (.int r5) = .int r5 ∧ (post r5 (u5.1, u5.2)))
def wp_Wi_close_10 (σ : Nat → Int32) (α : Nat → Nat → Int32) (post : gS → Prop) : Prop := post ((va_up (va_up σ 20 (1 : Int32)) 21 (0 : Int32)), α)
def wp_Wi_close_11 (σ : Nat → Int32) (α : Nat → Nat → Int32) (post : gS → Prop) : Prop := post ((va_up (va_up σ 25 (1 : Int32)) 26 (0 : Int32)), α)
def wp_Mu_rest (σ : Nat → Int32) (α : Nat → Nat → Int32) (post : gS → Prop) : Prop := post ((va_up σ 16 (0 : Int32)), α)
def wp_Rd_rest (σ : Nat → Int32) (α : Nat → Nat → Int32) (post : gS → Prop) : Prop := post ((va_up (va_up σ 2 (0 : Int32)) 4 (0 : Int32)), α)
def wp_Mc_begin (σ : Nat → Int32) (α : Nat → Nat → Int32) (x1 : Int32) (x2 : Int32) (post : gS → Prop) : Prop := wp_Wi_close_10 (va_up (va_up (va_up (va_up (va_up (va_up (va_up σ 7 (1 : Int32)) 8 (0 : Int32)) 10 x1) 11 ((σ 9) + ((x2 - (σ 9)) &&& (31 : Int32)))) 12 (-1 : Int32)) 13 (-1 : Int32)) 14 (0 : Int32)) α (fun (u52 : gS) => wp_Wi_close_11 u52.1 u52.2 (fun (u59 : gS) => wp_Mu_rest u59.1 u59.2 (fun (u66 : gS) => wp_Rd_rest u66.1 u66.2 (fun (u73 : gS) => post (u73.1, u73.2)))))
def wp_Dm_start (σ : Nat → Int32) (α : Nat → Nat → Int32) (x1 : Int32) (x2 : Int32) (post : Int32 → gS → Prop) : Prop := wp_St_orderSpot σ α x1 x2 (fun (r2 : Int32) (u2 : gS) => (0 ≤ r2 → wp_Mc_begin u2.1 u2.2 x1 x2 (fun (u16 : gS) => post (1 : Int32) (u16.1, u16.2))) ∧ (¬ 0 ≤ r2 → post (0 : Int32) (u2.1, u2.2)))
def wp_Wi_lastOf_10_J28 (σ : Nat → Int32) (α : Nat → Nat → Int32) (t0 : Int32) (post : Int32 → gS → Prop) : Prop := post t0 (σ, α)
def wp_Wi_lastOf_10 (σ : Nat → Int32) (α : Nat → Nat → Int32) (x1 : Int32) (post : Int32 → gS → Prop) : Prop := (¬ x1 = (2 : Int32) → (¬ x1 = (1 : Int32) → wp_Wi_lastOf_10_J28 σ α (σ 20) post) ∧ (x1 = (1 : Int32) → wp_Wi_lastOf_10_J28 σ α ((σ 20) + (1 : Int32)) post)) ∧ (x1 = (2 : Int32) → post (σ 22) (σ, α))
def wp_Wi_open_10_J51 (σ : Nat → Int32) (α : Nat → Nat → Int32) (a1 : Int32) (a2 : Int32) (a3 : Int32) (t0 : Int32) (post : gS → Prop) : Prop := wp_Wi_lastOf_10 (va_up (va_up σ 20 ((a2 + (2 : Int32)) + a3)) 22 ((a2 + (2 : Int32)) + t0)) α ((a1 >>> ((8 : Int32) &&& 31)) &&& (3 : Int32)) (fun (r80 : Int32) (u80 : gS) => post ((va_up u80.1 21 r80), u80.2))
def wp_Wi_open_10 (σ : Nat → Int32) (α : Nat → Nat → Int32) (x1 : Int32) (x2 : Int32) (post : gS → Prop) : Prop := (((x1 >>> ((10 : Int32) &&& 31)) &&& (31 : Int32)) ≤ ((x1 >>> ((15 : Int32) &&& 31)) &&& (31 : Int32)) → wp_Wi_open_10_J51 (va_up (va_up σ 18 (x1 &&& (15 : Int32))) 19 ((x1 >>> ((4 : Int32) &&& 31)) &&& (15 : Int32))) α x1 x2 ((x1 >>> ((10 : Int32) &&& 31)) &&& (31 : Int32)) ((x1 >>> ((15 : Int32) &&& 31)) &&& (31 : Int32)) post) ∧ (¬ ((x1 >>> ((10 : Int32) &&& 31)) &&& (31 : Int32)) ≤ ((x1 >>> ((15 : Int32) &&& 31)) &&& (31 : Int32)) → wp_Wi_open_10_J51 (va_up (va_up σ 18 (x1 &&& (15 : Int32))) 19 ((x1 >>> ((4 : Int32) &&& 31)) &&& (15 : Int32))) α x1 x2 ((x1 >>> ((10 : Int32) &&& 31)) &&& (31 : Int32)) (((x1 >>> ((15 : Int32) &&& 31)) &&& (31 : Int32)) + (32 : Int32)) post)
def wp_Mc_takeOrder (wc : Nat) (wb : Nat) (σ : Nat → Int32) (α : Nat → Nat → Int32) (post : gSW → Prop) : Prop := vp_in (((σ 10) * (32 : Int32)) + ((σ 9) &&& (31 : Int32))) 64 ∧ (wp_Wi_open_10 (va_up (va_up (va_up (va_up (va_up (va_up (va_up (va_up (va_up (va_up (va_up (va_up (va_up σ 12 (σ 10)) 13 ((σ 9) &&& (31 : Int32))) 14 ((σ 14) + (1 : Int32))) 18 (σ 23)) 19 (σ 24)) 20 (σ 25)) 21 (σ 26)) 22 (σ 27)) 23 (σ 18)) 24 (σ 19)) 25 (σ 20)) 26 (σ 21)) 27 (σ 22)) α (α 2 (((σ 10) * (32 : Int32)) + ((σ 9) &&& (31 : Int32))).toNatClampNeg) (σ 9) (fun (u77 : gS) => post (wb, wc, (va_up (va_up u77.1 10 (((α 2 (((σ 10) * (32 : Int32)) + ((σ 9) &&& (31 : Int32))).toNatClampNeg) >>> ((20 : Int32) &&& 31)) &&& (1 : Int32))) 11 (u77.1 22)), u77.2)))
def wp_Wi_covers_11_J21 (σ : Nat → Int32) (α : Nat → Nat → Int32) (t0 : Int32) (post : Int32 → gS → Prop) : Prop := narrow .boolean (.int t0) = .int t0 ∧ (post t0 (σ, α))
def wp_Wi_covers_11_J20 (σ : Nat → Int32) (α : Nat → Nat → Int32) (post : Int32 → gS → Prop) : Prop := wp_Wi_covers_11_J21 σ α (0 : Int32) post
def wp_Wi_covers_11 (σ : Nat → Int32) (α : Nat → Nat → Int32) (x1 : Int32) (post : Int32 → gS → Prop) : Prop := (x1 < (σ 25) → wp_Wi_covers_11_J20 σ α post) ∧ (¬ x1 < (σ 25) → ((σ 26) < x1 → wp_Wi_covers_11_J20 σ α post) ∧ (¬ (σ 26) < x1 → wp_Wi_covers_11_J21 σ α (1 : Int32) post))
def wp_Wi_covers_10_J21 (σ : Nat → Int32) (α : Nat → Nat → Int32) (t0 : Int32) (post : Int32 → gS → Prop) : Prop := narrow .boolean (.int t0) = .int t0 ∧ (post t0 (σ, α))
def wp_Wi_covers_10_J20 (σ : Nat → Int32) (α : Nat → Nat → Int32) (post : Int32 → gS → Prop) : Prop := wp_Wi_covers_10_J21 σ α (0 : Int32) post
def wp_Wi_covers_10 (σ : Nat → Int32) (α : Nat → Nat → Int32) (x1 : Int32) (post : Int32 → gS → Prop) : Prop := (x1 < (σ 20) → wp_Wi_covers_10_J20 σ α post) ∧ (¬ x1 < (σ 20) → ((σ 21) < x1 → wp_Wi_covers_10_J20 σ α post) ∧ (¬ (σ 21) < x1 → wp_Wi_covers_10_J21 σ α (1 : Int32) post))
def wp_Rd_offset_J50 (σ : Nat → Int32) (α : Nat → Nat → Int32) (t0 : Int32) (post : Int32 → gS → Prop) : Prop := post t0 (σ, α)
def wp_Rd_offset_J49 (σ : Nat → Int32) (α : Nat → Nat → Int32) (post : Int32 → gS → Prop) : Prop := wp_Rd_offset_J50 σ α (-1 : Int32) post
def wp_Rd_offset_J33 (σ : Nat → Int32) (α : Nat → Nat → Int32) (a2 : Int32) (t0 : Int32) (post : Int32 → gS → Prop) : Prop := ((σ 2) = 0 → wp_Rd_offset_J49 σ α post) ∧ (¬ (σ 2) = 0 → (t0 = 0 → wp_Rd_offset_J49 σ α post) ∧ (¬ t0 = 0 → wp_Rd_offset_J50 σ α a2 post))
def wp_Rd_offset_J32 (σ : Nat → Int32) (α : Nat → Nat → Int32) (a2 : Int32) (post : Int32 → gS → Prop) : Prop := wp_Rd_offset_J33 σ α a2 (0 : Int32) post
def wp_Rd_offset (σ : Nat → Int32) (α : Nat → Nat → Int32) (x1 : Int32) (post : Int32 → gS → Prop) : Prop := (((x1 - (σ 3)) - (40 : Int32)) < 0 → wp_Rd_offset_J32 σ α ((x1 - (σ 3)) - (40 : Int32)) post) ∧ (¬ ((x1 - (σ 3)) - (40 : Int32)) < 0 → ((90 : Int32) < ((x1 - (σ 3)) - (40 : Int32)) → wp_Rd_offset_J32 σ α ((x1 - (σ 3)) - (40 : Int32)) post) ∧ (¬ (90 : Int32) < ((x1 - (σ 3)) - (40 : Int32)) → ((3 : Int32) ≤ (((x1 - (σ 3)) - (40 : Int32)) - ((x1 - (σ 3)) - (40 : Int32)) / (8 : Int32) * (8 : Int32)) → wp_Rd_offset_J32 σ α ((x1 - (σ 3)) - (40 : Int32)) post) ∧ (¬ (3 : Int32) ≤ (((x1 - (σ 3)) - (40 : Int32)) - ((x1 - (σ 3)) - (40 : Int32)) / (8 : Int32) * (8 : Int32)) → wp_Rd_offset_J33 σ α ((x1 - (σ 3)) - (40 : Int32)) (1 : Int32) post)))
def wp_Rd_moveRow (σ : Nat → Int32) (α : Nat → Nat → Int32) (x1 : Int32) (post : Int32 → gS → Prop) : Prop := wp_Rd_offset σ α x1 (fun (r2 : Int32) (u2 : gS) => (0 ≤ r2 → vp_in (((u2.1 1) - (12 : Int32)) + (r2 / (8 : Int32))) 48 ∧ (narrow .short (.int (u2.2 5 (((u2.1 1) - (12 : Int32)) + (r2 / (8 : Int32))).toNatClampNeg)) = .int (u2.2 5 (((u2.1 1) - (12 : Int32)) + (r2 / (8 : Int32))).toNatClampNeg) ∧ (post (u2.2 5 (((u2.1 1) - (12 : Int32)) + (r2 / (8 : Int32))).toNatClampNeg) ((va_up u2.1 4 (1 : Int32)), u2.2)))) ∧ (¬ 0 ≤ r2 → post (0 : Int32) (u2.1, u2.2)))
def wp_St_presentedSpot (σ : Nat → Int32) (α : Nat → Nat → Int32) (x0 : Int32) (x1 : Int32) (post : Int32 → gS → Prop) : Prop := wp_St_firstSpot σ α x0 (fun (r1 : Int32) (u1 : gS) => wp_St_placesOf u1.1 u1.2 x0 (fun (r6 : Int32) (u6 : gS) => post (r1 + (x1 &&& (r6 - (1 : Int32)))) (u6.1, u6.2)))
def wp_Mc_sourceWord_J148 (σ : Nat → Int32) (α : Nat → Nat → Int32) (a1 : Int32) (post : Int32 → gS → Prop) : Prop := wp_St_presentedSpot σ α a1 (σ 9) (fun (r160 : Int32) (u160 : gS) => vp_in r160 132 ∧ (narrow .short (.int (u160.2 3 r160.toNatClampNeg)) = .int (u160.2 3 r160.toNatClampNeg) ∧ (post (u160.2 3 r160.toNatClampNeg) (u160.1, u160.2))))
def wp_Mc_sourceWord (σ : Nat → Int32) (α : Nat → Nat → Int32) (x1 : Int32) (post : Int32 → gS → Prop) : Prop := (x1 = 0 → post (0 : Int32) (σ, α)) ∧ (x1 = 1 → post (1 : Int32) (σ, α)) ∧ (x1 = 2 → wp_Mc_sourceWord_J148 σ α x1 post) ∧ (x1 = 3 → wp_Mc_sourceWord_J148 σ α x1 post) ∧ (x1 = 4 → wp_Mc_sourceWord_J148 σ α x1 post) ∧ (x1 = 5 → wp_Mc_sourceWord_J148 σ α x1 post) ∧ (x1 = 6 → wp_Mc_sourceWord_J148 σ α x1 post) ∧ (x1 = 7 → wp_Mc_sourceWord_J148 σ α x1 post) ∧ (x1 = 8 → wp_Mc_sourceWord_J148 σ α x1 post) ∧ (x1 = 9 → narrow .short (.int (((α 3 (128 : Int32).toNatClampNeg) &&& (α 3 (129 : Int32).toNatClampNeg)).toInt16.toInt32)) = .int (((α 3 (128 : Int32).toNatClampNeg) &&& (α 3 (129 : Int32).toNatClampNeg)).toInt16.toInt32) ∧ (post (((α 3 (128 : Int32).toNatClampNeg) &&& (α 3 (129 : Int32).toNatClampNeg)).toInt16.toInt32) (σ, α))) ∧ (x1 = 10 → narrow .short (.int (((α 3 (128 : Int32).toNatClampNeg) ^^^ (α 3 (129 : Int32).toNatClampNeg)).toInt16.toInt32)) = .int (((α 3 (128 : Int32).toNatClampNeg) ^^^ (α 3 (129 : Int32).toNatClampNeg)).toInt16.toInt32) ∧ (post (((α 3 (128 : Int32).toNatClampNeg) ^^^ (α 3 (129 : Int32).toNatClampNeg)).toInt16.toInt32) (σ, α))) ∧ (x1 = 11 → post (-1 : Int32) (σ, α)) ∧ (x1 = 12 → narrow .short (.int (((α 3 (128 : Int32).toNatClampNeg) >>> ((1 : Int32) &&& 31)).toInt16.toInt32)) = .int (((α 3 (128 : Int32).toNatClampNeg) >>> ((1 : Int32) &&& 31)).toInt16.toInt32) ∧ (post (((α 3 (128 : Int32).toNatClampNeg) >>> ((1 : Int32) &&& 31)).toInt16.toInt32) (σ, α))) ∧ (x1 = 13 → wp_Rd_moveRow σ α (σ 9) (fun (r133 : Int32) (u133 : gS) => narrow .short (.int r133) = .int r133 ∧ (post r133 (u133.1, u133.2)))) ∧ (x1 = 14 → narrow .short (.int (((α 3 (128 : Int32).toNatClampNeg) ^^^ (-1 : Int32)).toInt16.toInt32)) = .int (((α 3 (128 : Int32).toNatClampNeg) ^^^ (-1 : Int32)).toInt16.toInt32) ∧ (post (((α 3 (128 : Int32).toNatClampNeg) ^^^ (-1 : Int32)).toInt16.toInt32) (σ, α))) ∧ (x1 = 15 → narrow .short (.int ((σ 9).toInt16.toInt32)) = .int ((σ 9).toInt16.toInt32) ∧ (post ((σ 9).toInt16.toInt32) (σ, α))) ∧ (x1.toInt < 0 ∨ 15 < x1.toInt → wp_Mc_sourceWord_J148 σ α x1 post)
def wp_St_setProduct (σ : Nat → Int32) (α : Nat → Nat → Int32) (x1 : Int32) (post : gS → Prop) : Prop := post (σ, (va_up α 3 (upd (upd (α 3) (130 : Int32).toNatClampNeg (vp_nar .short x1.toInt16.toInt32)) (131 : Int32).toNatClampNeg (vp_nar .short ((x1 >>> ((16 : Int32) &&& 31)).toInt16.toInt32)))))
def wp_Mu_begin (σ : Nat → Int32) (α : Nat → Nat → Int32) (x1 : Int32) (post : gS → Prop) : Prop := wp_St_setProduct (va_up (va_up (va_up σ 15 x1) 16 (16 : Int32)) 17 (1 : Int32)) α (0 : Int32) (fun (u18 : gS) => post (u18.1, u18.2))
def wp_Rd_rowsLeft (σ : Nat → Int32) (α : Nat → Nat → Int32) (post : Int32 → gS → Prop) : Prop := post ((σ 0) - (σ 1)) (σ, α)
def wp_Rd_feed_J16 (σ : Nat → Int32) (α : Nat → Nat → Int32) (post : Int32 → gS → Prop) : Prop := post (0 : Int32) (σ, α)
def wp_Rd_feed (σ : Nat → Int32) (α : Nat → Nat → Int32) (x1 : Int32) (post : Int32 → gS → Prop) : Prop := (¬ (σ 2) = 0 → wp_Rd_feed_J16 σ α post) ∧ ((σ 2) = 0 → wp_Rd_rowsLeft σ α (fun (r8 : Int32) (u8 : gS) => ((12 : Int32) ≤ r8 → post (1 : Int32) ((va_up (va_up (va_up u8.1 1 ((u8.1 1) + (12 : Int32))) 2 (1 : Int32)) 3 x1), u8.2)) ∧ (¬ (12 : Int32) ≤ r8 → wp_Rd_feed_J16 u8.1 u8.2 post)))
def wp_Mc_stopBy_J17 (σ : Nat → Int32) (α : Nat → Nat → Int32) (post : gS → Prop) : Prop := post (σ, α)
def wp_Mc_stopBy (σ : Nat → Int32) (α : Nat → Nat → Int32) (x1 : Int32) (post : gS → Prop) : Prop := (¬ (σ 8) = 0 → wp_Mc_stopBy_J17 (va_up σ 7 (0 : Int32)) α post) ∧ ((σ 8) = 0 → wp_Mc_stopBy_J17 (va_up (va_up σ 7 (0 : Int32)) 8 x1) α post)
def wp_Pu_take_J37 (σ : Nat → Int32) (α : Nat → Nat → Int32) (post : Int32 → gS → Prop) : Prop := post (0 : Int32) (σ, α)
def wp_Pu_take_J23 (σ : Nat → Int32) (α : Nat → Nat → Int32) (a1 : Int32) (a2 : Int32) (t0 : Int32) (post : Int32 → gS → Prop) : Prop := (¬ t0 = 0 → wp_Pu_take_J37 σ α post) ∧ (t0 = 0 → ((σ 5) < (60 : Int32) → vp_in (σ 5) 60 ∧ (post (1 : Int32) ((va_up (va_up σ 5 ((σ 5) + (1 : Int32))) 6 a2), (va_up α 7 (upd (α 7) (σ 5).toNatClampNeg (vp_nar .short a1)))))) ∧ (¬ (σ 5) < (60 : Int32) → wp_Pu_take_J37 σ α post))
def wp_Pu_take_J22 (σ : Nat → Int32) (α : Nat → Nat → Int32) (a1 : Int32) (a2 : Int32) (post : Int32 → gS → Prop) : Prop := wp_Pu_take_J23 σ α a1 a2 (0 : Int32) post
def wp_Pu_take (σ : Nat → Int32) (α : Nat → Nat → Int32) (x1 : Int32) (x2 : Int32) (post : Int32 → gS → Prop) : Prop := ((σ 5) ≤ 0 → wp_Pu_take_J22 σ α x1 x2 post) ∧ (¬ (σ 5) ≤ 0 → ((6 : Int32) ≤ (x2 - (σ 6)) → wp_Pu_take_J22 σ α x1 x2 post) ∧ (¬ (6 : Int32) ≤ (x2 - (σ 6)) → wp_Pu_take_J23 σ α x1 x2 (1 : Int32) post))
def wp_Mc_deliver_J206 (σ : Nat → Int32) (α : Nat → Nat → Int32) (post : gS → Prop) : Prop := post (σ, α)
def wp_Mc_deliver_J189 (σ : Nat → Int32) (α : Nat → Nat → Int32) (a1 : Int32) (a2 : Int32) (post : gS → Prop) : Prop := wp_St_presentedSpot σ α a2 (σ 9) (fun (r201 : Int32) (u201 : gS) => vp_in r201 132 ∧ (wp_Mc_deliver_J206 u201.1 (va_up u201.2 3 (upd (u201.2 3) r201.toNatClampNeg (vp_nar .short a1))) post))
def wp_Mc_deliver (σ : Nat → Int32) (α : Nat → Nat → Int32) (x1 : Int32) (x2 : Int32) (post : gS → Prop) : Prop := (x2 = 0 → wp_Mc_deliver_J206 σ α post) ∧ (x2 = 1 → wp_Mc_deliver_J206 (va_up σ 7 (0 : Int32)) α post) ∧ (x2 = 2 → wp_Mc_deliver_J189 σ α x1 x2 post) ∧ (x2 = 3 → wp_Mc_deliver_J189 σ α x1 x2 post) ∧ (x2 = 4 → wp_Mc_deliver_J189 σ α x1 x2 post) ∧ (x2 = 5 → wp_Mc_deliver_J189 σ α x1 x2 post) ∧ (x2 = 6 → wp_Mc_deliver_J189 σ α x1 x2 post) ∧ (x2 = 7 → wp_Mc_deliver_J189 σ α x1 x2 post) ∧ (x2 = 8 → wp_Mc_deliver_J189 σ α x1 x2 post) ∧ (x2 = 9 → wp_Mc_deliver_J206 σ (va_up α 3 (upd (α 3) (128 : Int32).toNatClampNeg (vp_nar .short (((α 3 (128 : Int32).toNatClampNeg) + x1).toInt16.toInt32)))) post) ∧ (x2 = 10 → wp_Mc_deliver_J206 σ (va_up α 3 (upd (α 3) (128 : Int32).toNatClampNeg (vp_nar .short (((α 3 (128 : Int32).toNatClampNeg) - x1).toInt16.toInt32)))) post) ∧ (x2 = 11 → wp_Mc_deliver_J189 σ α x1 x2 post) ∧ (x2 = 12 → wp_Mc_deliver_J189 σ α x1 x2 post) ∧ (x2 = 13 → wp_Mu_begin σ α x1 (fun (u138 : gS) => wp_Mc_deliver_J206 u138.1 u138.2 post)) ∧ (x2 = 14 → wp_Rd_feed σ α (σ 9) (fun (r152 : Int32) (u152 : gS) => (¬ r152 = 0 → wp_Mc_deliver_J206 u152.1 u152.2 post) ∧ (r152 = 0 → wp_Mc_stopBy u152.1 u152.2 (2 : Int32) (fun (u160 : gS) => wp_Mc_deliver_J206 u160.1 u160.2 post)))) ∧ (x2 = 15 → wp_Pu_take σ α x1 (σ 9) (fun (r175 : Int32) (u175 : gS) => (¬ r175 = 0 → wp_Mc_deliver_J206 u175.1 u175.2 post) ∧ (r175 = 0 → wp_Mc_stopBy u175.1 u175.2 (3 : Int32) (fun (u183 : gS) => wp_Mc_deliver_J206 u183.1 u183.2 post)))) ∧ (x2.toInt < 0 ∨ 15 < x2.toInt → wp_Mc_deliver_J189 σ α x1 x2 post)
def wp_Mc_discriminate_10_J22 (σ : Nat → Int32) (α : Nat → Nat → Int32) (post : gS → Prop) : Prop := post (σ, α)
def wp_Mc_discriminate_10 (σ : Nat → Int32) (α : Nat → Nat → Int32) (x2 : Int32) (post : gS → Prop) : Prop := (x2 = 0 → wp_Mc_discriminate_10_J22 σ α post) ∧ (¬ x2 = 0 → wp_Mc_discriminate_10_J22 (va_up σ 11 ((σ 22) + (1 : Int32))) α post)
def wp_Mc_move_10_J83 (σ : Nat → Int32) (α : Nat → Nat → Int32) (post : gS → Prop) : Prop := post (σ, α)
def wp_Mc_move_10_J68 (σ : Nat → Int32) (α : Nat → Nat → Int32) (t0 : Int32) (post : gS → Prop) : Prop := wp_Mc_discriminate_10 σ α t0 (fun (u68 : gS) => wp_Mc_move_10_J83 u68.1 u68.2 post)
def wp_Mc_move_10_J51 (σ : Nat → Int32) (α : Nat → Nat → Int32) (t0 : Int32) (post : gS → Prop) : Prop := wp_Mc_discriminate_10 σ α t0 (fun (u51 : gS) => wp_Mc_move_10_J83 u51.1 u51.2 post)
def wp_Mc_move_10 (σ : Nat → Int32) (α : Nat → Nat → Int32) (post : gS → Prop) : Prop := wp_Mc_sourceWord σ α (σ 18) (fun (r5 : Int32) (u5 : gS) => ((u5.1 19) = 11 → (0 ≤ r5 → wp_Mc_move_10_J51 u5.1 u5.2 (0 : Int32) post) ∧ (¬ 0 ≤ r5 → wp_Mc_move_10_J51 u5.1 u5.2 (1 : Int32) post)) ∧ ((u5.1 19) = 12 → (r5 = 0 → wp_Mc_move_10_J68 u5.1 u5.2 (0 : Int32) post) ∧ (¬ r5 = 0 → wp_Mc_move_10_J68 u5.1 u5.2 (1 : Int32) post)) ∧ (¬ (u5.1 19) = 11 ∧ ¬ (u5.1 19) = 12 → wp_Mc_deliver u5.1 u5.2 r5 (u5.1 19) (fun (u80 : gS) => wp_Mc_move_10_J83 u80.1 u80.2 post)))
def wp_Mc_discriminate_11_J22 (σ : Nat → Int32) (α : Nat → Nat → Int32) (post : gS → Prop) : Prop := post (σ, α)
def wp_Mc_discriminate_11 (σ : Nat → Int32) (α : Nat → Nat → Int32) (x2 : Int32) (post : gS → Prop) : Prop := (x2 = 0 → wp_Mc_discriminate_11_J22 σ α post) ∧ (¬ x2 = 0 → wp_Mc_discriminate_11_J22 σ α post)
def wp_Mc_move_11_J83 (σ : Nat → Int32) (α : Nat → Nat → Int32) (post : gS → Prop) : Prop := post (σ, α)
def wp_Mc_move_11_J68 (σ : Nat → Int32) (α : Nat → Nat → Int32) (t0 : Int32) (post : gS → Prop) : Prop := wp_Mc_discriminate_11 σ α t0 (fun (u68 : gS) => wp_Mc_move_11_J83 u68.1 u68.2 post)
def wp_Mc_move_11_J51 (σ : Nat → Int32) (α : Nat → Nat → Int32) (t0 : Int32) (post : gS → Prop) : Prop := wp_Mc_discriminate_11 σ α t0 (fun (u51 : gS) => wp_Mc_move_11_J83 u51.1 u51.2 post)
def wp_Mc_move_11 (σ : Nat → Int32) (α : Nat → Nat → Int32) (post : gS → Prop) : Prop := wp_Mc_sourceWord σ α (σ 23) (fun (r5 : Int32) (u5 : gS) => ((u5.1 24) = 11 → (0 ≤ r5 → wp_Mc_move_11_J51 u5.1 u5.2 (0 : Int32) post) ∧ (¬ 0 ≤ r5 → wp_Mc_move_11_J51 u5.1 u5.2 (1 : Int32) post)) ∧ ((u5.1 24) = 12 → (r5 = 0 → wp_Mc_move_11_J68 u5.1 u5.2 (0 : Int32) post) ∧ (¬ r5 = 0 → wp_Mc_move_11_J68 u5.1 u5.2 (1 : Int32) post)) ∧ (¬ (u5.1 24) = 11 ∧ ¬ (u5.1 24) = 12 → wp_Mc_deliver u5.1 u5.2 r5 (u5.1 24) (fun (u80 : gS) => wp_Mc_move_11_J83 u80.1 u80.2 post)))
def wp_St_product (σ : Nat → Int32) (α : Nat → Nat → Int32) (post : Int32 → gS → Prop) : Prop := post (((α 3 (131 : Int32).toNatClampNeg) <<< ((16 : Int32) &&& 31)) ||| ((α 3 (130 : Int32).toNatClampNeg) &&& (65535 : Int32))) (σ, α)
def wp_Mu_endCycle_J60 (σ : Nat → Int32) (α : Nat → Nat → Int32) (t0 : Int32) (t1 : Int32) (post : gS → Prop) : Prop := wp_St_setProduct σ α (t1 + t0) (fun (u61 : gS) => post ((va_up (va_up u61.1 15 ((u61.1 15) <<< ((1 : Int32) &&& 31))) 16 ((u61.1 16) - (1 : Int32))), u61.2))
def wp_Mu_endCycle_J36 (σ : Nat → Int32) (α : Nat → Nat → Int32) (t0 : Int32) (post : gS → Prop) : Prop := wp_St_product σ α (fun (r40 : Int32) (u40 : gS) => (t0 = 0 → wp_Mu_endCycle_J60 u40.1 u40.2 (0 : Int32) ((2 : Int32) * r40) post) ∧ (¬ t0 = 0 → wp_Mu_endCycle_J60 u40.1 u40.2 (u40.2 3 (129 : Int32).toNatClampNeg) ((2 : Int32) * r40) post))
def wp_Mu_endCycle (σ : Nat → Int32) (α : Nat → Nat → Int32) (post : gS → Prop) : Prop := ((σ 17) = 0 → (¬ (σ 16) = 0 → (((σ 15) &&& (32768 : Int32)) = 0 → wp_Mu_endCycle_J36 σ α (0 : Int32) post) ∧ (¬ ((σ 15) &&& (32768 : Int32)) = 0 → wp_Mu_endCycle_J36 σ α (1 : Int32) post)) ∧ ((σ 16) = 0 → post (σ, α))) ∧ (¬ (σ 17) = 0 → post ((va_up σ 17 (0 : Int32)), α))
def wp_Rd_endCycle_J49 (σ : Nat → Int32) (α : Nat → Nat → Int32) (a3 : Int32) (post : Int32 → gS → Prop) : Prop := narrow .boolean (.int a3) = .int a3 ∧ (post a3 (σ, α))
def wp_Rd_endCycle_J32 (σ : Nat → Int32) (α : Nat → Nat → Int32) (a2 : Int32) (t0 : Int32) (post : Int32 → gS → Prop) : Prop := (¬ a2 = (90 : Int32) → wp_Rd_endCycle_J49 (va_up σ 4 (0 : Int32)) α t0 post) ∧ (a2 = (90 : Int32) → wp_Rd_endCycle_J49 (va_up (va_up σ 2 (0 : Int32)) 4 (0 : Int32)) α t0 post)
def wp_Rd_endCycle_J18 (σ : Nat → Int32) (α : Nat → Nat → Int32) (post : Int32 → gS → Prop) : Prop := post (0 : Int32) (σ, α)
def wp_Rd_endCycle (σ : Nat → Int32) (α : Nat → Nat → Int32) (x1 : Int32) (post : Int32 → gS → Prop) : Prop := wp_Rd_offset σ α x1 (fun (r2 : Int32) (u2 : gS) => (r2 < 0 → wp_Rd_endCycle_J18 u2.1 u2.2 post) ∧ (¬ r2 < 0 → ((r2 - r2 / (8 : Int32) * (8 : Int32)) = (2 : Int32) → (¬ (u2.1 4) = 0 → wp_Rd_endCycle_J32 u2.1 u2.2 r2 (0 : Int32) post) ∧ ((u2.1 4) = 0 → wp_Rd_endCycle_J32 u2.1 u2.2 r2 (1 : Int32) post)) ∧ (¬ (r2 - r2 / (8 : Int32) * (8 : Int32)) = (2 : Int32) → wp_Rd_endCycle_J18 u2.1 u2.2 post)))
def wp_Mc_goThroughCycle_J92 (wc : Nat) (wb : Nat) (σ : Nat → Int32) (α : Nat → Nat → Int32) (post : gSW → Prop) : Prop := post (wc, wb, (va_up σ 9 ((σ 9) + (1 : Int32))), α)
def wp_Mc_goThroughCycle_J62 (wc : Nat) (wb : Nat) (σ : Nat → Int32) (α : Nat → Nat → Int32) (post : gSW → Prop) : Prop := wp_Mu_endCycle σ α (fun (u70 : gS) => wp_Rd_endCycle u70.1 u70.2 (u70.1 9) (fun (r81 : Int32) (u81 : gS) => (r81 = 0 → wp_Mc_goThroughCycle_J92 wc wb u81.1 u81.2 post) ∧ (¬ r81 = 0 → wp_Mc_stopBy u81.1 u81.2 (1 : Int32) (fun (u89 : gS) => wp_Mc_goThroughCycle_J92 wc wb u89.1 u89.2 post))))
def wp_Mc_goThroughCycle_J15 (wc : Nat) (wb : Nat) (σ : Nat → Int32) (α : Nat → Nat → Int32) (post : gSW → Prop) : Prop := wp_Wi_covers_11 σ α (σ 9) (fun (r23 : Int32) (u23 : gS) => (r23 = 0 → wp_Wi_covers_10 u23.1 u23.2 (u23.1 9) (fun (r48 : Int32) (u48 : gS) => (r48 = 0 → wp_Mc_goThroughCycle_J62 wc wb u48.1 u48.2 post) ∧ (¬ r48 = 0 → wp_Mc_move_10 u48.1 u48.2 (fun (u59 : gS) => wp_Mc_goThroughCycle_J62 wc wb u59.1 u59.2 post)))) ∧ (¬ r23 = 0 → wp_Mc_move_11 u23.1 u23.2 (fun (u34 : gS) => wp_Mc_goThroughCycle_J62 wc wb u34.1 u34.2 post)))
def wp_Mc_goThroughCycle (wc : Nat) (wb : Nat) (σ : Nat → Int32) (α : Nat → Nat → Int32) (post : gSW → Prop) : Prop := (¬ (σ 9) = (σ 11) → wp_Mc_goThroughCycle_J15 wc wb σ α post) ∧ ((σ 9) = (σ 11) → wp_Mc_takeOrder wc wb σ α (fun (u12 : gSW) => wp_Mc_goThroughCycle_J15 u12.1 u12.2.1 u12.2.2.1 u12.2.2.2 post))
def wp_Dm_run_B15 (XL15 : Nat → Nat → (Nat → Int32) → (Nat → Nat → Int32) → Int32 → Int32 → Prop) (wc : Nat) (wb : Nat) (σ : Nat → Int32) (α : Nat → Nat → Int32) (a1 : Int32) (a2 : Int32) (post : Int32 → gSW → Prop) : Prop := (a1 ≤ a2 → post a1 (wc, wb, σ, α)) ∧ (¬ a1 ≤ a2 → (¬ (σ 7) = 0 → wp_Mc_goThroughCycle wc wb σ α (fun (u36 : gSW) => XL15 u36.1 u36.2.1 u36.2.2.1 u36.2.2.2 a1 (a2 + Int32.ofInt 1))) ∧ ((σ 7) = 0 → post a2 (wc, wb, σ, α)))
def wp_Dm_run_L15 (wc : Nat) (wb : Nat) (σ : Nat → Int32) (α : Nat → Nat → Int32) (a1 : Int32) (a2 : Int32) (post : Int32 → gSW → Prop) : Prop := ∀ XL15 : Nat → Nat → (Nat → Int32) → (Nat → Nat → Int32) → Int32 → Int32 → Prop, (∀ (wc : Nat) (wb : Nat) (σ : Nat → Int32) (α : Nat → Nat → Int32) (a1 : Int32) (a2 : Int32), wp_Dm_run_B15 XL15 wc wb σ α a1 a2 post → XL15 wc wb σ α a1 a2) → XL15 wc wb σ α a1 a2
def wp_Dm_run_J11 (wc : Nat) (wb : Nat) (σ : Nat → Int32) (α : Nat → Nat → Int32) (post : Int32 → gSW → Prop) : Prop := post (-1 : Int32) (wc, wb, σ, α)
def wp_Dm_run (wc : Nat) (wb : Nat) (σ : Nat → Int32) (α : Nat → Nat → Int32) (x1 : Int32) (post : Int32 → gSW → Prop) : Prop := (x1 < 0 → wp_Dm_run_J11 wc wb σ α post) ∧ (¬ x1 < 0 → (x1 ≤ (2000 : Int32) → wp_Dm_run_L15 wc wb σ α x1 (0 : Int32) post) ∧ (¬ x1 ≤ (2000 : Int32) → wp_Dm_run_J11 wc wb σ α post))
def wp_Dm_look_J67 (σ : Nat → Int32) (α : Nat → Nat → Int32) (t0 : Int32) (post : Int32 → gS → Prop) : Prop := post t0 (σ, α)
def wp_Dm_look (σ : Nat → Int32) (α : Nat → Nat → Int32) (x1 : Int32) (post : Int32 → gS → Prop) : Prop := (x1 = 0 → ((σ 7) = 0 → wp_Dm_look_J67 σ α (0 : Int32) post) ∧ (¬ (σ 7) = 0 → wp_Dm_look_J67 σ α (1 : Int32) post)) ∧ (x1 = 1 → post (σ 8) (σ, α)) ∧ (x1 = 2 → post (σ 9) (σ, α)) ∧ (x1 = 3 → post (σ 12) (σ, α)) ∧ (x1 = 4 → post (σ 13) (σ, α)) ∧ (x1 = 5 → post (σ 14) (σ, α)) ∧ (x1 = 6 → wp_Rd_rowsLeft σ α (fun (r112 : Int32) (u112 : gS) => post r112 (u112.1, u112.2))) ∧ (x1 = 7 → post (σ 5) (σ, α)) ∧ (x1 = 8 → post (σ 16) (σ, α)) ∧ (x1.toInt < 0 ∨ 8 < x1.toInt → post (-1 : Int32) (σ, α))
def wp_Dm_peek_J23 (σ : Nat → Int32) (α : Nat → Nat → Int32) (t0 : Int32) (post : Int32 → gS → Prop) : Prop := narrow .short (.int t0) = .int t0 ∧ (post t0 (σ, α))
def wp_Dm_peek (σ : Nat → Int32) (α : Nat → Nat → Int32) (x1 : Int32) (x2 : Int32) (post : Int32 → gS → Prop) : Prop := wp_St_wordSpot σ α x1 x2 (fun (r2 : Int32) (u2 : gS) => (0 ≤ r2 → vp_in r2 132 ∧ (wp_Dm_peek_J23 u2.1 u2.2 (u2.2 3 r2.toNatClampNeg) post)) ∧ (¬ 0 ≤ r2 → wp_Dm_peek_J23 u2.1 u2.2 (0 : Int32) post))
def wp_Dm_read_J23 (σ : Nat → Int32) (α : Nat → Nat → Int32) (t0 : Int32) (post : Int32 → gS → Prop) : Prop := post t0 (σ, α)
def wp_Dm_read (σ : Nat → Int32) (α : Nat → Nat → Int32) (x1 : Int32) (x2 : Int32) (post : Int32 → gS → Prop) : Prop := wp_St_orderSpot σ α x1 x2 (fun (r2 : Int32) (u2 : gS) => (0 ≤ r2 → vp_in r2 64 ∧ (wp_Dm_read_J23 u2.1 u2.2 (u2.2 2 r2.toNatClampNeg) post)) ∧ (¬ 0 ≤ r2 → wp_Dm_read_J23 u2.1 u2.2 (-1 : Int32) post))
def wp_Dm_punched_J28 (σ : Nat → Int32) (α : Nat → Nat → Int32) (t0 : Int32) (post : Int32 → gS → Prop) : Prop := narrow .short (.int t0) = .int t0 ∧ (post t0 (σ, α))
def wp_Dm_punched_J15 (σ : Nat → Int32) (α : Nat → Nat → Int32) (post : Int32 → gS → Prop) : Prop := wp_Dm_punched_J28 σ α (0 : Int32) post
def wp_Dm_punched (σ : Nat → Int32) (α : Nat → Nat → Int32) (x1 : Int32) (post : Int32 → gS → Prop) : Prop := (x1 < 0 → wp_Dm_punched_J15 σ α post) ∧ (¬ x1 < 0 → (x1 < (σ 5) → vp_in x1 60 ∧ (wp_Dm_punched_J28 σ α (α 7 x1.toNatClampNeg) post)) ∧ (¬ x1 < (σ 5) → wp_Dm_punched_J15 σ α post))
def wp_Pr_isVariable_J15 (σ : Nat → Int32) (α : Nat → Nat → Int32) (t0 : Int32) (post : Int32 → gS → Prop) : Prop := narrow .boolean (.int t0) = .int t0 ∧ (post t0 (σ, α))
def wp_Pr_isVariable_J14 (σ : Nat → Int32) (α : Nat → Nat → Int32) (post : Int32 → gS → Prop) : Prop := wp_Pr_isVariable_J15 σ α (0 : Int32) post
def wp_Pr_isVariable (σ : Nat → Int32) (α : Nat → Nat → Int32) (x0 : Int32) (post : Int32 → gS → Prop) : Prop := (x0 < 0 → wp_Pr_isVariable_J14 σ α post) ∧ (¬ x0 < 0 → ((16 : Int32) ≤ x0 → wp_Pr_isVariable_J14 σ α post) ∧ (¬ (16 : Int32) ≤ x0 → wp_Pr_isVariable_J15 σ α (1 : Int32) post))
def wp_Pr_addStatement_J94 (σ : Nat → Int32) (α : Nat → Nat → Int32) (post : Int32 → gS → Prop) : Prop := post (-1 : Int32) (σ, α)
def wp_Pr_addStatement_J68 (σ : Nat → Int32) (α : Nat → Nat → Int32) (a1 : Int32) (a2 : Int32) (a3 : Int32) (a4 : Int32) (a5 : Int32) (a6 : Int32) (a7 : Int32) (t0 : Int32) (post : Int32 → gS → Prop) : Prop := ((12 : Int32) ≤ (σ 28) → wp_Pr_addStatement_J94 σ α post) ∧ (¬ (12 : Int32) ≤ (σ 28) → (a6 = 0 → wp_Pr_addStatement_J94 σ α post) ∧ (¬ a6 = 0 → (a7 = 0 → wp_Pr_addStatement_J94 σ α post) ∧ (¬ a7 = 0 → (¬ t0 = 0 → vp_in (σ 28) 12 ∧ (vp_in (σ 28) 12 ∧ (vp_in (σ 28) 12 ∧ (vp_in (σ 28) 12 ∧ (vp_in (σ 28) 12 ∧ (post (((σ 28) + (1 : Int32)) - (1 : Int32)) ((va_up σ 28 ((σ 28) + (1 : Int32))), (va_up (va_up (va_up (va_up (va_up α 13 (upd (α 13) (σ 28).toNatClampNeg a1)) 14 (upd (α 14) (σ 28).toNatClampNeg a2)) 15 (upd (α 15) (σ 28).toNatClampNeg a3)) 16 (upd (α 16) (σ 28).toNatClampNeg a4)) 17 (upd (α 17) (σ 28).toNatClampNeg a5))))))))) ∧ (t0 = 0 → wp_Pr_addStatement_J94 σ α post))))
def wp_Pr_addStatement_J67 (σ : Nat → Int32) (α : Nat → Nat → Int32) (a1 : Int32) (a2 : Int32) (a3 : Int32) (a4 : Int32) (a5 : Int32) (a6 : Int32) (a7 : Int32) (post : Int32 → gS → Prop) : Prop := wp_Pr_addStatement_J68 σ α a1 a2 a3 a4 a5 a6 a7 (0 : Int32) post
def wp_Pr_addStatement_J63 (σ : Nat → Int32) (α : Nat → Nat → Int32) (a1 : Int32) (a2 : Int32) (a3 : Int32) (a4 : Int32) (a5 : Int32) (a6 : Int32) (a7 : Int32) (post : Int32 → gS → Prop) : Prop := wp_Pr_addStatement_J68 σ α a1 a2 a3 a4 a5 a6 a7 (1 : Int32) post
def wp_Pr_addStatement_J44 (σ : Nat → Int32) (α : Nat → Nat → Int32) (a1 : Int32) (a2 : Int32) (a3 : Int32) (a4 : Int32) (a5 : Int32) (a6 : Int32) (t0 : Int32) (post : Int32 → gS → Prop) : Prop := (¬ a1 = (4 : Int32) → wp_Pr_addStatement_J63 σ α a1 a2 a3 a4 a5 a6 t0 post) ∧ (a1 = (4 : Int32) → (a5 < 0 → wp_Pr_addStatement_J67 σ α a1 a2 a3 a4 a5 a6 t0 post) ∧ (¬ a5 < 0 → ((12 : Int32) ≤ a5 → wp_Pr_addStatement_J67 σ α a1 a2 a3 a4 a5 a6 t0 post) ∧ (¬ (12 : Int32) ≤ a5 → wp_Pr_addStatement_J63 σ α a1 a2 a3 a4 a5 a6 t0 post)))
def wp_Pr_addStatement_J43 (σ : Nat → Int32) (α : Nat → Nat → Int32) (a1 : Int32) (a2 : Int32) (a3 : Int32) (a4 : Int32) (a5 : Int32) (a6 : Int32) (post : Int32 → gS → Prop) : Prop := wp_Pr_addStatement_J44 σ α a1 a2 a3 a4 a5 a6 (0 : Int32) post
def wp_Pr_addStatement_J15 (σ : Nat → Int32) (α : Nat → Nat → Int32) (a1 : Int32) (a2 : Int32) (a3 : Int32) (a4 : Int32) (a5 : Int32) (t0 : Int32) (post : Int32 → gS → Prop) : Prop := wp_Pr_isVariable σ α a2 (fun (r18 : Int32) (u18 : gS) => (r18 = 0 → wp_Pr_addStatement_J43 u18.1 u18.2 a1 a2 a3 a4 a5 t0 post) ∧ (¬ r18 = 0 → wp_Pr_isVariable u18.1 u18.2 a3 (fun (r25 : Int32) (u25 : gS) => (r25 = 0 → wp_Pr_addStatement_J43 u25.1 u25.2 a1 a2 a3 a4 a5 t0 post) ∧ (¬ r25 = 0 → wp_Pr_isVariable u25.1 u25.2 a4 (fun (r33 : Int32) (u33 : gS) => (r33 = 0 → wp_Pr_addStatement_J43 u33.1 u33.2 a1 a2 a3 a4 a5 t0 post) ∧ (¬ r33 = 0 → wp_Pr_addStatement_J44 u33.1 u33.2 a1 a2 a3 a4 a5 t0 (1 : Int32) post))))))
def wp_Pr_addStatement_J14 (σ : Nat → Int32) (α : Nat → Nat → Int32) (a1 : Int32) (a2 : Int32) (a3 : Int32) (a4 : Int32) (a5 : Int32) (post : Int32 → gS → Prop) : Prop := wp_Pr_addStatement_J15 σ α a1 a2 a3 a4 a5 (0 : Int32) post
def wp_Pr_addStatement (σ : Nat → Int32) (α : Nat → Nat → Int32) (x1 : Int32) (x2 : Int32) (x3 : Int32) (x4 : Int32) (x5 : Int32) (post : Int32 → gS → Prop) : Prop := (x1 < 0 → wp_Pr_addStatement_J14 σ α x1 x2 x3 x4 x5 post) ∧ (¬ x1 < 0 → ((7 : Int32) ≤ x1 → wp_Pr_addStatement_J14 σ α x1 x2 x3 x4 x5 post) ∧ (¬ (7 : Int32) ≤ x1 → wp_Pr_addStatement_J15 σ α x1 x2 x3 x4 x5 (1 : Int32) post))
def wp_Dm_statement (σ : Nat → Int32) (α : Nat → Nat → Int32) (x1 : Int32) (x2 : Int32) (x3 : Int32) (x4 : Int32) (x5 : Int32) (post : Int32 → gS → Prop) : Prop := wp_Pr_addStatement σ α x1 x2 x3 x4 x5 (fun (r11 : Int32) (u11 : gS) => post r11 (u11.1, u11.2))
def wp_Dm_clear (σ : Nat → Int32) (α : Nat → Nat → Int32) (post : gS → Prop) : Prop := post ((va_up σ 28 (0 : Int32)), α)
def wp_Pr_allGotosLead_J35 (XL2 : (Nat → Int32) → (Nat → Nat → Int32) → Int32 → Prop) (σ : Nat → Int32) (α : Nat → Nat → Int32) (a1 : Int32) (post : Int32 → gS → Prop) : Prop := XL2 σ α (a1 + Int32.ofInt 1)
def wp_Pr_allGotosLead_B2 (XL2 : (Nat → Int32) → (Nat → Nat → Int32) → Int32 → Prop) (σ : Nat → Int32) (α : Nat → Nat → Int32) (a1 : Int32) (post : Int32 → gS → Prop) : Prop := ((σ 28) ≤ a1 → post (1 : Int32) (σ, α)) ∧ (¬ (σ 28) ≤ a1 → vp_in a1 12 ∧ ((¬ (α 13 a1.toNatClampNeg) = (4 : Int32) → wp_Pr_allGotosLead_J35 XL2 σ α a1 post) ∧ ((α 13 a1.toNatClampNeg) = (4 : Int32) → vp_in a1 12 ∧ (((α 17 a1.toNatClampNeg) < (σ 28) → wp_Pr_allGotosLead_J35 XL2 σ α a1 post) ∧ (¬ (α 17 a1.toNatClampNeg) < (σ 28) → post (0 : Int32) (σ, α))))))
def wp_Pr_allGotosLead_L2 (σ : Nat → Int32) (α : Nat → Nat → Int32) (a1 : Int32) (post : Int32 → gS → Prop) : Prop := ∀ XL2 : (Nat → Int32) → (Nat → Nat → Int32) → Int32 → Prop, (∀ (σ : Nat → Int32) (α : Nat → Nat → Int32) (a1 : Int32), wp_Pr_allGotosLead_B2 XL2 σ α a1 post → XL2 σ α a1) → XL2 σ α a1
def wp_Pr_allGotosLead (σ : Nat → Int32) (α : Nat → Nat → Int32) (post : Int32 → gS → Prop) : Prop := wp_Pr_allGotosLead_L2 σ α (0 : Int32) post
def wp_Pl_forget (σ : Nat → Int32) (α : Nat → Nat → Int32) (post : gS → Prop) : Prop := post ((va_up (va_up (va_up (va_up σ 33 (0 : Int32)) 34 (-1 : Int32)) 35 (0 : Int32)) 36 (1 : Int32)), (va_up (va_up (va_up (va_up (va_up α 25 (gfill 64 (-1 : Int32) (α 25))) 26 (gfill 32 (-1 : Int32) (α 26))) 27 (gfill 16 (-1 : Int32) (α 27))) 28 (gfill 12 (-1 : Int32) (α 28))) 29 (gfill 12 (-1 : Int32) (α 29))))
def wp_Pr_endsWithHalt_J28 (σ : Nat → Int32) (α : Nat → Nat → Int32) (t0 : Int32) (post : Int32 → gS → Prop) : Prop := narrow .boolean (.int t0) = .int t0 ∧ (post t0 (σ, α))
def wp_Pr_endsWithHalt_J27 (σ : Nat → Int32) (α : Nat → Nat → Int32) (post : Int32 → gS → Prop) : Prop := wp_Pr_endsWithHalt_J28 σ α (0 : Int32) post
def wp_Pr_endsWithHalt (σ : Nat → Int32) (α : Nat → Nat → Int32) (post : Int32 → gS → Prop) : Prop := ((σ 28) ≤ 0 → wp_Pr_endsWithHalt_J27 σ α post) ∧ (¬ (σ 28) ≤ 0 → vp_in ((σ 28) - (1 : Int32)) 12 ∧ ((¬ (α 13 ((σ 28) - (1 : Int32)).toNatClampNeg) = (6 : Int32) → wp_Pr_endsWithHalt_J27 σ α post) ∧ ((α 13 ((σ 28) - (1 : Int32)).toNatClampNeg) = (6 : Int32) → wp_Pr_endsWithHalt_J28 σ α (1 : Int32) post)))
def wp_Pl_isFree_J20 (σ : Nat → Int32) (α : Nat → Nat → Int32) (t0 : Int32) (post : Int32 → gS → Prop) : Prop := narrow .boolean (.int t0) = .int t0 ∧ (post t0 (σ, α))
def wp_Pl_isFree (σ : Nat → Int32) (α : Nat → Nat → Int32) (x1 : Int32) (x2 : Int32) (post : Int32 → gS → Prop) : Prop := vp_in ((x1 * (32 : Int32)) + x2) 64 ∧ ((¬ (α 25 ((x1 * (32 : Int32)) + x2).toNatClampNeg) = (-1 : Int32) → wp_Pl_isFree_J20 σ α (0 : Int32) post) ∧ ((α 25 ((x1 * (32 : Int32)) + x2).toNatClampNeg) = (-1 : Int32) → wp_Pl_isFree_J20 σ α (1 : Int32) post))
def wp_Pl_freeSpot_B20 (XL2 : (Nat → Int32) → (Nat → Nat → Int32) → Int32 → Prop) (XL20 : (Nat → Int32) → (Nat → Nat → Int32) → Int32 → Int32 → Int32 → Prop) (σ : Nat → Int32) (α : Nat → Nat → Int32) (a1 : Int32) (a2 : Int32) (a3 : Int32) (post : Int32 → gS → Prop) : Prop := ((2 : Int32) ≤ a3 → XL2 σ α (a1 + Int32.ofInt 1)) ∧ (¬ (2 : Int32) ≤ a3 → wp_Pl_isFree σ α a3 a2 (fun (r28 : Int32) (u28 : gS) => (r28 = 0 → XL20 u28.1 u28.2 a1 a2 (a3 + Int32.ofInt 1)) ∧ (¬ r28 = 0 → post ((a3 * (32 : Int32)) + a2) (u28.1, u28.2))))
def wp_Pl_freeSpot_L20 (XL2 : (Nat → Int32) → (Nat → Nat → Int32) → Int32 → Prop) (σ : Nat → Int32) (α : Nat → Nat → Int32) (a1 : Int32) (a2 : Int32) (a3 : Int32) (post : Int32 → gS → Prop) : Prop := ∀ XL20 : (Nat → Int32) → (Nat → Nat → Int32) → Int32 → Int32 → Int32 → Prop, (∀ (σ : Nat → Int32) (α : Nat → Nat → Int32) (a1 : Int32) (a2 : Int32) (a3 : Int32), wp_Pl_freeSpot_B20 XL2 XL20 σ α a1 a2 a3 post → XL20 σ α a1 a2 a3) → XL20 σ α a1 a2 a3
def wp_Pl_freeSpot_B2 (XL2 : (Nat → Int32) → (Nat → Nat → Int32) → Int32 → Prop) (σ : Nat → Int32) (α : Nat → Nat → Int32) (a1 : Int32) (post : Int32 → gS → Prop) : Prop := ((32 : Int32) ≤ a1 → post (-1 : Int32) (σ, α)) ∧ (¬ (32 : Int32) ≤ a1 → wp_Pl_freeSpot_L20 XL2 σ α a1 (((σ 33) + a1) &&& (31 : Int32)) (0 : Int32) post)
def wp_Pl_freeSpot_L2 (σ : Nat → Int32) (α : Nat → Nat → Int32) (a1 : Int32) (post : Int32 → gS → Prop) : Prop := ∀ XL2 : (Nat → Int32) → (Nat → Nat → Int32) → Int32 → Prop, (∀ (σ : Nat → Int32) (α : Nat → Nat → Int32) (a1 : Int32), wp_Pl_freeSpot_B2 XL2 σ α a1 post → XL2 σ α a1) → XL2 σ α a1
def wp_Pl_freeSpot (σ : Nat → Int32) (α : Nat → Nat → Int32) (post : Int32 → gS → Prop) : Prop := wp_Pl_freeSpot_L2 σ α (0 : Int32) post
def wp_Pl_variablePlace_J59 (σ : Nat → Int32) (α : Nat → Nat → Int32) (a1 : Int32) (post : Int32 → gS → Prop) : Prop := vp_in a1 16 ∧ (post (α 27 a1.toNatClampNeg) (σ, α))
def wp_Pl_variablePlace_J53 (XL2 : (Nat → Int32) → (Nat → Nat → Int32) → Int32 → Int32 → Int32 → Prop) (σ : Nat → Int32) (α : Nat → Nat → Int32) (a1 : Int32) (a2 : Int32) (a3 : Int32) (post : Int32 → gS → Prop) : Prop := XL2 σ α a1 a2 (a3 + Int32.ofInt 1)
def wp_Pl_variablePlace_B2 (XL2 : (Nat → Int32) → (Nat → Nat → Int32) → Int32 → Int32 → Int32 → Prop) (σ : Nat → Int32) (α : Nat → Nat → Int32) (a1 : Int32) (a2 : Int32) (a3 : Int32) (post : Int32 → gS → Prop) : Prop := ((32 : Int32) ≤ a3 → wp_Pl_variablePlace_J59 σ α a1 post) ∧ (¬ (32 : Int32) ≤ a3 → vp_in a1 16 ∧ ((¬ (α 27 a1.toNatClampNeg) = (-1 : Int32) → wp_Pl_variablePlace_J59 σ α a1 post) ∧ ((α 27 a1.toNatClampNeg) = (-1 : Int32) → vp_in ((a2 + a3) &&& (31 : Int32)) 32 ∧ ((¬ (α 26 ((a2 + a3) &&& (31 : Int32)).toNatClampNeg) = (-1 : Int32) → wp_Pl_variablePlace_J53 XL2 σ α a1 a2 a3 post) ∧ ((α 26 ((a2 + a3) &&& (31 : Int32)).toNatClampNeg) = (-1 : Int32) → vp_in ((a2 + a3) &&& (31 : Int32)) 32 ∧ (vp_in a1 16 ∧ (wp_Pl_variablePlace_J53 XL2 σ (va_up (va_up α 26 (upd (α 26) ((a2 + a3) &&& (31 : Int32)).toNatClampNeg a1)) 27 (upd (α 27) a1.toNatClampNeg ((a2 + a3) &&& (31 : Int32)))) a1 a2 a3 post)))))))
def wp_Pl_variablePlace_L2 (σ : Nat → Int32) (α : Nat → Nat → Int32) (a1 : Int32) (a2 : Int32) (a3 : Int32) (post : Int32 → gS → Prop) : Prop := ∀ XL2 : (Nat → Int32) → (Nat → Nat → Int32) → Int32 → Int32 → Int32 → Prop, (∀ (σ : Nat → Int32) (α : Nat → Nat → Int32) (a1 : Int32) (a2 : Int32) (a3 : Int32), wp_Pl_variablePlace_B2 XL2 σ α a1 a2 a3 post → XL2 σ α a1 a2 a3) → XL2 σ α a1 a2 a3
def wp_Pl_variablePlace (σ : Nat → Int32) (α : Nat → Nat → Int32) (x1 : Int32) (x2 : Int32) (post : Int32 → gS → Prop) : Prop := wp_Pl_variablePlace_L2 σ α x1 x2 (0 : Int32) post
def wp_Pl_lead (σ : Nat → Int32) (α : Nat → Nat → Int32) (x1 : Int32) (x2 : Int32) (post : gS → Prop) : Prop := vp_in x1 64 ∧ (vp_in x1 64 ∧ (post (σ, (va_up α 25 (upd (α 25) x1.toNatClampNeg ((α 25 x1.toNatClampNeg) ||| (((((x2 - x1) - (2 : Int32)) &&& (31 : Int32)) <<< ((15 : Int32) &&& 31)) ||| ((x2 / (32 : Int32)) <<< ((20 : Int32) &&& 31)))))))))
def wp_Pl_occupy_J16 (σ : Nat → Int32) (α : Nat → Nat → Int32) (a1 : Int32) (a2 : Int32) (post : gS → Prop) : Prop := vp_in a1 64 ∧ (post ((va_up (va_up σ 34 a1) 35 ((σ 35) + (1 : Int32))), (va_up α 25 (upd (α 25) a1.toNatClampNeg a2))))
def wp_Pl_occupy (σ : Nat → Int32) (α : Nat → Nat → Int32) (x1 : Int32) (x2 : Int32) (post : gS → Prop) : Prop := ((σ 34) < 0 → wp_Pl_occupy_J16 σ α x1 x2 post) ∧ (¬ (σ 34) < 0 → wp_Pl_lead σ α (σ 34) x1 (fun (u13 : gS) => wp_Pl_occupy_J16 u13.1 u13.2 x1 x2 post))
def wp_Pl_placeOrder_J55 (σ : Nat → Int32) (α : Nat → Nat → Int32) (a1 : Int32) (a2 : Int32) (a4 : Int32) (a5 : Int32) (t0 : Int32) (post : gS → Prop) : Prop := wp_Pl_occupy σ α a4 ((a1 ||| (a2 <<< ((4 : Int32) &&& 31))) ||| (t0 <<< ((10 : Int32) &&& 31))) (fun (u71 : gS) => post ((va_up u71.1 33 ((a5 + t0) &&& (31 : Int32))), u71.2))
def wp_Pl_placeOrder_J18 (σ : Nat → Int32) (α : Nat → Nat → Int32) (post : gS → Prop) : Prop := post ((va_up σ 36 (0 : Int32)), α)
def wp_Pl_placeOrder (σ : Nat → Int32) (α : Nat → Nat → Int32) (x1 : Int32) (x2 : Int32) (x3 : Int32) (post : gS → Prop) : Prop := wp_Pl_freeSpot σ α (fun (r1 : Int32) (u1 : gS) => ((u1.1 36) = 0 → wp_Pl_placeOrder_J18 u1.1 u1.2 post) ∧ (¬ (u1.1 36) = 0 → (0 ≤ r1 → (¬ x3 = (-1 : Int32) → wp_Pl_variablePlace u1.1 u1.2 x3 ((r1 + (2 : Int32)) &&& (31 : Int32)) (fun (r46 : Int32) (u46 : gS) => wp_Pl_placeOrder_J55 u46.1 u46.2 x1 x2 r1 ((r1 + (2 : Int32)) &&& (31 : Int32)) ((r46 - ((r1 + (2 : Int32)) &&& (31 : Int32))) &&& (31 : Int32)) post)) ∧ (x3 = (-1 : Int32) → wp_Pl_placeOrder_J55 u1.1 u1.2 x1 x2 r1 ((r1 + (2 : Int32)) &&& (31 : Int32)) (0 : Int32) post)) ∧ (¬ 0 ≤ r1 → wp_Pl_placeOrder_J18 u1.1 u1.2 post)))
def wp_Pl_placeStop_J30 (σ : Nat → Int32) (α : Nat → Nat → Int32) (post : gS → Prop) : Prop := post (σ, α)
def wp_Pl_placeStop (σ : Nat → Int32) (α : Nat → Nat → Int32) (post : gS → Prop) : Prop := wp_Pl_placeOrder σ α (0 : Int32) (1 : Int32) (-1 : Int32) (fun (u4 : gS) => ((u4.1 36) = 0 → wp_Pl_placeStop_J30 u4.1 u4.2 post) ∧ (¬ (u4.1 36) = 0 → vp_in (u4.1 34) 64 ∧ (wp_Pl_placeStop_J30 (va_up u4.1 34 (-1 : Int32)) (va_up u4.2 25 (upd (u4.2 25) (u4.1 34).toNatClampNeg (1015824 : Int32))) post)))
def wp_Pl_forkSpot_J55 (XL2 : (Nat → Int32) → (Nat → Nat → Int32) → Int32 → Prop) (XL20 : (Nat → Int32) → (Nat → Nat → Int32) → Int32 → Int32 → Int32 → Prop) (σ : Nat → Int32) (α : Nat → Nat → Int32) (a1 : Int32) (a2 : Int32) (a3 : Int32) (post : Int32 → gS → Prop) : Prop := XL20 σ α a1 a2 (a3 + Int32.ofInt 1)
def wp_Pl_forkSpot_B20 (XL2 : (Nat → Int32) → (Nat → Nat → Int32) → Int32 → Prop) (XL20 : (Nat → Int32) → (Nat → Nat → Int32) → Int32 → Int32 → Int32 → Prop) (σ : Nat → Int32) (α : Nat → Nat → Int32) (a1 : Int32) (a2 : Int32) (a3 : Int32) (post : Int32 → gS → Prop) : Prop := ((2 : Int32) ≤ a3 → XL2 σ α (a1 + Int32.ofInt 1)) ∧ (¬ (2 : Int32) ≤ a3 → wp_Pl_isFree σ α a3 a2 (fun (r28 : Int32) (u28 : gS) => (r28 = 0 → wp_Pl_forkSpot_J55 XL2 XL20 u28.1 u28.2 a1 a2 a3 post) ∧ (¬ r28 = 0 → wp_Pl_isFree u28.1 u28.2 a3 ((a2 + (1 : Int32)) &&& (31 : Int32)) (fun (r42 : Int32) (u42 : gS) => (r42 = 0 → wp_Pl_forkSpot_J55 XL2 XL20 u42.1 u42.2 a1 a2 a3 post) ∧ (¬ r42 = 0 → post ((a3 * (32 : Int32)) + a2) (u42.1, u42.2))))))
def wp_Pl_forkSpot_L20 (XL2 : (Nat → Int32) → (Nat → Nat → Int32) → Int32 → Prop) (σ : Nat → Int32) (α : Nat → Nat → Int32) (a1 : Int32) (a2 : Int32) (a3 : Int32) (post : Int32 → gS → Prop) : Prop := ∀ XL20 : (Nat → Int32) → (Nat → Nat → Int32) → Int32 → Int32 → Int32 → Prop, (∀ (σ : Nat → Int32) (α : Nat → Nat → Int32) (a1 : Int32) (a2 : Int32) (a3 : Int32), wp_Pl_forkSpot_B20 XL2 XL20 σ α a1 a2 a3 post → XL20 σ α a1 a2 a3) → XL20 σ α a1 a2 a3
def wp_Pl_forkSpot_B2 (XL2 : (Nat → Int32) → (Nat → Nat → Int32) → Int32 → Prop) (σ : Nat → Int32) (α : Nat → Nat → Int32) (a1 : Int32) (post : Int32 → gS → Prop) : Prop := ((32 : Int32) ≤ a1 → post (-1 : Int32) (σ, α)) ∧ (¬ (32 : Int32) ≤ a1 → wp_Pl_forkSpot_L20 XL2 σ α a1 (((σ 33) + a1) &&& (31 : Int32)) (0 : Int32) post)
def wp_Pl_forkSpot_L2 (σ : Nat → Int32) (α : Nat → Nat → Int32) (a1 : Int32) (post : Int32 → gS → Prop) : Prop := ∀ XL2 : (Nat → Int32) → (Nat → Nat → Int32) → Int32 → Prop, (∀ (σ : Nat → Int32) (α : Nat → Nat → Int32) (a1 : Int32), wp_Pl_forkSpot_B2 XL2 σ α a1 post → XL2 σ α a1) → XL2 σ α a1
def wp_Pl_forkSpot (σ : Nat → Int32) (α : Nat → Nat → Int32) (post : Int32 → gS → Prop) : Prop := wp_Pl_forkSpot_L2 σ α (1 : Int32) post
def wp_Pl_placeFork_J16 (σ : Nat → Int32) (α : Nat → Nat → Int32) (post : gS → Prop) : Prop := post ((va_up σ 36 (0 : Int32)), α)
def wp_Pl_placeFork (σ : Nat → Int32) (α : Nat → Nat → Int32) (x1 : Int32) (post : gS → Prop) : Prop := wp_Pl_forkSpot σ α (fun (r1 : Int32) (u1 : gS) => ((u1.1 36) = 0 → wp_Pl_placeFork_J16 u1.1 u1.2 post) ∧ (¬ (u1.1 36) = 0 → (0 ≤ r1 → wp_Pl_occupy u1.1 u1.2 r1 (0 : Int32) (fun (u37 : gS) => vp_in ((r1 &&& (32 : Int32)) ||| ((r1 + (1 : Int32)) &&& (31 : Int32))) 64 ∧ (vp_in x1 12 ∧ (post ((va_up (va_up u37.1 33 ((r1 + (2 : Int32)) &&& (31 : Int32))) 35 ((u37.1 35) + (1 : Int32))), (va_up (va_up u37.2 25 (upd (u37.2 25) ((r1 &&& (32 : Int32)) ||| ((r1 + (1 : Int32)) &&& (31 : Int32))).toNatClampNeg (0 : Int32))) 29 (upd (u37.2 29) x1.toNatClampNeg ((r1 &&& (32 : Int32)) ||| ((r1 + (1 : Int32)) &&& (31 : Int32)))))))))) ∧ (¬ 0 ≤ r1 → wp_Pl_placeFork_J16 u1.1 u1.2 post)))
def wp_Pl_placeStatement_J189 (σ : Nat → Int32) (α : Nat → Nat → Int32) (post : gS → Prop) : Prop := post (σ, α)
def wp_Pl_placeStatement (σ : Nat → Int32) (α : Nat → Nat → Int32) (x2 : Int32) (post : gS → Prop) : Prop := vp_in x2 12 ∧ (vp_in x2 12 ∧ (vp_in x2 12 ∧ (((α 13 x2.toNatClampNeg) = 0 → wp_Pl_placeOrder σ α (2 : Int32) (6 : Int32) (α 14 x2.toNatClampNeg) (fun (u65 : gS) => vp_in x2 12 ∧ (wp_Pl_placeOrder u65.1 u65.2 (2 : Int32) (9 : Int32) (u65.2 15 x2.toNatClampNeg) (fun (u78 : gS) => wp_Pl_placeOrder u78.1 u78.2 (6 : Int32) (2 : Int32) (α 16 x2.toNatClampNeg) (fun (u87 : gS) => wp_Pl_placeStatement_J189 u87.1 u87.2 post))))) ∧ ((α 13 x2.toNatClampNeg) = 1 → wp_Pl_placeOrder σ α (2 : Int32) (6 : Int32) (α 14 x2.toNatClampNeg) (fun (u98 : gS) => vp_in x2 12 ∧ (wp_Pl_placeOrder u98.1 u98.2 (2 : Int32) (10 : Int32) (u98.2 15 x2.toNatClampNeg) (fun (u111 : gS) => wp_Pl_placeOrder u111.1 u111.2 (6 : Int32) (2 : Int32) (α 16 x2.toNatClampNeg) (fun (u120 : gS) => wp_Pl_placeStatement_J189 u120.1 u120.2 post))))) ∧ ((α 13 x2.toNatClampNeg) = 2 → wp_Pl_placeOrder σ α (2 : Int32) (6 : Int32) (α 14 x2.toNatClampNeg) (fun (u131 : gS) => wp_Pl_placeOrder u131.1 u131.2 (6 : Int32) (2 : Int32) (α 16 x2.toNatClampNeg) (fun (u140 : gS) => wp_Pl_placeStatement_J189 u140.1 u140.2 post))) ∧ ((α 13 x2.toNatClampNeg) = 3 → wp_Pl_placeOrder σ α (2 : Int32) (15 : Int32) (α 14 x2.toNatClampNeg) (fun (u151 : gS) => wp_Pl_placeStatement_J189 u151.1 u151.2 post)) ∧ ((α 13 x2.toNatClampNeg) = 4 → wp_Pl_placeOrder σ α (2 : Int32) (11 : Int32) (α 14 x2.toNatClampNeg) (fun (u162 : gS) => wp_Pl_placeFork u162.1 u162.2 x2 (fun (u167 : gS) => wp_Pl_placeStatement_J189 u167.1 u167.2 post))) ∧ ((α 13 x2.toNatClampNeg) = 5 → wp_Pl_placeOrder σ α (13 : Int32) (2 : Int32) (α 16 x2.toNatClampNeg) (fun (u179 : gS) => wp_Pl_placeStatement_J189 u179.1 u179.2 post)) ∧ ((α 13 x2.toNatClampNeg).toInt < 0 ∨ 5 < (α 13 x2.toNatClampNeg).toInt → wp_Pl_placeStop σ α (fun (u186 : gS) => wp_Pl_placeStatement_J189 u186.1 u186.2 post)))))
def wp_Pl_leadBranches_J41 (XL2 : (Nat → Int32) → (Nat → Nat → Int32) → Int32 → Prop) (σ : Nat → Int32) (α : Nat → Nat → Int32) (a2 : Int32) (post : gS → Prop) : Prop := XL2 σ α (a2 + Int32.ofInt 1)
def wp_Pl_leadBranches_B2 (XL2 : (Nat → Int32) → (Nat → Nat → Int32) → Int32 → Prop) (σ : Nat → Int32) (α : Nat → Nat → Int32) (a2 : Int32) (post : gS → Prop) : Prop := ((σ 28) ≤ a2 → post (σ, α)) ∧ (¬ (σ 28) ≤ a2 → vp_in a2 12 ∧ (((α 29 a2.toNatClampNeg) = (-1 : Int32) → wp_Pl_leadBranches_J41 XL2 σ α a2 post) ∧ (¬ (α 29 a2.toNatClampNeg) = (-1 : Int32) → vp_in a2 12 ∧ (vp_in a2 12 ∧ (vp_in (α 17 a2.toNatClampNeg) 12 ∧ (wp_Pl_lead σ α (α 29 a2.toNatClampNeg) (α 28 (α 17 a2.toNatClampNeg).toNatClampNeg) (fun (u38 : gS) => wp_Pl_leadBranches_J41 XL2 u38.1 u38.2 a2 post)))))))
def wp_Pl_leadBranches_L2 (σ : Nat → Int32) (α : Nat → Nat → Int32) (a2 : Int32) (post : gS → Prop) : Prop := ∀ XL2 : (Nat → Int32) → (Nat → Nat → Int32) → Int32 → Prop, (∀ (σ : Nat → Int32) (α : Nat → Nat → Int32) (a2 : Int32), wp_Pl_leadBranches_B2 XL2 σ α a2 post → XL2 σ α a2) → XL2 σ α a2
def wp_Pl_leadBranches (σ : Nat → Int32) (α : Nat → Nat → Int32) (post : gS → Prop) : Prop := wp_Pl_leadBranches_L2 σ α (0 : Int32) post
def wp_Pl_fillWithStops_J26 (XL2 : (Nat → Int32) → (Nat → Nat → Int32) → Int32 → Prop) (σ : Nat → Int32) (α : Nat → Nat → Int32) (a1 : Int32) (post : gS → Prop) : Prop := XL2 σ α (a1 + Int32.ofInt 1)
def wp_Pl_fillWithStops_B2 (XL2 : (Nat → Int32) → (Nat → Nat → Int32) → Int32 → Prop) (σ : Nat → Int32) (α : Nat → Nat → Int32) (a1 : Int32) (post : gS → Prop) : Prop := ((64 : Int32) ≤ a1 → post (σ, α)) ∧ (¬ (64 : Int32) ≤ a1 → vp_in a1 64 ∧ ((¬ (α 25 a1.toNatClampNeg) = (-1 : Int32) → wp_Pl_fillWithStops_J26 XL2 σ α a1 post) ∧ ((α 25 a1.toNatClampNeg) = (-1 : Int32) → vp_in a1 64 ∧ (wp_Pl_fillWithStops_J26 XL2 σ (va_up α 25 (upd (α 25) a1.toNatClampNeg (1015824 : Int32))) a1 post))))
def wp_Pl_fillWithStops_L2 (σ : Nat → Int32) (α : Nat → Nat → Int32) (a1 : Int32) (post : gS → Prop) : Prop := ∀ XL2 : (Nat → Int32) → (Nat → Nat → Int32) → Int32 → Prop, (∀ (σ : Nat → Int32) (α : Nat → Nat → Int32) (a1 : Int32), wp_Pl_fillWithStops_B2 XL2 σ α a1 post → XL2 σ α a1) → XL2 σ α a1
def wp_Pl_fillWithStops (σ : Nat → Int32) (α : Nat → Nat → Int32) (post : gS → Prop) : Prop := wp_Pl_fillWithStops_L2 σ α (0 : Int32) post
def wp_Pl_placeAll_J63 (σ : Nat → Int32) (α : Nat → Nat → Int32) (post : Int32 → gS → Prop) : Prop := narrow .boolean (.int (σ 36)) = .int (σ 36) ∧ (post (σ 36) (σ, α))
def wp_Pl_placeAll_J47 (σ : Nat → Int32) (α : Nat → Nat → Int32) (post : Int32 → gS → Prop) : Prop := ((σ 36) = 0 → wp_Pl_placeAll_J63 σ α post) ∧ (¬ (σ 36) = 0 → wp_Pl_leadBranches σ α (fun (u56 : gS) => wp_Pl_fillWithStops u56.1 u56.2 (fun (u60 : gS) => wp_Pl_placeAll_J63 u60.1 u60.2 post)))
def wp_Pl_placeAll_B6 (XL6 : (Nat → Int32) → (Nat → Nat → Int32) → Int32 → Prop) (σ : Nat → Int32) (α : Nat → Nat → Int32) (a2 : Int32) (post : Int32 → gS → Prop) : Prop := ((σ 28) ≤ a2 → wp_Pr_endsWithHalt σ α (fun (r37 : Int32) (u37 : gS) => (¬ r37 = 0 → wp_Pl_placeAll_J47 u37.1 u37.2 post) ∧ (r37 = 0 → wp_Pl_placeStop u37.1 u37.2 (fun (u44 : gS) => wp_Pl_placeAll_J47 u44.1 u44.2 post)))) ∧ (¬ (σ 28) ≤ a2 → wp_Pl_freeSpot σ α (fun (r20 : Int32) (u20 : gS) => vp_in a2 12 ∧ (wp_Pl_placeStatement u20.1 (va_up u20.2 28 (upd (u20.2 28) a2.toNatClampNeg r20)) a2 (fun (u27 : gS) => XL6 u27.1 u27.2 (a2 + Int32.ofInt 1)))))
def wp_Pl_placeAll_L6 (σ : Nat → Int32) (α : Nat → Nat → Int32) (a2 : Int32) (post : Int32 → gS → Prop) : Prop := ∀ XL6 : (Nat → Int32) → (Nat → Nat → Int32) → Int32 → Prop, (∀ (σ : Nat → Int32) (α : Nat → Nat → Int32) (a2 : Int32), wp_Pl_placeAll_B6 XL6 σ α a2 post → XL6 σ α a2) → XL6 σ α a2
def wp_Pl_placeAll (σ : Nat → Int32) (α : Nat → Nat → Int32) (post : Int32 → gS → Prop) : Prop := wp_Pl_forget σ α (fun (u1 : gS) => wp_Pl_placeAll_L6 u1.1 u1.2 (0 : Int32) post)
def wp_Dm_assemble_J30 (kp : Nat → Nat) (tp : Nat → Nat) (σ : Nat → Int32) (α : Nat → Nat → Int32) (post : Int32 → gSP → Prop) : Prop := post (-1 : Int32) (kp, tp, σ, α)
def wp_Dm_assemble (kp : Nat → Nat) (tp : Nat → Nat) (σ : Nat → Int32) (α : Nat → Nat → Int32) (post : Int32 → gSP → Prop) : Prop := (¬ (σ 7) = 0 → wp_Dm_assemble_J30 kp tp σ α post) ∧ ((σ 7) = 0 → ((σ 28) = 0 → wp_Dm_assemble_J30 kp tp σ α post) ∧ (¬ (σ 28) = 0 → wp_Pr_allGotosLead σ α (fun (r24 : Int32) (u24 : gS) => (¬ r24 = 0 → wp_Pl_placeAll u24.1 u24.2 (fun (r40 : Int32) (u40 : gS) => (¬ r40 = 0 → post (u40.1 35) (tp, kp, (va_up (va_up (va_up (va_up (va_up (va_up (va_up (va_up u40.1 29 (u40.1 33)) 30 (u40.1 34)) 31 (u40.1 35)) 32 (u40.1 36)) 33 (u40.1 29)) 34 (u40.1 30)) 35 (u40.1 31)) 36 (u40.1 32)), (va_up (va_up (va_up (va_up (va_up (va_up (va_up (va_up (va_up (va_up (va_up u40.2 2 (va_cpy (u40.2 25) (u40.2 2) (0 : Int32).toNatClampNeg (0 : Int32).toNatClampNeg (64 : Int32).toNatClampNeg)) 19 (u40.2 25)) 20 (u40.2 26)) 21 (u40.2 27)) 22 (u40.2 28)) 23 (u40.2 29)) 25 (u40.2 19)) 26 (u40.2 20)) 27 (u40.2 21)) 28 (u40.2 22)) 29 (u40.2 23)))) ∧ (r40 = 0 → post (-1 : Int32) (kp, tp, u40.1, u40.2)))) ∧ (r24 = 0 → wp_Dm_assemble_J30 kp tp u24.1 u24.2 post))))
def wp_Dm_placed_J23 (σ : Nat → Int32) (α : Nat → Nat → Int32) (t0 : Int32) (post : Int32 → gS → Prop) : Prop := post t0 (σ, α)
def wp_Dm_placed_J10 (σ : Nat → Int32) (α : Nat → Nat → Int32) (post : Int32 → gS → Prop) : Prop := wp_Dm_placed_J23 σ α (-1 : Int32) post
def wp_Dm_placed (σ : Nat → Int32) (α : Nat → Nat → Int32) (x1 : Int32) (post : Int32 → gS → Prop) : Prop := (x1 < 0 → wp_Dm_placed_J10 σ α post) ∧ (¬ x1 < 0 → (x1 < (12 : Int32) → vp_in x1 12 ∧ (wp_Dm_placed_J23 σ α (α 22 x1.toNatClampNeg) post)) ∧ (¬ x1 < (12 : Int32) → wp_Dm_placed_J10 σ α post))
def wp_Dm_variable_J20 (σ : Nat → Int32) (α : Nat → Nat → Int32) (t0 : Int32) (post : Int32 → gS → Prop) : Prop := post t0 (σ, α)
def wp_Dm_variable (σ : Nat → Int32) (α : Nat → Nat → Int32) (x1 : Int32) (post : Int32 → gS → Prop) : Prop := wp_Pr_isVariable σ α x1 (fun (r1 : Int32) (u1 : gS) => (r1 = 0 → wp_Dm_variable_J20 u1.1 u1.2 (-1 : Int32) post) ∧ (¬ r1 = 0 → vp_in x1 16 ∧ (wp_Dm_variable_J20 u1.1 u1.2 (u1.2 21 x1.toNatClampNeg) post)))
def wp_Md_isOrder_J24 (σ : Nat → Int32) (α : Nat → Nat → Int32) (t0 : Int32) (post : Int32 → gS → Prop) : Prop := narrow .boolean (.int t0) = .int t0 ∧ (post t0 (σ, α))
def wp_Md_isOrder_J23 (σ : Nat → Int32) (α : Nat → Nat → Int32) (post : Int32 → gS → Prop) : Prop := wp_Md_isOrder_J24 σ α (0 : Int32) post
def wp_Md_isOrder_J9 (σ : Nat → Int32) (α : Nat → Nat → Int32) (a1 : Int32) (post : Int32 → gS → Prop) : Prop := (a1 < 0 → wp_Md_isOrder_J23 σ α post) ∧ (¬ a1 < 0 → ((32 : Int32) ≤ a1 → wp_Md_isOrder_J23 σ α post) ∧ (¬ (32 : Int32) ≤ a1 → wp_Md_isOrder_J24 σ α (1 : Int32) post))
def wp_Md_isOrder (σ : Nat → Int32) (α : Nat → Nat → Int32) (x0 : Int32) (x1 : Int32) (post : Int32 → gS → Prop) : Prop := (x0 = 0 → wp_Md_isOrder_J9 σ α x1 post) ∧ (¬ x0 = 0 → (¬ x0 = (1 : Int32) → wp_Md_isOrder_J23 σ α post) ∧ (x0 = (1 : Int32) → wp_Md_isOrder_J9 σ α x1 post))
def wp_Md_order_J18 (σ : Nat → Int32) (α : Nat → Nat → Int32) (post : Int32 → gS → Prop) : Prop := post (0 : Int32) (σ, α)
def wp_Md_order (σ : Nat → Int32) (α : Nat → Nat → Int32) (x1 : Int32) (x2 : Int32) (x3 : Int32) (post : Int32 → gS → Prop) : Prop := wp_Md_isOrder σ α x1 x2 (fun (r2 : Int32) (u2 : gS) => (r2 = 0 → wp_Md_order_J18 u2.1 u2.2 post) ∧ (¬ r2 = 0 → (x3 < 0 → wp_Md_order_J18 u2.1 u2.2 post) ∧ (¬ x3 < 0 → (x3 ≤ (2097151 : Int32) → vp_in (((32 : Int32) * x1) + x2) 64 ∧ (post (1 : Int32) (u2.1, (va_up u2.2 1 (upd (u2.2 1) (((32 : Int32) * x1) + x2).toNatClampNeg x3))))) ∧ (¬ x3 ≤ (2097151 : Int32) → wp_Md_order_J18 u2.1 u2.2 post))))
def wp_Md_wordAt_J87 (σ : Nat → Int32) (α : Nat → Nat → Int32) (t0 : Int32) (post : Int32 → gS → Prop) : Prop := post t0 (σ, α)
def wp_Md_wordAt_J86 (σ : Nat → Int32) (α : Nat → Nat → Int32) (post : Int32 → gS → Prop) : Prop := wp_Md_wordAt_J87 σ α (-1 : Int32) post
def wp_Md_wordAt_J78 (σ : Nat → Int32) (α : Nat → Nat → Int32) (a1 : Int32) (post : Int32 → gS → Prop) : Prop := wp_Md_wordAt_J87 σ α ((130 : Int32) + a1) post
def wp_Md_wordAt_J62 (σ : Nat → Int32) (α : Nat → Nat → Int32) (t0 : Int32) (post : Int32 → gS → Prop) : Prop := post t0 (σ, α)
def wp_Md_wordAt_J46 (σ : Nat → Int32) (α : Nat → Nat → Int32) (a0 : Int32) (a1 : Int32) (post : Int32 → gS → Prop) : Prop := (¬ a1 = 0 → wp_Md_wordAt_J62 σ α (-1 : Int32) post) ∧ (a1 = 0 → wp_Md_wordAt_J62 σ α (((128 : Int32) + a0) - (6 : Int32)) post)
def wp_Md_wordAt_J34 (σ : Nat → Int32) (α : Nat → Nat → Int32) (a0 : Int32) (a1 : Int32) (post : Int32 → gS → Prop) : Prop := (a0 = (6 : Int32) → wp_Md_wordAt_J46 σ α a0 a1 post) ∧ (¬ a0 = (6 : Int32) → (¬ a0 = (7 : Int32) → (¬ a0 = (8 : Int32) → wp_Md_wordAt_J86 σ α post) ∧ (a0 = (8 : Int32) → (a1 = 0 → wp_Md_wordAt_J78 σ α a1 post) ∧ (¬ a1 = 0 → (¬ a1 = (1 : Int32) → wp_Md_wordAt_J86 σ α post) ∧ (a1 = (1 : Int32) → wp_Md_wordAt_J78 σ α a1 post)))) ∧ (a0 = (7 : Int32) → wp_Md_wordAt_J46 σ α a0 a1 post))
def wp_Md_wordAt_J33 (σ : Nat → Int32) (α : Nat → Nat → Int32) (t0 : Int32) (post : Int32 → gS → Prop) : Prop := post t0 (σ, α)
def wp_Md_wordAt_J32 (σ : Nat → Int32) (α : Nat → Nat → Int32) (post : Int32 → gS → Prop) : Prop := wp_Md_wordAt_J33 σ α (-1 : Int32) post
def wp_Md_wordAt (σ : Nat → Int32) (α : Nat → Nat → Int32) (x0 : Int32) (x1 : Int32) (post : Int32 → gS → Prop) : Prop := (x0 ≤ (1 : Int32) → wp_Md_wordAt_J34 σ α x0 x1 post) ∧ (¬ x0 ≤ (1 : Int32) → ((6 : Int32) ≤ x0 → wp_Md_wordAt_J34 σ α x0 x1 post) ∧ (¬ (6 : Int32) ≤ x0 → (x1 < 0 → wp_Md_wordAt_J32 σ α post) ∧ (¬ x1 < 0 → ((32 : Int32) ≤ x1 → wp_Md_wordAt_J32 σ α post) ∧ (¬ (32 : Int32) ≤ x1 → wp_Md_wordAt_J33 σ α (((32 : Int32) * (x0 - (2 : Int32))) + x1) post))))
def wp_Md_word_J30 (σ : Nat → Int32) (α : Nat → Nat → Int32) (t0 : Int32) (post : Int32 → gS → Prop) : Prop := narrow .boolean (.int t0) = .int t0 ∧ (post t0 (σ, α))
def wp_Md_word_J20 (σ : Nat → Int32) (α : Nat → Nat → Int32) (a4 : Int32) (post : Int32 → gS → Prop) : Prop := (a4 < 0 → wp_Md_word_J30 σ α (0 : Int32) post) ∧ (¬ a4 < 0 → wp_Md_word_J30 σ α (1 : Int32) post)
def wp_Md_word (σ : Nat → Int32) (α : Nat → Nat → Int32) (x1 : Int32) (x2 : Int32) (x3 : Int32) (post : Int32 → gS → Prop) : Prop := wp_Md_wordAt σ α x1 x2 (fun (r2 : Int32) (u2 : gS) => (r2 < 0 → wp_Md_word_J20 u2.1 u2.2 r2 post) ∧ (¬ r2 < 0 → vp_in r2 132 ∧ (wp_Md_word_J20 u2.1 (va_up u2.2 2 (upd (u2.2 2) r2.toNatClampNeg (vp_nar .short x3))) r2 post)))
def wp_Md_card (σ : Nat → Int32) (α : Nat → Nat → Int32) (x1 : Int32) (post : Int32 → gS → Prop) : Prop := (¬ (σ 18) = (48 : Int32) → vp_in (σ 17) 48 ∧ (post (1 : Int32) ((va_up (va_up σ 17 ((σ 17) + (1 : Int32))) 18 ((σ 18) + (1 : Int32))), (va_up α 3 (upd (α 3) (σ 17).toNatClampNeg (vp_nar .short x1)))))) ∧ ((σ 18) = (48 : Int32) → post (0 : Int32) (σ, α))
def wp_Md_start_B73 (XL73 : (Nat → Int32) → (Nat → Nat → Int32) → Int32 → Int32 → Prop) (σ : Nat → Int32) (α : Nat → Nat → Int32) (a1 : Int32) (a2 : Int32) (post : Int32 → gS → Prop) : Prop := (((σ 3) - (σ 3) / (32 : Int32) * (32 : Int32)) = a2 → post (1 : Int32) ((va_up σ 4 a1), α)) ∧ (¬ ((σ 3) - (σ 3) / (32 : Int32) * (32 : Int32)) = a2 → XL73 (va_up σ 3 ((σ 3) + (1 : Int32))) α a1 a2)
def wp_Md_start_L73 (σ : Nat → Int32) (α : Nat → Nat → Int32) (a1 : Int32) (a2 : Int32) (post : Int32 → gS → Prop) : Prop := ∀ XL73 : (Nat → Int32) → (Nat → Nat → Int32) → Int32 → Int32 → Prop, (∀ (σ : Nat → Int32) (α : Nat → Nat → Int32) (a1 : Int32) (a2 : Int32), wp_Md_start_B73 XL73 σ α a1 a2 post → XL73 σ α a1 a2) → XL73 σ α a1 a2
def wp_Md_start (σ : Nat → Int32) (α : Nat → Nat → Int32) (x1 : Int32) (x2 : Int32) (post : Int32 → gS → Prop) : Prop := wp_Md_isOrder σ α x1 x2 (fun (r2 : Int32) (u2 : gS) => (¬ r2 = 0 → wp_Md_start_L73 (va_up (va_up (va_up (va_up (va_up (va_up (va_up (va_up (va_up (va_up (va_up (va_up u2.1 1 (1 : Int32)) 2 (0 : Int32)) 3 (u2.1 0)) 5 (-1 : Int32)) 6 (-1 : Int32)) 7 (0 : Int32)) 9 (0 : Int32)) 10 (-1 : Int32)) 12 (0 : Int32)) 13 (-1 : Int32)) 15 (0 : Int32)) 19 (-1 : Int32)) u2.2 x1 x2 post) ∧ (r2 = 0 → post (0 : Int32) (u2.1, u2.2)))
def wp_Md_waitOf (σ : Nat → Int32) (α : Nat → Nat → Int32) (x0 : Int32) (post : Int32 → gS → Prop) : Prop := post ((x0 >>> ((10 : Int32) &&& 31)) &&& (31 : Int32)) (σ, α)
def wp_Md_gapOf_J24 (σ : Nat → Int32) (α : Nat → Nat → Int32) (t0 : Int32) (post : Int32 → gS → Prop) : Prop := post t0 (σ, α)
def wp_Md_gapOf (σ : Nat → Int32) (α : Nat → Nat → Int32) (x0 : Int32) (post : Int32 → gS → Prop) : Prop := wp_Md_waitOf σ α x0 (fun (r10 : Int32) (u10 : gS) => (r10 ≤ ((x0 >>> ((15 : Int32) &&& 31)) &&& (31 : Int32)) → wp_Md_gapOf_J24 u10.1 u10.2 ((x0 >>> ((15 : Int32) &&& 31)) &&& (31 : Int32)) post) ∧ (¬ r10 ≤ ((x0 >>> ((15 : Int32) &&& 31)) &&& (31 : Int32)) → wp_Md_gapOf_J24 u10.1 u10.2 (((x0 >>> ((15 : Int32) &&& 31)) &&& (31 : Int32)) + (32 : Int32)) post))
def wp_Md_read_0_J143 (σ : Nat → Int32) (α : Nat → Nat → Int32) (t0 : Int32) (post : gS → Prop) : Prop := wp_Md_gapOf (va_up σ 10 t0) α (σ 8) (fun (r157 : Int32) (u157 : gS) => post ((va_up (va_up (va_up u157.1 3 (((σ 0) + (2 : Int32)) + r157)) 4 ((u157.1 8) >>> ((20 : Int32) &&& 31))) 14 (0 : Int32)), u157.2))
def wp_Md_read_0 (σ : Nat → Int32) (α : Nat → Nat → Int32) (post : gS → Prop) : Prop := vp_in (((32 : Int32) * (σ 4)) + ((σ 0) - (σ 0) / (32 : Int32) * (32 : Int32))) 64 ∧ (wp_Md_waitOf (va_up (va_up (va_up (va_up (va_up (va_up (va_up σ 5 (σ 4)) 6 ((σ 0) - (σ 0) / (32 : Int32) * (32 : Int32))) 7 ((σ 7) + (1 : Int32))) 8 (α 1 (((32 : Int32) * (σ 4)) + ((σ 0) - (σ 0) / (32 : Int32) * (32 : Int32))).toNatClampNeg)) 11 (σ 8)) 12 (σ 9)) 13 (σ 10)) α (α 1 (((32 : Int32) * (σ 4)) + ((σ 0) - (σ 0) / (32 : Int32) * (32 : Int32))).toNatClampNeg) (fun (r95 : Int32) (u95 : gS) => (¬ (((α 1 (((32 : Int32) * (σ 4)) + ((σ 0) - (σ 0) / (32 : Int32) * (32 : Int32))).toNatClampNeg) >>> ((8 : Int32) &&& 31)) &&& (3 : Int32)) = (1 : Int32) → (¬ (((α 1 (((32 : Int32) * (σ 4)) + ((σ 0) - (σ 0) / (32 : Int32) * (32 : Int32))).toNatClampNeg) >>> ((8 : Int32) &&& 31)) &&& (3 : Int32)) = (2 : Int32) → wp_Md_read_0_J143 (va_up u95.1 9 (((σ 0) + (2 : Int32)) + r95)) u95.2 (((σ 0) + (2 : Int32)) + r95) post) ∧ ((((α 1 (((32 : Int32) * (σ 4)) + ((σ 0) - (σ 0) / (32 : Int32) * (32 : Int32))).toNatClampNeg) >>> ((8 : Int32) &&& 31)) &&& (3 : Int32)) = (2 : Int32) → wp_Md_gapOf (va_up u95.1 9 (((σ 0) + (2 : Int32)) + r95)) u95.2 (u95.1 8) (fun (r132 : Int32) (u132 : gS) => wp_Md_read_0_J143 u132.1 u132.2 (((u95.1 0) + (2 : Int32)) + r132) post))) ∧ ((((α 1 (((32 : Int32) * (σ 4)) + ((σ 0) - (σ 0) / (32 : Int32) * (32 : Int32))).toNatClampNeg) >>> ((8 : Int32) &&& 31)) &&& (3 : Int32)) = (1 : Int32) → wp_Md_read_0_J143 (va_up u95.1 9 (((σ 0) + (2 : Int32)) + r95)) u95.2 ((((σ 0) + (2 : Int32)) + r95) + (1 : Int32)) post)))
def wp_Md_row_J49 (σ : Nat → Int32) (α : Nat → Nat → Int32) (t0 : Int32) (post : Int32 → gS → Prop) : Prop := post t0 (σ, α)
def wp_Md_row_J41 (σ : Nat → Int32) (α : Nat → Nat → Int32) (post : Int32 → gS → Prop) : Prop := wp_Md_row_J49 σ α (-1 : Int32) post
def wp_Md_row (σ : Nat → Int32) (α : Nat → Nat → Int32) (post : Int32 → gS → Prop) : Prop := ((σ 19) < 0 → wp_Md_row_J41 σ α post) ∧ (¬ (σ 19) < 0 → ((((σ 0) - (σ 19)) - (40 : Int32)) < 0 → wp_Md_row_J41 σ α post) ∧ (¬ (((σ 0) - (σ 19)) - (40 : Int32)) < 0 → ((2 : Int32) < ((((σ 0) - (σ 19)) - (40 : Int32)) - (((σ 0) - (σ 19)) - (40 : Int32)) / (8 : Int32) * (8 : Int32)) → wp_Md_row_J41 σ α post) ∧ (¬ (2 : Int32) < ((((σ 0) - (σ 19)) - (40 : Int32)) - (((σ 0) - (σ 19)) - (40 : Int32)) / (8 : Int32) * (8 : Int32)) → (((((σ 0) - (σ 19)) - (40 : Int32)) / (8 : Int32)) ≤ (11 : Int32) → wp_Md_row_J49 σ α ((((σ 0) - (σ 19)) - (40 : Int32)) / (8 : Int32)) post) ∧ (¬ ((((σ 0) - (σ 19)) - (40 : Int32)) / (8 : Int32)) ≤ (11 : Int32) → wp_Md_row_J41 σ α post))))
def wp_Md_get_J187 (σ : Nat → Int32) (α : Nat → Nat → Int32) (t0 : Int32) (post : Int32 → gS → Prop) : Prop := narrow .short (.int t0) = .int t0 ∧ (post t0 (σ, α))
def wp_Md_get_J96 (σ : Nat → Int32) (α : Nat → Nat → Int32) (a1 : Int32) (post : Int32 → gS → Prop) : Prop := vp_in (((32 : Int32) * (a1 - (2 : Int32))) + ((σ 0) - (σ 0) / (32 : Int32) * (32 : Int32))) 132 ∧ (narrow .short (.int (α 2 (((32 : Int32) * (a1 - (2 : Int32))) + ((σ 0) - (σ 0) / (32 : Int32) * (32 : Int32))).toNatClampNeg)) = .int (α 2 (((32 : Int32) * (a1 - (2 : Int32))) + ((σ 0) - (σ 0) / (32 : Int32) * (32 : Int32))).toNatClampNeg) ∧ (post (α 2 (((32 : Int32) * (a1 - (2 : Int32))) + ((σ 0) - (σ 0) / (32 : Int32) * (32 : Int32))).toNatClampNeg) (σ, α)))
def wp_Md_get (σ : Nat → Int32) (α : Nat → Nat → Int32) (x1 : Int32) (post : Int32 → gS → Prop) : Prop := (x1 = 0 → post (0 : Int32) (σ, α)) ∧ (x1 = 1 → post (1 : Int32) (σ, α)) ∧ (x1 = 2 → wp_Md_get_J96 σ α x1 post) ∧ (x1 = 3 → wp_Md_get_J96 σ α x1 post) ∧ (x1 = 4 → wp_Md_get_J96 σ α x1 post) ∧ (x1 = 5 → wp_Md_get_J96 σ α x1 post) ∧ (x1 = 6 → narrow .short (.int (α 2 (128 : Int32).toNatClampNeg)) = .int (α 2 (128 : Int32).toNatClampNeg) ∧ (post (α 2 (128 : Int32).toNatClampNeg) (σ, α))) ∧ (x1 = 7 → narrow .short (.int (α 2 (129 : Int32).toNatClampNeg)) = .int (α 2 (129 : Int32).toNatClampNeg) ∧ (post (α 2 (129 : Int32).toNatClampNeg) (σ, α))) ∧ (x1 = 8 → vp_in ((130 : Int32) + ((σ 0) - (σ 0) / (2 : Int32) * (2 : Int32))) 132 ∧ (narrow .short (.int (α 2 ((130 : Int32) + ((σ 0) - (σ 0) / (2 : Int32) * (2 : Int32))).toNatClampNeg)) = .int (α 2 ((130 : Int32) + ((σ 0) - (σ 0) / (2 : Int32) * (2 : Int32))).toNatClampNeg) ∧ (post (α 2 ((130 : Int32) + ((σ 0) - (σ 0) / (2 : Int32) * (2 : Int32))).toNatClampNeg) (σ, α)))) ∧ (x1 = 9 → narrow .short (.int (((α 2 (128 : Int32).toNatClampNeg) &&& (α 2 (129 : Int32).toNatClampNeg)).toInt16.toInt32)) = .int (((α 2 (128 : Int32).toNatClampNeg) &&& (α 2 (129 : Int32).toNatClampNeg)).toInt16.toInt32) ∧ (post (((α 2 (128 : Int32).toNatClampNeg) &&& (α 2 (129 : Int32).toNatClampNeg)).toInt16.toInt32) (σ, α))) ∧ (x1 = 10 → narrow .short (.int (((α 2 (128 : Int32).toNatClampNeg) ^^^ (α 2 (129 : Int32).toNatClampNeg)).toInt16.toInt32)) = .int (((α 2 (128 : Int32).toNatClampNeg) ^^^ (α 2 (129 : Int32).toNatClampNeg)).toInt16.toInt32) ∧ (post (((α 2 (128 : Int32).toNatClampNeg) ^^^ (α 2 (129 : Int32).toNatClampNeg)).toInt16.toInt32) (σ, α))) ∧ (x1 = 11 → post (-1 : Int32) (σ, α)) ∧ (x1 = 12 → narrow .short (.int (((α 2 (128 : Int32).toNatClampNeg) >>> ((1 : Int32) &&& 31)).toInt16.toInt32)) = .int (((α 2 (128 : Int32).toNatClampNeg) >>> ((1 : Int32) &&& 31)).toInt16.toInt32) ∧ (post (((α 2 (128 : Int32).toNatClampNeg) >>> ((1 : Int32) &&& 31)).toInt16.toInt32) (σ, α))) ∧ (x1 = 13 → wp_Md_row σ α (fun (r168 : Int32) (u168 : gS) => (0 ≤ r168 → wp_Md_row u168.1 u168.2 (fun (r183 : Int32) (u183 : gS) => vp_in r183 12 ∧ (wp_Md_get_J187 u183.1 u183.2 (u183.2 4 r183.toNatClampNeg) post))) ∧ (¬ 0 ≤ r168 → wp_Md_get_J187 u168.1 u168.2 (0 : Int32) post))) ∧ (x1 = 14 → narrow .short (.int (((α 2 (128 : Int32).toNatClampNeg) ^^^ (-1 : Int32)).toInt16.toInt32)) = .int (((α 2 (128 : Int32).toNatClampNeg) ^^^ (-1 : Int32)).toInt16.toInt32) ∧ (post (((α 2 (128 : Int32).toNatClampNeg) ^^^ (-1 : Int32)).toInt16.toInt32) (σ, α))) ∧ (x1.toInt < 0 ∨ 14 < x1.toInt → narrow .short (.int ((σ 0).toInt16.toInt32)) = .int ((σ 0).toInt16.toInt32) ∧ (post ((σ 0).toInt16.toInt32) (σ, α)))
def wp_Md_fail_J16 (σ : Nat → Int32) (α : Nat → Nat → Int32) (t0 : Int32) (post : gS → Prop) : Prop := post ((va_up (va_up σ 1 (0 : Int32)) 2 t0), α)
def wp_Md_fail (σ : Nat → Int32) (α : Nat → Nat → Int32) (x1 : Int32) (post : gS → Prop) : Prop := (¬ (σ 2) = 0 → wp_Md_fail_J16 σ α (σ 2) post) ∧ ((σ 2) = 0 → wp_Md_fail_J16 σ α x1 post)
def wp_Md_feed_B76 (XL76 : (Nat → Int32) → (Nat → Nat → Int32) → Int32 → Prop) (σ : Nat → Int32) (α : Nat → Nat → Int32) (a1 : Int32) (post : gS → Prop) : Prop := ((σ 17) ≤ a1 → post ((va_up (va_up σ 19 (σ 0)) 20 (0 : Int32)), α)) ∧ (¬ (σ 17) ≤ a1 → vp_in (a1 + (12 : Int32)) 48 ∧ (vp_in a1 48 ∧ (XL76 σ (va_up α 3 (upd (α 3) a1.toNatClampNeg (vp_nar .short (α 3 (a1 + (12 : Int32)).toNatClampNeg)))) (a1 + Int32.ofInt 1))))
def wp_Md_feed_L76 (σ : Nat → Int32) (α : Nat → Nat → Int32) (a1 : Int32) (post : gS → Prop) : Prop := ∀ XL76 : (Nat → Int32) → (Nat → Nat → Int32) → Int32 → Prop, (∀ (σ : Nat → Int32) (α : Nat → Nat → Int32) (a1 : Int32), wp_Md_feed_B76 XL76 σ α a1 post → XL76 σ α a1) → XL76 σ α a1
def wp_Md_feed_B39 (XL39 : (Nat → Int32) → (Nat → Nat → Int32) → Int32 → Prop) (σ : Nat → Int32) (α : Nat → Nat → Int32) (a1 : Int32) (post : gS → Prop) : Prop := ((12 : Int32) ≤ a1 → wp_Md_feed_L76 (va_up σ 17 ((σ 17) - (12 : Int32))) α (0 : Int32) post) ∧ (¬ (12 : Int32) ≤ a1 → vp_in a1 48 ∧ (vp_in a1 12 ∧ (XL39 σ (va_up α 4 (upd (α 4) a1.toNatClampNeg (vp_nar .short (α 3 a1.toNatClampNeg)))) (a1 + Int32.ofInt 1))))
def wp_Md_feed_L39 (σ : Nat → Int32) (α : Nat → Nat → Int32) (a1 : Int32) (post : gS → Prop) : Prop := ∀ XL39 : (Nat → Int32) → (Nat → Nat → Int32) → Int32 → Prop, (∀ (σ : Nat → Int32) (α : Nat → Nat → Int32) (a1 : Int32), wp_Md_feed_B39 XL39 σ α a1 post → XL39 σ α a1) → XL39 σ α a1
def wp_Md_feed_J37 (σ : Nat → Int32) (α : Nat → Nat → Int32) (post : gS → Prop) : Prop := wp_Md_feed_L39 σ α (0 : Int32) post
def wp_Md_feed_J31 (σ : Nat → Int32) (α : Nat → Nat → Int32) (post : gS → Prop) : Prop := wp_Md_fail σ α (2 : Int32) (fun (u33 : gS) => post (u33.1, u33.2))
def wp_Md_feed (σ : Nat → Int32) (α : Nat → Nat → Int32) (post : gS → Prop) : Prop := ((σ 17) < (12 : Int32) → wp_Md_feed_J31 σ α post) ∧ (¬ (σ 17) < (12 : Int32) → ((σ 19) < 0 → wp_Md_feed_J37 σ α post) ∧ (¬ (σ 19) < 0 → (((σ 19) + (130 : Int32)) < (σ 0) → wp_Md_feed_J37 σ α post) ∧ (¬ ((σ 19) + (130 : Int32)) < (σ 0) → wp_Md_feed_J31 σ α post)))
def wp_Md_press_J23 (σ : Nat → Int32) (α : Nat → Nat → Int32) (post : gS → Prop) : Prop := wp_Md_fail σ α (3 : Int32) (fun (u25 : gS) => post (u25.1, u25.2))
def wp_Md_press (σ : Nat → Int32) (α : Nat → Nat → Int32) (x1 : Int32) (post : gS → Prop) : Prop := ((σ 21) = (60 : Int32) → wp_Md_press_J23 σ α post) ∧ (¬ (σ 21) = (60 : Int32) → ((6 : Int32) ≤ ((σ 0) - (σ 22)) → vp_in (σ 21) 60 ∧ (post ((va_up (va_up σ 21 ((σ 21) + (1 : Int32))) 22 (σ 0)), (va_up α 5 (upd (α 5) (σ 21).toNatClampNeg (vp_nar .short x1)))))) ∧ (¬ (6 : Int32) ≤ ((σ 0) - (σ 22)) → wp_Md_press_J23 σ α post))
def wp_Md_discriminate_J22 (σ : Nat → Int32) (α : Nat → Nat → Int32) (post : gS → Prop) : Prop := post (σ, α)
def wp_Md_discriminate (σ : Nat → Int32) (α : Nat → Nat → Int32) (x1 : Int32) (post : gS → Prop) : Prop := (x1 = 0 → wp_Md_discriminate_J22 σ α post) ∧ (¬ x1 = 0 → (¬ (σ 14) = 0 → wp_Md_discriminate_J22 σ α post) ∧ ((σ 14) = 0 → ((σ 0) < (σ 3) → post ((va_up (va_up σ 3 ((σ 3) + (1 : Int32))) 14 (1 : Int32)), α)) ∧ (¬ (σ 0) < (σ 3) → wp_Md_discriminate_J22 σ α post)))
def wp_Md_put_J265 (σ : Nat → Int32) (α : Nat → Nat → Int32) (post : gS → Prop) : Prop := post (σ, α)
def wp_Md_put_J215 (σ : Nat → Int32) (α : Nat → Nat → Int32) (t0 : Int32) (post : gS → Prop) : Prop := wp_Md_discriminate σ α t0 (fun (u215 : gS) => wp_Md_put_J265 u215.1 u215.2 post)
def wp_Md_put_J187 (σ : Nat → Int32) (α : Nat → Nat → Int32) (a1 : Int32) (a2 : Int32) (post : gS → Prop) : Prop := (¬ a1 = (11 : Int32) → (a2 = 0 → wp_Md_put_J215 σ α (0 : Int32) post) ∧ (¬ a2 = 0 → wp_Md_put_J215 σ α (1 : Int32) post)) ∧ (a1 = (11 : Int32) → (0 ≤ a2 → wp_Md_put_J215 σ α (0 : Int32) post) ∧ (¬ 0 ≤ a2 → wp_Md_put_J215 σ α (1 : Int32) post))
def wp_Md_put_J182 (σ : Nat → Int32) (α : Nat → Nat → Int32) (t0 : Int32) (t1 : Int32) (post : gS → Prop) : Prop := vp_in t1 132 ∧ (wp_Md_put_J265 σ (va_up α 2 (upd (α 2) t1.toNatClampNeg (vp_nar .short t0.toInt16.toInt32))) post)
def wp_Md_put_J146 (σ : Nat → Int32) (α : Nat → Nat → Int32) (a1 : Int32) (a2 : Int32) (post : gS → Prop) : Prop := (¬ a1 = (9 : Int32) → wp_Md_put_J182 σ α ((α 2 (128 : Int32).toNatClampNeg) - a2) (128 : Int32) post) ∧ (a1 = (9 : Int32) → wp_Md_put_J182 σ α ((α 2 (128 : Int32).toNatClampNeg) + a2) (128 : Int32) post)
def wp_Md_put_J110 (σ : Nat → Int32) (α : Nat → Nat → Int32) (a1 : Int32) (a2 : Int32) (post : gS → Prop) : Prop := vp_in (((128 : Int32) + a1) - (6 : Int32)) 132 ∧ (wp_Md_put_J265 σ (va_up α 2 (upd (α 2) (((128 : Int32) + a1) - (6 : Int32)).toNatClampNeg (vp_nar .short a2))) post)
def wp_Md_put_J87 (σ : Nat → Int32) (α : Nat → Nat → Int32) (a1 : Int32) (a2 : Int32) (post : gS → Prop) : Prop := vp_in (((32 : Int32) * (a1 - (2 : Int32))) + ((σ 0) - (σ 0) / (32 : Int32) * (32 : Int32))) 132 ∧ (wp_Md_put_J265 σ (va_up α 2 (upd (α 2) (((32 : Int32) * (a1 - (2 : Int32))) + ((σ 0) - (σ 0) / (32 : Int32) * (32 : Int32))).toNatClampNeg (vp_nar .short a2))) post)
def wp_Md_put (σ : Nat → Int32) (α : Nat → Nat → Int32) (x1 : Int32) (x2 : Int32) (post : gS → Prop) : Prop := (x1 = 0 → wp_Md_put_J265 σ α post) ∧ (x1 = 1 → wp_Md_put_J265 (va_up σ 1 (0 : Int32)) α post) ∧ (x1 = 2 → wp_Md_put_J87 σ α x1 x2 post) ∧ (x1 = 3 → wp_Md_put_J87 σ α x1 x2 post) ∧ (x1 = 4 → wp_Md_put_J87 σ α x1 x2 post) ∧ (x1 = 5 → wp_Md_put_J87 σ α x1 x2 post) ∧ (x1 = 6 → wp_Md_put_J110 σ α x1 x2 post) ∧ (x1 = 7 → wp_Md_put_J110 σ α x1 x2 post) ∧ (x1 = 8 → vp_in ((130 : Int32) + ((σ 0) - (σ 0) / (2 : Int32) * (2 : Int32))) 132 ∧ (wp_Md_put_J265 σ (va_up α 2 (upd (α 2) ((130 : Int32) + ((σ 0) - (σ 0) / (2 : Int32) * (2 : Int32))).toNatClampNeg (vp_nar .short x2))) post)) ∧ (x1 = 9 → wp_Md_put_J146 σ α x1 x2 post) ∧ (x1 = 10 → wp_Md_put_J146 σ α x1 x2 post) ∧ (x1 = 11 → wp_Md_put_J187 σ α x1 x2 post) ∧ (x1 = 12 → wp_Md_put_J187 σ α x1 x2 post) ∧ (x1 = 13 → wp_Md_put_J265 (va_up (va_up σ 15 (17 : Int32)) 16 x2) (va_up α 2 (upd (upd (α 2) (130 : Int32).toNatClampNeg (vp_nar .short (0 : Int32))) (131 : Int32).toNatClampNeg (vp_nar .short (0 : Int32)))) post) ∧ (x1 = 14 → wp_Md_feed σ α (fun (u254 : gS) => wp_Md_put_J265 u254.1 u254.2 post)) ∧ (x1.toInt < 0 ∨ 14 < x1.toInt → wp_Md_press σ α x2 (fun (u262 : gS) => wp_Md_put_J265 u262.1 u262.2 post))
def wp_Md_current_J59 (σ : Nat → Int32) (α : Nat → Nat → Int32) (t0 : Int32) (post : Int32 → gS → Prop) : Prop := post t0 (σ, α)
def wp_Md_current_J58 (σ : Nat → Int32) (α : Nat → Nat → Int32) (post : Int32 → gS → Prop) : Prop := wp_Md_current_J59 σ α (-1 : Int32) post
def wp_Md_current_J29 (σ : Nat → Int32) (α : Nat → Nat → Int32) (post : Int32 → gS → Prop) : Prop := ((σ 0) < (σ 12) → wp_Md_current_J58 σ α post) ∧ (¬ (σ 0) < (σ 12) → ((σ 13) < (σ 0) → wp_Md_current_J58 σ α post) ∧ (¬ (σ 13) < (σ 0) → wp_Md_current_J59 σ α (σ 11) post))
def wp_Md_current (σ : Nat → Int32) (α : Nat → Nat → Int32) (post : Int32 → gS → Prop) : Prop := ((σ 0) < (σ 9) → wp_Md_current_J29 σ α post) ∧ (¬ (σ 0) < (σ 9) → ((σ 10) < (σ 0) → wp_Md_current_J29 σ α post) ∧ (¬ (σ 10) < (σ 0) → wp_Md_current_J59 σ α (σ 8) post))
def wp_Md_multiply_J74 (σ : Nat → Int32) (α : Nat → Nat → Int32) (t0 : Int32) (t1 : Int32) (post : gS → Prop) : Prop := post ((va_up σ 16 (((σ 16) <<< ((1 : Int32) &&& 31)).toInt16.toInt32)), (va_up α 2 (upd (upd (α 2) (130 : Int32).toNatClampNeg (vp_nar .short ((t1 + t0).toInt16.toInt32))) (131 : Int32).toNatClampNeg (vp_nar .short (((t1 + t0) >>> ((16 : Int32) &&& 31)).toInt16.toInt32)))))
def wp_Md_multiply (σ : Nat → Int32) (α : Nat → Nat → Int32) (post : gS → Prop) : Prop := (¬ (σ 15) = 0 → (¬ ((σ 15) - (1 : Int32)) = (16 : Int32) → (0 ≤ (σ 16) → wp_Md_multiply_J74 (va_up σ 15 ((σ 15) - (1 : Int32))) α (0 : Int32) ((2 : Int32) * (((α 2 (131 : Int32).toNatClampNeg) <<< ((16 : Int32) &&& 31)) ||| ((α 2 (130 : Int32).toNatClampNeg) &&& (65535 : Int32)))) post) ∧ (¬ 0 ≤ (σ 16) → wp_Md_multiply_J74 (va_up σ 15 ((σ 15) - (1 : Int32))) α (α 2 (129 : Int32).toNatClampNeg) ((2 : Int32) * (((α 2 (131 : Int32).toNatClampNeg) <<< ((16 : Int32) &&& 31)) ||| ((α 2 (130 : Int32).toNatClampNeg) &&& (65535 : Int32)))) post)) ∧ (((σ 15) - (1 : Int32)) = (16 : Int32) → post ((va_up σ 15 ((σ 15) - (1 : Int32))), α))) ∧ ((σ 15) = 0 → post (σ, α))
def wp_Md_cycle_J209 (σ : Nat → Int32) (α : Nat → Nat → Int32) (post : gS → Prop) : Prop := post ((va_up σ 0 ((σ 0) + (1 : Int32))), α)
def wp_Md_cycle_J181 (σ : Nat → Int32) (α : Nat → Nat → Int32) (a1 : Int32) (a2 : Int32) (post : gS → Prop) : Prop := wp_Md_multiply σ α (fun (u182 : gS) => (a1 < 0 → wp_Md_cycle_J209 u182.1 u182.2 post) ∧ (¬ a1 < 0 → (¬ (a2 - a2 / (8 : Int32) * (8 : Int32)) = (2 : Int32) → wp_Md_cycle_J209 u182.1 u182.2 post) ∧ ((a2 - a2 / (8 : Int32) * (8 : Int32)) = (2 : Int32) → (¬ (u182.1 20) = 0 → wp_Md_cycle_J209 u182.1 u182.2 post) ∧ ((u182.1 20) = 0 → wp_Md_fail u182.1 u182.2 (1 : Int32) (fun (u206 : gS) => wp_Md_cycle_J209 u206.1 u206.2 post)))))
def wp_Md_cycle_J168 (σ : Nat → Int32) (α : Nat → Nat → Int32) (a1 : Int32) (a2 : Int32) (a4 : Int32) (a5 : Int32) (post : gS → Prop) : Prop := wp_Md_put σ α ((a4 >>> ((4 : Int32) &&& 31)) &&& (15 : Int32)) a5 (fun (u178 : gS) => wp_Md_cycle_J181 u178.1 u178.2 a1 a2 post)
def wp_Md_cycle_J137 (σ : Nat → Int32) (α : Nat → Nat → Int32) (a1 : Int32) (a2 : Int32) (a3 : Int32) (a4 : Int32) (a5 : Int32) (t0 : Int32) (post : gS → Prop) : Prop := (narrow .boolean (.int t0) = .int t0 ∧ fits .boolean (.int t0) = true) ∧ ((¬ a3 = 0 → wp_Md_cycle_J168 (va_up σ 20 t0) α a1 a2 a4 a5 post) ∧ (a3 = 0 → (((a4 >>> ((4 : Int32) &&& 31)) &&& (15 : Int32)) = (11 : Int32) → wp_Md_cycle_J181 (va_up σ 20 t0) α a1 a2 post) ∧ (¬ ((a4 >>> ((4 : Int32) &&& 31)) &&& (15 : Int32)) = (11 : Int32) → (((a4 >>> ((4 : Int32) &&& 31)) &&& (15 : Int32)) = (12 : Int32) → wp_Md_cycle_J181 (va_up σ 20 t0) α a1 a2 post) ∧ (¬ ((a4 >>> ((4 : Int32) &&& 31)) &&& (15 : Int32)) = (12 : Int32) → wp_Md_cycle_J168 (va_up σ 20 t0) α a1 a2 a4 a5 post))))
def wp_Md_cycle_J136 (σ : Nat → Int32) (α : Nat → Nat → Int32) (a1 : Int32) (a2 : Int32) (a3 : Int32) (a4 : Int32) (a5 : Int32) (post : gS → Prop) : Prop := wp_Md_cycle_J137 σ α a1 a2 a3 a4 a5 (0 : Int32) post
def wp_Md_cycle_J132 (σ : Nat → Int32) (α : Nat → Nat → Int32) (a1 : Int32) (a2 : Int32) (a3 : Int32) (a4 : Int32) (a5 : Int32) (post : gS → Prop) : Prop := wp_Md_cycle_J137 σ α a1 a2 a3 a4 a5 (1 : Int32) post
def wp_Md_cycle_J87 (σ : Nat → Int32) (α : Nat → Nat → Int32) (a1 : Int32) (a2 : Int32) (t0 : Int32) (post : gS → Prop) : Prop := wp_Md_current σ α (fun (r89 : Int32) (u89 : gS) => (r89 < 0 → wp_Md_cycle_J181 u89.1 u89.2 a1 a2 post) ∧ (¬ r89 < 0 → wp_Md_get u89.1 u89.2 (r89 &&& (15 : Int32)) (fun (r105 : Int32) (u105 : gS) => (¬ (u105.1 20) = 0 → wp_Md_cycle_J132 u105.1 u105.2 a1 a2 t0 r89 r105 post) ∧ ((u105.1 20) = 0 → (a1 < 0 → wp_Md_cycle_J136 u105.1 u105.2 a1 a2 t0 r89 r105 post) ∧ (¬ a1 < 0 → (¬ (r89 &&& (15 : Int32)) = (13 : Int32) → wp_Md_cycle_J136 u105.1 u105.2 a1 a2 t0 r89 r105 post) ∧ ((r89 &&& (15 : Int32)) = (13 : Int32) → wp_Md_cycle_J132 u105.1 u105.2 a1 a2 t0 r89 r105 post))))))
def wp_Md_cycle_J86 (σ : Nat → Int32) (α : Nat → Nat → Int32) (a1 : Int32) (a2 : Int32) (post : gS → Prop) : Prop := wp_Md_cycle_J87 σ α a1 a2 (0 : Int32) post
def wp_Md_cycle_J57 (σ : Nat → Int32) (α : Nat → Nat → Int32) (a1 : Int32) (a2 : Int32) (t0 : Int32) (post : gS → Prop) : Prop := (narrow .boolean (.int t0) = .int t0 ∧ fits .boolean (.int t0) = true) ∧ (((σ 0) < (σ 9) → wp_Md_cycle_J86 (va_up σ 20 t0) α a1 a2 post) ∧ (¬ (σ 0) < (σ 9) → ((σ 10) < (σ 0) → wp_Md_cycle_J86 (va_up σ 20 t0) α a1 a2 post) ∧ (¬ (σ 10) < (σ 0) → wp_Md_cycle_J87 (va_up σ 20 t0) α a1 a2 (1 : Int32) post)))
def wp_Md_cycle_J56 (σ : Nat → Int32) (α : Nat → Nat → Int32) (a1 : Int32) (a2 : Int32) (post : gS → Prop) : Prop := wp_Md_cycle_J57 σ α a1 a2 (0 : Int32) post
def wp_Md_cycle_J52 (σ : Nat → Int32) (α : Nat → Nat → Int32) (a1 : Int32) (a2 : Int32) (post : gS → Prop) : Prop := wp_Md_cycle_J57 σ α a1 a2 (1 : Int32) post
def wp_Md_cycle_J15 (σ : Nat → Int32) (α : Nat → Nat → Int32) (post : gS → Prop) : Prop := wp_Md_row σ α (fun (r16 : Int32) (u16 : gS) => ((u16.1 20) = 0 → wp_Md_cycle_J56 u16.1 u16.2 r16 (((u16.1 0) - (u16.1 19)) - (40 : Int32)) post) ∧ (¬ (u16.1 20) = 0 → (r16 < 0 → wp_Md_cycle_J52 u16.1 u16.2 r16 (((u16.1 0) - (u16.1 19)) - (40 : Int32)) post) ∧ (¬ r16 < 0 → (((((u16.1 0) - (u16.1 19)) - (40 : Int32)) - (((u16.1 0) - (u16.1 19)) - (40 : Int32)) / (8 : Int32) * (8 : Int32)) = 0 → wp_Md_cycle_J56 u16.1 u16.2 r16 (((u16.1 0) - (u16.1 19)) - (40 : Int32)) post) ∧ (¬ ((((u16.1 0) - (u16.1 19)) - (40 : Int32)) - (((u16.1 0) - (u16.1 19)) - (40 : Int32)) / (8 : Int32) * (8 : Int32)) = 0 → wp_Md_cycle_J52 u16.1 u16.2 r16 (((u16.1 0) - (u16.1 19)) - (40 : Int32)) post))))
def wp_Md_cycle (σ : Nat → Int32) (α : Nat → Nat → Int32) (post : gS → Prop) : Prop := (¬ (σ 0) = (σ 3) → wp_Md_cycle_J15 σ α post) ∧ ((σ 0) = (σ 3) → wp_Md_read_0 σ α (fun (u12 : gS) => wp_Md_cycle_J15 u12.1 u12.2 post))
def wp_Md_run_J37 (σ : Nat → Int32) (α : Nat → Nat → Int32) (a2 : Int32) (post : Int32 → gS → Prop) : Prop := post a2 (σ, α)
def wp_Md_run_B15 (XL15 : (Nat → Int32) → (Nat → Nat → Int32) → Int32 → Int32 → Prop) (σ : Nat → Int32) (α : Nat → Nat → Int32) (a1 : Int32) (a2 : Int32) (post : Int32 → gS → Prop) : Prop := (a1 ≤ a2 → wp_Md_run_J37 σ α a2 post) ∧ (¬ a1 ≤ a2 → ((σ 1) = 0 → wp_Md_run_J37 σ α a2 post) ∧ (¬ (σ 1) = 0 → wp_Md_cycle σ α (fun (u28 : gS) => XL15 u28.1 u28.2 a1 (a2 + Int32.ofInt 1))))
def wp_Md_run_L15 (σ : Nat → Int32) (α : Nat → Nat → Int32) (a1 : Int32) (a2 : Int32) (post : Int32 → gS → Prop) : Prop := ∀ XL15 : (Nat → Int32) → (Nat → Nat → Int32) → Int32 → Int32 → Prop, (∀ (σ : Nat → Int32) (α : Nat → Nat → Int32) (a1 : Int32) (a2 : Int32), wp_Md_run_B15 XL15 σ α a1 a2 post → XL15 σ α a1 a2) → XL15 σ α a1 a2
def wp_Md_run_J11 (σ : Nat → Int32) (α : Nat → Nat → Int32) (post : Int32 → gS → Prop) : Prop := post (-1 : Int32) (σ, α)
def wp_Md_run (σ : Nat → Int32) (α : Nat → Nat → Int32) (x1 : Int32) (post : Int32 → gS → Prop) : Prop := (x1 < 0 → wp_Md_run_J11 σ α post) ∧ (¬ x1 < 0 → (x1 ≤ (2000 : Int32) → wp_Md_run_L15 σ α x1 (0 : Int32) post) ∧ (¬ x1 ≤ (2000 : Int32) → wp_Md_run_J11 σ α post))
def wp_Md_look_J106 (σ : Nat → Int32) (α : Nat → Nat → Int32) (t0 : Int32) (post : Int32 → gS → Prop) : Prop := post t0 (σ, α)
def wp_Md_look_J90 (σ : Nat → Int32) (α : Nat → Nat → Int32) (t0 : Int32) (post : Int32 → gS → Prop) : Prop := post t0 (σ, α)
def wp_Md_look_J64 (σ : Nat → Int32) (α : Nat → Nat → Int32) (t0 : Int32) (post : Int32 → gS → Prop) : Prop := post t0 (σ, α)
def wp_Md_look (σ : Nat → Int32) (α : Nat → Nat → Int32) (x1 : Int32) (post : Int32 → gS → Prop) : Prop := (x1 = 0 → ((σ 1) = 0 → wp_Md_look_J64 σ α (0 : Int32) post) ∧ (¬ (σ 1) = 0 → wp_Md_look_J64 σ α (1 : Int32) post)) ∧ (x1 = 1 → post (σ 2) (σ, α)) ∧ (x1 = 2 → post (σ 0) (σ, α)) ∧ (x1 = 3 → (¬ (σ 7) = 0 → wp_Md_look_J90 σ α (σ 5) post) ∧ ((σ 7) = 0 → wp_Md_look_J90 σ α (-1 : Int32) post)) ∧ (x1 = 4 → (¬ (σ 7) = 0 → wp_Md_look_J106 σ α (σ 6) post) ∧ ((σ 7) = 0 → wp_Md_look_J106 σ α (-1 : Int32) post)) ∧ (x1 = 5 → post (σ 7) (σ, α)) ∧ (x1 = 6 → post (σ 17) (σ, α)) ∧ (x1 = 7 → post (σ 21) (σ, α)) ∧ (x1 = 8 → post (σ 15) (σ, α)) ∧ (x1.toInt < 0 ∨ 8 < x1.toInt → post (-1 : Int32) (σ, α))
def wp_Md_peek_J20 (σ : Nat → Int32) (α : Nat → Nat → Int32) (t0 : Int32) (post : Int32 → gS → Prop) : Prop := narrow .short (.int t0) = .int t0 ∧ (post t0 (σ, α))
def wp_Md_peek (σ : Nat → Int32) (α : Nat → Nat → Int32) (x1 : Int32) (x2 : Int32) (post : Int32 → gS → Prop) : Prop := wp_Md_wordAt σ α x1 x2 (fun (r2 : Int32) (u2 : gS) => (0 ≤ r2 → vp_in r2 132 ∧ (wp_Md_peek_J20 u2.1 u2.2 (u2.2 2 r2.toNatClampNeg) post)) ∧ (¬ 0 ≤ r2 → wp_Md_peek_J20 u2.1 u2.2 (0 : Int32) post))
def wp_Md_read_II_J23 (σ : Nat → Int32) (α : Nat → Nat → Int32) (t0 : Int32) (post : Int32 → gS → Prop) : Prop := post t0 (σ, α)
def wp_Md_read_II (σ : Nat → Int32) (α : Nat → Nat → Int32) (x1 : Int32) (x2 : Int32) (post : Int32 → gS → Prop) : Prop := wp_Md_isOrder σ α x1 x2 (fun (r2 : Int32) (u2 : gS) => (r2 = 0 → wp_Md_read_II_J23 u2.1 u2.2 (-1 : Int32) post) ∧ (¬ r2 = 0 → vp_in (((32 : Int32) * x1) + x2) 64 ∧ (wp_Md_read_II_J23 u2.1 u2.2 (u2.2 1 (((32 : Int32) * x1) + x2).toNatClampNeg) post)))
def wp_Md_punched_J22 (σ : Nat → Int32) (α : Nat → Nat → Int32) (t0 : Int32) (post : Int32 → gS → Prop) : Prop := narrow .short (.int t0) = .int t0 ∧ (post t0 (σ, α))
def wp_Md_punched_J12 (σ : Nat → Int32) (α : Nat → Nat → Int32) (post : Int32 → gS → Prop) : Prop := wp_Md_punched_J22 σ α (0 : Int32) post
def wp_Md_punched (σ : Nat → Int32) (α : Nat → Nat → Int32) (x1 : Int32) (post : Int32 → gS → Prop) : Prop := (x1 < 0 → wp_Md_punched_J12 σ α post) ∧ (¬ x1 < 0 → (x1 < (σ 21) → vp_in x1 60 ∧ (wp_Md_punched_J22 σ α (α 5 x1.toNatClampNeg) post)) ∧ (¬ x1 < (σ 21) → wp_Md_punched_J12 σ α post))
def wp_Md_isVariable_J15 (σ : Nat → Int32) (α : Nat → Nat → Int32) (t0 : Int32) (post : Int32 → gS → Prop) : Prop := narrow .boolean (.int t0) = .int t0 ∧ (post t0 (σ, α))
def wp_Md_isVariable_J14 (σ : Nat → Int32) (α : Nat → Nat → Int32) (post : Int32 → gS → Prop) : Prop := wp_Md_isVariable_J15 σ α (0 : Int32) post
def wp_Md_isVariable (σ : Nat → Int32) (α : Nat → Nat → Int32) (x0 : Int32) (post : Int32 → gS → Prop) : Prop := (x0 < 0 → wp_Md_isVariable_J14 σ α post) ∧ (¬ x0 < 0 → ((16 : Int32) ≤ x0 → wp_Md_isVariable_J14 σ α post) ∧ (¬ (16 : Int32) ≤ x0 → wp_Md_isVariable_J15 σ α (1 : Int32) post))
def wp_Md_statement_J70 (σ : Nat → Int32) (α : Nat → Nat → Int32) (post : Int32 → gS → Prop) : Prop := post (-1 : Int32) (σ, α)
def wp_Md_statement_J54 (σ : Nat → Int32) (α : Nat → Nat → Int32) (a1 : Int32) (a2 : Int32) (a3 : Int32) (a4 : Int32) (a5 : Int32) (t0 : Int32) (post : Int32 → gS → Prop) : Prop := ((σ 23) = (12 : Int32) → wp_Md_statement_J70 σ α post) ∧ (¬ (σ 23) = (12 : Int32) → (¬ t0 = 0 → vp_in (σ 23) 12 ∧ (vp_in (σ 23) 12 ∧ (vp_in (σ 23) 12 ∧ (vp_in (σ 23) 12 ∧ (vp_in (σ 23) 12 ∧ (post (((σ 23) + (1 : Int32)) - (1 : Int32)) ((va_up σ 23 ((σ 23) + (1 : Int32))), (va_up (va_up (va_up (va_up (va_up α 6 (upd (α 6) (σ 23).toNatClampNeg a1)) 7 (upd (α 7) (σ 23).toNatClampNeg a2)) 8 (upd (α 8) (σ 23).toNatClampNeg a3)) 9 (upd (α 9) (σ 23).toNatClampNeg a4)) 10 (upd (α 10) (σ 23).toNatClampNeg a5))))))))) ∧ (t0 = 0 → wp_Md_statement_J70 σ α post))
def wp_Md_statement_J53 (σ : Nat → Int32) (α : Nat → Nat → Int32) (a1 : Int32) (a2 : Int32) (a3 : Int32) (a4 : Int32) (a5 : Int32) (post : Int32 → gS → Prop) : Prop := wp_Md_statement_J54 σ α a1 a2 a3 a4 a5 (0 : Int32) post
def wp_Md_statement_J49 (σ : Nat → Int32) (α : Nat → Nat → Int32) (a1 : Int32) (a2 : Int32) (a3 : Int32) (a4 : Int32) (a5 : Int32) (post : Int32 → gS → Prop) : Prop := wp_Md_statement_J54 σ α a1 a2 a3 a4 a5 (1 : Int32) post
def wp_Md_statement (σ : Nat → Int32) (α : Nat → Nat → Int32) (x1 : Int32) (x2 : Int32) (x3 : Int32) (x4 : Int32) (x5 : Int32) (post : Int32 → gS → Prop) : Prop := (x1 < 0 → wp_Md_statement_J53 σ α x1 x2 x3 x4 x5 post) ∧ (¬ x1 < 0 → ((6 : Int32) < x1 → wp_Md_statement_J53 σ α x1 x2 x3 x4 x5 post) ∧ (¬ (6 : Int32) < x1 → wp_Md_isVariable σ α x2 (fun (r11 : Int32) (u11 : gS) => (r11 = 0 → wp_Md_statement_J53 u11.1 u11.2 x1 x2 x3 x4 x5 post) ∧ (¬ r11 = 0 → wp_Md_isVariable u11.1 u11.2 x3 (fun (r18 : Int32) (u18 : gS) => (r18 = 0 → wp_Md_statement_J53 u18.1 u18.2 x1 x2 x3 x4 x5 post) ∧ (¬ r18 = 0 → wp_Md_isVariable u18.1 u18.2 x4 (fun (r26 : Int32) (u26 : gS) => (r26 = 0 → wp_Md_statement_J53 u26.1 u26.2 x1 x2 x3 x4 x5 post) ∧ (¬ r26 = 0 → (¬ x1 = (4 : Int32) → wp_Md_statement_J49 u26.1 u26.2 x1 x2 x3 x4 x5 post) ∧ (x1 = (4 : Int32) → (x5 < 0 → wp_Md_statement_J53 u26.1 u26.2 x1 x2 x3 x4 x5 post) ∧ (¬ x5 < 0 → ((11 : Int32) < x5 → wp_Md_statement_J53 u26.1 u26.2 x1 x2 x3 x4 x5 post) ∧ (¬ (11 : Int32) < x5 → wp_Md_statement_J49 u26.1 u26.2 x1 x2 x3 x4 x5 post)))))))))))
def wp_Md_clear (σ : Nat → Int32) (α : Nat → Nat → Int32) (post : gS → Prop) : Prop := post ((va_up σ 23 (0 : Int32)), α)
def wp_Md_list (σ : Nat → Int32) (α : Nat → Nat → Int32) (x1 : Int32) (x2 : Int32) (x3 : Int32) (x4 : Int32) (post : gS → Prop) : Prop := vp_in (σ 24) 64 ∧ (vp_in (σ 24) 64 ∧ (vp_in (σ 24) 64 ∧ (vp_in (σ 24) 64 ∧ (post ((va_up σ 24 ((σ 24) + (1 : Int32))), (va_up (va_up (va_up (va_up α 11 (upd (α 11) (σ 24).toNatClampNeg x1)) 12 (upd (α 12) (σ 24).toNatClampNeg x2)) 13 (upd (α 13) (σ 24).toNatClampNeg x3)) 14 (upd (α 14) (σ 24).toNatClampNeg x4)))))))
def wp_Md_listAll_J238 (σ : Nat → Int32) (α : Nat → Nat → Int32) (post : gS → Prop) : Prop := post (σ, α)
def wp_Md_listAll_J208 (XL7 : (Nat → Int32) → (Nat → Nat → Int32) → Int32 → Prop) (σ : Nat → Int32) (α : Nat → Nat → Int32) (a1 : Int32) (post : gS → Prop) : Prop := XL7 σ α (a1 + Int32.ofInt 1)
def wp_Md_listAll_J107 (XL7 : (Nat → Int32) → (Nat → Nat → Int32) → Int32 → Prop) (σ : Nat → Int32) (α : Nat → Nat → Int32) (a1 : Int32) (a3 : Int32) (a4 : Int32) (t0 : Int32) (t1 : Int32) (post : gS → Prop) : Prop := wp_Md_list σ α t1 t0 a3 a1 (fun (u109 : gS) => wp_Md_list u109.1 u109.2 (6 : Int32) (2 : Int32) a4 a1 (fun (u119 : gS) => wp_Md_listAll_J208 XL7 u119.1 u119.2 a1 post))
def wp_Md_listAll_J80 (XL7 : (Nat → Int32) → (Nat → Nat → Int32) → Int32 → Prop) (σ : Nat → Int32) (α : Nat → Nat → Int32) (a1 : Int32) (a2 : Int32) (a3 : Int32) (a4 : Int32) (post : gS → Prop) : Prop := wp_Md_list σ α (2 : Int32) (6 : Int32) a2 a1 (fun (u86 : gS) => vp_in a1 12 ∧ ((¬ (u86.2 6 a1.toNatClampNeg) = 0 → wp_Md_listAll_J107 XL7 u86.1 u86.2 a1 a3 a4 (10 : Int32) (2 : Int32) post) ∧ ((u86.2 6 a1.toNatClampNeg) = 0 → wp_Md_listAll_J107 XL7 u86.1 u86.2 a1 a3 a4 (9 : Int32) (2 : Int32) post)))
def wp_Md_listAll_B7 (XL7 : (Nat → Int32) → (Nat → Nat → Int32) → Int32 → Prop) (σ : Nat → Int32) (α : Nat → Nat → Int32) (a1 : Int32) (post : gS → Prop) : Prop := ((σ 23) ≤ a1 → vp_in ((σ 23) - (1 : Int32)) 12 ∧ (((α 6 ((σ 23) - (1 : Int32)).toNatClampNeg) = (6 : Int32) → wp_Md_listAll_J238 σ α post) ∧ (¬ (α 6 ((σ 23) - (1 : Int32)).toNatClampNeg) = (6 : Int32) → wp_Md_list σ α (0 : Int32) (1 : Int32) (-1 : Int32) (-1 : Int32) (fun (u235 : gS) => wp_Md_listAll_J238 u235.1 u235.2 post)))) ∧ (¬ (σ 23) ≤ a1 → vp_in a1 12 ∧ (vp_in a1 12 ∧ (vp_in a1 12 ∧ (vp_in a1 12 ∧ (((α 6 a1.toNatClampNeg) = 0 → wp_Md_listAll_J80 XL7 σ α a1 (α 7 a1.toNatClampNeg) (α 8 a1.toNatClampNeg) (α 9 a1.toNatClampNeg) post) ∧ ((α 6 a1.toNatClampNeg) = 1 → wp_Md_listAll_J80 XL7 σ α a1 (α 7 a1.toNatClampNeg) (α 8 a1.toNatClampNeg) (α 9 a1.toNatClampNeg) post) ∧ ((α 6 a1.toNatClampNeg) = 2 → wp_Md_list σ α (2 : Int32) (6 : Int32) (α 7 a1.toNatClampNeg) a1 (fun (u131 : gS) => wp_Md_list u131.1 u131.2 (6 : Int32) (2 : Int32) (α 9 a1.toNatClampNeg) a1 (fun (u141 : gS) => wp_Md_listAll_J208 XL7 u141.1 u141.2 a1 post))) ∧ ((α 6 a1.toNatClampNeg) = 3 → wp_Md_list σ α (2 : Int32) (15 : Int32) (α 7 a1.toNatClampNeg) a1 (fun (u153 : gS) => wp_Md_listAll_J208 XL7 u153.1 u153.2 a1 post)) ∧ ((α 6 a1.toNatClampNeg) = 4 → wp_Md_list σ α (2 : Int32) (11 : Int32) (α 7 a1.toNatClampNeg) a1 (fun (u165 : gS) => wp_Md_list u165.1 u165.2 (0 : Int32) (0 : Int32) (-1 : Int32) a1 (fun (u173 : gS) => wp_Md_list u173.1 u173.2 (0 : Int32) (0 : Int32) (-1 : Int32) a1 (fun (u181 : gS) => wp_Md_listAll_J208 XL7 u181.1 u181.2 a1 post)))) ∧ ((α 6 a1.toNatClampNeg) = 5 → wp_Md_list σ α (13 : Int32) (2 : Int32) (α 9 a1.toNatClampNeg) a1 (fun (u194 : gS) => wp_Md_listAll_J208 XL7 u194.1 u194.2 a1 post)) ∧ ((α 6 a1.toNatClampNeg).toInt < 0 ∨ 5 < (α 6 a1.toNatClampNeg).toInt → wp_Md_list σ α (0 : Int32) (1 : Int32) (-1 : Int32) a1 (fun (u205 : gS) => wp_Md_listAll_J208 XL7 u205.1 u205.2 a1 post)))))))
def wp_Md_listAll_L7 (σ : Nat → Int32) (α : Nat → Nat → Int32) (a1 : Int32) (post : gS → Prop) : Prop := ∀ XL7 : (Nat → Int32) → (Nat → Nat → Int32) → Int32 → Prop, (∀ (σ : Nat → Int32) (α : Nat → Nat → Int32) (a1 : Int32), wp_Md_listAll_B7 XL7 σ α a1 post → XL7 σ α a1) → XL7 σ α a1
def wp_Md_listAll (σ : Nat → Int32) (α : Nat → Nat → Int32) (post : gS → Prop) : Prop := wp_Md_listAll_L7 (va_up σ 24 (0 : Int32)) α (0 : Int32) post
def wp_Md_free_J98 (XL2 : (Nat → Int32) → (Nat → Nat → Int32) → Int32 → Int32 → Int32 → Prop) (σ : Nat → Int32) (α : Nat → Nat → Int32) (a1 : Int32) (a2 : Int32) (a3 : Int32) (post : Int32 → gS → Prop) : Prop := XL2 σ α a1 a2 (a3 + Int32.ofInt 1)
def wp_Md_free_J66 (XL2 : (Nat → Int32) → (Nat → Nat → Int32) → Int32 → Int32 → Int32 → Prop) (σ : Nat → Int32) (α : Nat → Nat → Int32) (a1 : Int32) (a2 : Int32) (a3 : Int32) (a4 : Int32) (a5 : Int32) (post : Int32 → gS → Prop) : Prop := vp_in ((32 : Int32) + a4) 64 ∧ ((¬ (α 17 ((32 : Int32) + a4).toNatClampNeg) = 0 → wp_Md_free_J98 XL2 σ α a1 a2 a3 post) ∧ ((α 17 ((32 : Int32) + a4).toNatClampNeg) = 0 → vp_in ((32 : Int32) + a5) 64 ∧ ((¬ (α 17 ((32 : Int32) + a5).toNatClampNeg) = 0 → wp_Md_free_J98 XL2 σ α a1 a2 a3 post) ∧ ((α 17 ((32 : Int32) + a5).toNatClampNeg) = 0 → post ((32 : Int32) + a4) (σ, α)))))
def wp_Md_free_J41 (XL2 : (Nat → Int32) → (Nat → Nat → Int32) → Int32 → Int32 → Int32 → Prop) (σ : Nat → Int32) (α : Nat → Nat → Int32) (a1 : Int32) (a2 : Int32) (a3 : Int32) (a4 : Int32) (t0 : Int32) (post : Int32 → gS → Prop) : Prop := vp_in a4 64 ∧ ((¬ (α 17 a4.toNatClampNeg) = 0 → wp_Md_free_J66 XL2 σ α a1 a2 a3 a4 t0 post) ∧ ((α 17 a4.toNatClampNeg) = 0 → vp_in t0 64 ∧ ((¬ (α 17 t0.toNatClampNeg) = 0 → wp_Md_free_J66 XL2 σ α a1 a2 a3 a4 t0 post) ∧ ((α 17 t0.toNatClampNeg) = 0 → post a4 (σ, α)))))
def wp_Md_free_J14 (XL2 : (Nat → Int32) → (Nat → Nat → Int32) → Int32 → Int32 → Int32 → Prop) (σ : Nat → Int32) (α : Nat → Nat → Int32) (a1 : Int32) (a2 : Int32) (a3 : Int32) (t0 : Int32) (t1 : Int32) (post : Int32 → gS → Prop) : Prop := (t0 ≤ t1 → post (-1 : Int32) (σ, α)) ∧ (¬ t0 ≤ t1 → (a2 = 0 → wp_Md_free_J41 XL2 σ α a1 a2 a3 ((a1 + a3) &&& (31 : Int32)) ((a1 + a3) &&& (31 : Int32)) post) ∧ (¬ a2 = 0 → wp_Md_free_J41 XL2 σ α a1 a2 a3 ((a1 + a3) &&& (31 : Int32)) ((((a1 + a3) &&& (31 : Int32)) + (1 : Int32)) &&& (31 : Int32)) post))
def wp_Md_free_B2 (XL2 : (Nat → Int32) → (Nat → Nat → Int32) → Int32 → Int32 → Int32 → Prop) (σ : Nat → Int32) (α : Nat → Nat → Int32) (a1 : Int32) (a2 : Int32) (a3 : Int32) (post : Int32 → gS → Prop) : Prop := (a2 = 0 → wp_Md_free_J14 XL2 σ α a1 a2 a3 (32 : Int32) a3 post) ∧ (¬ a2 = 0 → wp_Md_free_J14 XL2 σ α a1 a2 a3 (31 : Int32) a3 post)
def wp_Md_free_L2 (σ : Nat → Int32) (α : Nat → Nat → Int32) (a1 : Int32) (a2 : Int32) (a3 : Int32) (post : Int32 → gS → Prop) : Prop := ∀ XL2 : (Nat → Int32) → (Nat → Nat → Int32) → Int32 → Int32 → Int32 → Prop, (∀ (σ : Nat → Int32) (α : Nat → Nat → Int32) (a1 : Int32) (a2 : Int32) (a3 : Int32), wp_Md_free_B2 XL2 σ α a1 a2 a3 post → XL2 σ α a1 a2 a3) → XL2 σ α a1 a2 a3
def wp_Md_free (σ : Nat → Int32) (α : Nat → Nat → Int32) (x1 : Int32) (x2 : Int32) (post : Int32 → gS → Prop) : Prop := wp_Md_free_L2 σ α x1 x2 (0 : Int32) post
def wp_Md_variableFrom_J30 (XL5 : (Nat → Int32) → (Nat → Nat → Int32) → Int32 → Int32 → Prop) (σ : Nat → Int32) (α : Nat → Nat → Int32) (a1 : Int32) (a3 : Int32) (post : Int32 → gS → Prop) : Prop := XL5 σ α a1 ((a3 + (1 : Int32)) &&& (31 : Int32))
def wp_Md_variableFrom_B5 (XL5 : (Nat → Int32) → (Nat → Nat → Int32) → Int32 → Int32 → Prop) (σ : Nat → Int32) (α : Nat → Nat → Int32) (a1 : Int32) (a3 : Int32) (post : Int32 → gS → Prop) : Prop := vp_in a1 16 ∧ ((0 ≤ (α 19 a1.toNatClampNeg) → vp_in a1 16 ∧ (vp_in (α 19 a1.toNatClampNeg) 32 ∧ (vp_in a1 16 ∧ (post (α 19 a1.toNatClampNeg) (σ, (va_up α 18 (upd (α 18) (α 19 a1.toNatClampNeg).toNatClampNeg (vp_nar .boolean (1 : Int32))))))))) ∧ (¬ 0 ≤ (α 19 a1.toNatClampNeg) → vp_in a3 32 ∧ ((¬ (α 18 a3.toNatClampNeg) = 0 → wp_Md_variableFrom_J30 XL5 σ α a1 a3 post) ∧ ((α 18 a3.toNatClampNeg) = 0 → vp_in a1 16 ∧ (wp_Md_variableFrom_J30 XL5 σ (va_up α 19 (upd (α 19) a1.toNatClampNeg a3)) a1 a3 post)))))
def wp_Md_variableFrom_L5 (σ : Nat → Int32) (α : Nat → Nat → Int32) (a1 : Int32) (a3 : Int32) (post : Int32 → gS → Prop) : Prop := ∀ XL5 : (Nat → Int32) → (Nat → Nat → Int32) → Int32 → Int32 → Prop, (∀ (σ : Nat → Int32) (α : Nat → Nat → Int32) (a1 : Int32) (a3 : Int32), wp_Md_variableFrom_B5 XL5 σ α a1 a3 post → XL5 σ α a1 a3) → XL5 σ α a1 a3
def wp_Md_variableFrom (σ : Nat → Int32) (α : Nat → Nat → Int32) (x1 : Int32) (x2 : Int32) (post : Int32 → gS → Prop) : Prop := wp_Md_variableFrom_L5 σ α x1 (x2 &&& (31 : Int32)) post
def wp_Md_place_J255 (XL67 : (Nat → Int32) → (Nat → Nat → Int32) → Int32 → Int32 → Prop) (σ : Nat → Int32) (α : Nat → Nat → Int32) (a1 : Int32) (a2 : Int32) (post : Int32 → gS → Prop) : Prop := XL67 σ α a1 (a2 + Int32.ofInt 1)
def wp_Md_place_J240 (XL67 : (Nat → Int32) → (Nat → Nat → Int32) → Int32 → Int32 → Prop) (σ : Nat → Int32) (α : Nat → Nat → Int32) (a2 : Int32) (a4 : Int32) (post : Int32 → gS → Prop) : Prop := vp_in a2 64 ∧ (wp_Md_place_J255 XL67 σ α (((a4 + (2 : Int32)) + (α 16 a2.toNatClampNeg)) &&& (31 : Int32)) a2 post)
def wp_Md_place_J111 (XL67 : (Nat → Int32) → (Nat → Nat → Int32) → Int32 → Int32 → Prop) (σ : Nat → Int32) (α : Nat → Nat → Int32) (a2 : Int32) (a3 : Int32) (t0 : Int32) (post : Int32 → gS → Prop) : Prop := wp_Md_free σ α t0 a3 (fun (r112 : Int32) (u112 : gS) => (0 ≤ r112 → vp_in r112 64 ∧ (vp_in a2 64 ∧ (vp_in a2 64 ∧ ((a3 = 0 → vp_in a2 64 ∧ (((u112.2 13 a2.toNatClampNeg) < 0 → wp_Md_place_J240 XL67 u112.1 (va_up (va_up (va_up u112.2 15 (upd (u112.2 15) a2.toNatClampNeg r112)) 16 (upd (u112.2 16) a2.toNatClampNeg (0 : Int32))) 17 (upd (u112.2 17) r112.toNatClampNeg (vp_nar .boolean (1 : Int32)))) a2 r112 post) ∧ (¬ (u112.2 13 a2.toNatClampNeg) < 0 → wp_Md_variableFrom u112.1 (va_up (va_up (va_up u112.2 15 (upd (u112.2 15) a2.toNatClampNeg r112)) 16 (upd (u112.2 16) a2.toNatClampNeg (0 : Int32))) 17 (upd (u112.2 17) r112.toNatClampNeg (vp_nar .boolean (1 : Int32)))) (u112.2 13 a2.toNatClampNeg) (r112 + (2 : Int32)) (fun (r228 : Int32) (u228 : gS) => vp_in a2 64 ∧ (wp_Md_place_J240 XL67 u228.1 (va_up u228.2 16 (upd (u228.2 16) a2.toNatClampNeg (((r228 - r112) - (2 : Int32)) &&& (31 : Int32)))) a2 r112 post))))) ∧ (¬ a3 = 0 → vp_in (a2 + Int32.ofInt 1) 64 ∧ (vp_in (a2 + Int32.ofInt 1) 64 ∧ (vp_in ((upd (upd (u112.2 15) a2.toNatClampNeg r112) (a2 + Int32.ofInt 1).toNatClampNeg ((r112 &&& (32 : Int32)) ||| ((r112 + (1 : Int32)) &&& (31 : Int32)))) (a2 + Int32.ofInt 1).toNatClampNeg) 64 ∧ (vp_in (a2 + Int32.ofInt 1) 64 ∧ (wp_Md_place_J255 XL67 u112.1 (va_up (va_up (va_up u112.2 15 (upd (upd (u112.2 15) a2.toNatClampNeg r112) (a2 + Int32.ofInt 1).toNatClampNeg ((r112 &&& (32 : Int32)) ||| ((r112 + (1 : Int32)) &&& (31 : Int32))))) 16 (upd (upd (u112.2 16) a2.toNatClampNeg (0 : Int32)) (a2 + Int32.ofInt 1).toNatClampNeg (0 : Int32))) 17 (upd (upd (u112.2 17) r112.toNatClampNeg (vp_nar .boolean (1 : Int32))) ((upd (upd (u112.2 15) a2.toNatClampNeg r112) (a2 + Int32.ofInt 1).toNatClampNeg ((r112 &&& (32 : Int32)) ||| ((r112 + (1 : Int32)) &&& (31 : Int32)))) (a2 + Int32.ofInt 1).toNatClampNeg).toNatClampNeg (vp_nar .boolean (1 : Int32)))) ((r112 + (2 : Int32)) &&& (31 : Int32)) (a2 + Int32.ofInt 1) post))))))))) ∧ (¬ 0 ≤ r112 → post (0 : Int32) (u112.1, u112.2)))
def wp_Md_place_J98 (XL67 : (Nat → Int32) → (Nat → Nat → Int32) → Int32 → Int32 → Prop) (σ : Nat → Int32) (α : Nat → Nat → Int32) (a1 : Int32) (a2 : Int32) (t0 : Int32) (post : Int32 → gS → Prop) : Prop := (t0 = 0 → wp_Md_place_J111 XL67 σ α a2 t0 a1 post) ∧ (¬ t0 = 0 → wp_Md_place_J111 XL67 σ α a2 t0 (a1 + (1 : Int32)) post)
def wp_Md_place_J97 (XL67 : (Nat → Int32) → (Nat → Nat → Int32) → Int32 → Int32 → Prop) (σ : Nat → Int32) (α : Nat → Nat → Int32) (a1 : Int32) (a2 : Int32) (post : Int32 → gS → Prop) : Prop := wp_Md_place_J98 XL67 σ α a1 a2 (0 : Int32) post
def wp_Md_place_B67 (XL67 : (Nat → Int32) → (Nat → Nat → Int32) → Int32 → Int32 → Prop) (σ : Nat → Int32) (α : Nat → Nat → Int32) (a1 : Int32) (a2 : Int32) (post : Int32 → gS → Prop) : Prop := ((σ 24) ≤ a2 → post (1 : Int32) (σ, α)) ∧ (¬ (σ 24) ≤ a2 → vp_in a2 64 ∧ ((¬ (α 11 a2.toNatClampNeg) = 0 → wp_Md_place_J97 XL67 σ α a1 a2 post) ∧ ((α 11 a2.toNatClampNeg) = 0 → vp_in a2 64 ∧ ((¬ (α 12 a2.toNatClampNeg) = 0 → wp_Md_place_J97 XL67 σ α a1 a2 post) ∧ ((α 12 a2.toNatClampNeg) = 0 → wp_Md_place_J98 XL67 σ α a1 a2 (1 : Int32) post)))))
def wp_Md_place_L67 (σ : Nat → Int32) (α : Nat → Nat → Int32) (a1 : Int32) (a2 : Int32) (post : Int32 → gS → Prop) : Prop := ∀ XL67 : (Nat → Int32) → (Nat → Nat → Int32) → Int32 → Int32 → Prop, (∀ (σ : Nat → Int32) (α : Nat → Nat → Int32) (a1 : Int32) (a2 : Int32), wp_Md_place_B67 XL67 σ α a1 a2 post → XL67 σ α a1 a2) → XL67 σ α a1 a2
def wp_Md_place_B44 (XL44 : (Nat → Int32) → (Nat → Nat → Int32) → Int32 → Prop) (σ : Nat → Int32) (α : Nat → Nat → Int32) (a1 : Int32) (post : Int32 → gS → Prop) : Prop := ((16 : Int32) ≤ a1 → wp_Md_place_L67 σ α (0 : Int32) (0 : Int32) post) ∧ (¬ (16 : Int32) ≤ a1 → vp_in a1 16 ∧ (XL44 σ (va_up α 19 (upd (α 19) a1.toNatClampNeg (-1 : Int32))) (a1 + Int32.ofInt 1)))
def wp_Md_place_L44 (σ : Nat → Int32) (α : Nat → Nat → Int32) (a1 : Int32) (post : Int32 → gS → Prop) : Prop := ∀ XL44 : (Nat → Int32) → (Nat → Nat → Int32) → Int32 → Prop, (∀ (σ : Nat → Int32) (α : Nat → Nat → Int32) (a1 : Int32), wp_Md_place_B44 XL44 σ α a1 post → XL44 σ α a1) → XL44 σ α a1
def wp_Md_place_B23 (XL23 : (Nat → Int32) → (Nat → Nat → Int32) → Int32 → Prop) (σ : Nat → Int32) (α : Nat → Nat → Int32) (a1 : Int32) (post : Int32 → gS → Prop) : Prop := ((32 : Int32) ≤ a1 → wp_Md_place_L44 σ α (0 : Int32) post) ∧ (¬ (32 : Int32) ≤ a1 → vp_in a1 32 ∧ (XL23 σ (va_up α 18 (upd (α 18) a1.toNatClampNeg (vp_nar .boolean (0 : Int32)))) (a1 + Int32.ofInt 1)))
def wp_Md_place_L23 (σ : Nat → Int32) (α : Nat → Nat → Int32) (a1 : Int32) (post : Int32 → gS → Prop) : Prop := ∀ XL23 : (Nat → Int32) → (Nat → Nat → Int32) → Int32 → Prop, (∀ (σ : Nat → Int32) (α : Nat → Nat → Int32) (a1 : Int32), wp_Md_place_B23 XL23 σ α a1 post → XL23 σ α a1) → XL23 σ α a1
def wp_Md_place_B2 (XL2 : (Nat → Int32) → (Nat → Nat → Int32) → Int32 → Prop) (σ : Nat → Int32) (α : Nat → Nat → Int32) (a1 : Int32) (post : Int32 → gS → Prop) : Prop := ((64 : Int32) ≤ a1 → wp_Md_place_L23 σ α (0 : Int32) post) ∧ (¬ (64 : Int32) ≤ a1 → vp_in a1 64 ∧ (XL2 σ (va_up α 17 (upd (α 17) a1.toNatClampNeg (vp_nar .boolean (0 : Int32)))) (a1 + Int32.ofInt 1)))
def wp_Md_place_L2 (σ : Nat → Int32) (α : Nat → Nat → Int32) (a1 : Int32) (post : Int32 → gS → Prop) : Prop := ∀ XL2 : (Nat → Int32) → (Nat → Nat → Int32) → Int32 → Prop, (∀ (σ : Nat → Int32) (α : Nat → Nat → Int32) (a1 : Int32), wp_Md_place_B2 XL2 σ α a1 post → XL2 σ α a1) → XL2 σ α a1
def wp_Md_place (σ : Nat → Int32) (α : Nat → Nat → Int32) (post : Int32 → gS → Prop) : Prop := wp_Md_place_L2 σ α (0 : Int32) post
def wp_Md_firstOf_B2 (XL2 : (Nat → Int32) → (Nat → Nat → Int32) → Int32 → Int32 → Prop) (σ : Nat → Int32) (α : Nat → Nat → Int32) (a1 : Int32) (a2 : Int32) (post : Int32 → gS → Prop) : Prop := vp_in a2 64 ∧ (((α 14 a2.toNatClampNeg) = a1 → post a2 (σ, α)) ∧ (¬ (α 14 a2.toNatClampNeg) = a1 → XL2 σ α a1 (a2 + Int32.ofInt 1)))
def wp_Md_firstOf_L2 (σ : Nat → Int32) (α : Nat → Nat → Int32) (a1 : Int32) (a2 : Int32) (post : Int32 → gS → Prop) : Prop := ∀ XL2 : (Nat → Int32) → (Nat → Nat → Int32) → Int32 → Int32 → Prop, (∀ (σ : Nat → Int32) (α : Nat → Nat → Int32) (a1 : Int32) (a2 : Int32), wp_Md_firstOf_B2 XL2 σ α a1 a2 post → XL2 σ α a1 a2) → XL2 σ α a1 a2
def wp_Md_firstOf (σ : Nat → Int32) (α : Nat → Nat → Int32) (x1 : Int32) (post : Int32 → gS → Prop) : Prop := wp_Md_firstOf_L2 σ α x1 (0 : Int32) post
def wp_Md_isSecond_J35 (σ : Nat → Int32) (α : Nat → Nat → Int32) (t0 : Int32) (post : Int32 → gS → Prop) : Prop := narrow .boolean (.int t0) = .int t0 ∧ (post t0 (σ, α))
def wp_Md_isSecond_J34 (σ : Nat → Int32) (α : Nat → Nat → Int32) (post : Int32 → gS → Prop) : Prop := wp_Md_isSecond_J35 σ α (0 : Int32) post
def wp_Md_isSecond (σ : Nat → Int32) (α : Nat → Nat → Int32) (x1 : Int32) (post : Int32 → gS → Prop) : Prop := vp_in x1 64 ∧ (vp_in (x1 - (2 : Int32)) 64 ∧ ((¬ (α 14 x1.toNatClampNeg) = (α 14 (x1 - (2 : Int32)).toNatClampNeg) → wp_Md_isSecond_J34 σ α post) ∧ ((α 14 x1.toNatClampNeg) = (α 14 (x1 - (2 : Int32)).toNatClampNeg) → vp_in (x1 - (2 : Int32)) 64 ∧ ((¬ (α 12 (x1 - (2 : Int32)).toNatClampNeg) = (11 : Int32) → wp_Md_isSecond_J34 σ α post) ∧ ((α 12 (x1 - (2 : Int32)).toNatClampNeg) = (11 : Int32) → wp_Md_isSecond_J35 σ α (1 : Int32) post)))))
def wp_Md_write_J221 (σ : Nat → Int32) (α : Nat → Nat → Int32) (post : gS → Prop) : Prop := post (σ, α)
def wp_Md_write_J170 (σ : Nat → Int32) (α : Nat → Nat → Int32) (a1 : Int32) (a2 : Int32) (a3 : Int32) (t0 : Int32) (post : gS → Prop) : Prop := vp_in a1 64 ∧ ((¬ (α 12 a1.toNatClampNeg) = (1 : Int32) → vp_in a2 64 ∧ (wp_Md_write_J221 σ (va_up α 1 (upd (α 1) a2.toNatClampNeg ((a3 ||| ((((t0 - a2) - (2 : Int32)) &&& (31 : Int32)) <<< ((15 : Int32) &&& 31))) ||| ((t0 >>> ((5 : Int32) &&& 31)) <<< ((20 : Int32) &&& 31))))) post)) ∧ ((α 12 a1.toNatClampNeg) = (1 : Int32) → vp_in a2 64 ∧ (wp_Md_write_J221 σ (va_up α 1 (upd (α 1) a2.toNatClampNeg (1015824 : Int32))) post)))
def wp_Md_write_J102 (σ : Nat → Int32) (α : Nat → Nat → Int32) (a1 : Int32) (a2 : Int32) (a3 : Int32) (a4 : Int32) (t0 : Int32) (post : gS → Prop) : Prop := (a4 = 0 → ((σ 24) ≤ (a1 + (1 : Int32)) → wp_Md_write_J170 σ α a1 a2 a3 (0 : Int32) post) ∧ (¬ (σ 24) ≤ (a1 + (1 : Int32)) → vp_in (a1 + (1 : Int32)) 64 ∧ (wp_Md_write_J170 σ α a1 a2 a3 (α 15 (a1 + (1 : Int32)).toNatClampNeg) post))) ∧ (¬ a4 = 0 → (t0 = 0 → vp_in (a1 + (2 : Int32)) 64 ∧ (wp_Md_write_J170 σ α a1 a2 a3 (α 15 (a1 + (2 : Int32)).toNatClampNeg) post)) ∧ (¬ t0 = 0 → vp_in a1 64 ∧ (vp_in (α 14 a1.toNatClampNeg) 12 ∧ (wp_Md_firstOf σ α (α 10 (α 14 a1.toNatClampNeg).toNatClampNeg) (fun (r130 : Int32) (u130 : gS) => vp_in r130 64 ∧ (wp_Md_write_J170 u130.1 u130.2 a1 a2 a3 (u130.2 15 r130.toNatClampNeg) post))))))
def wp_Md_write_J101 (σ : Nat → Int32) (α : Nat → Nat → Int32) (a1 : Int32) (a2 : Int32) (a3 : Int32) (a4 : Int32) (post : gS → Prop) : Prop := wp_Md_write_J102 σ α a1 a2 a3 a4 (0 : Int32) post
def wp_Md_write_J56 (σ : Nat → Int32) (α : Nat → Nat → Int32) (a1 : Int32) (a2 : Int32) (a3 : Int32) (t0 : Int32) (post : gS → Prop) : Prop := (t0 = 0 → wp_Md_write_J101 σ α a1 a2 a3 t0 post) ∧ (¬ t0 = 0 → (a1 ≤ 0 → wp_Md_write_J101 σ α a1 a2 a3 t0 post) ∧ (¬ a1 ≤ 0 → vp_in (a1 - (1 : Int32)) 64 ∧ ((¬ (α 12 (a1 - (1 : Int32)).toNatClampNeg) = 0 → wp_Md_write_J101 σ α a1 a2 a3 t0 post) ∧ ((α 12 (a1 - (1 : Int32)).toNatClampNeg) = 0 → vp_in (a1 - (1 : Int32)) 64 ∧ ((¬ (α 11 (a1 - (1 : Int32)).toNatClampNeg) = 0 → wp_Md_write_J101 σ α a1 a2 a3 t0 post) ∧ ((α 11 (a1 - (1 : Int32)).toNatClampNeg) = 0 → wp_Md_isSecond σ α a1 (fun (r91 : Int32) (u91 : gS) => (r91 = 0 → wp_Md_write_J101 u91.1 u91.2 a1 a2 a3 t0 post) ∧ (¬ r91 = 0 → wp_Md_write_J102 u91.1 u91.2 a1 a2 a3 t0 (1 : Int32) post))))))))
def wp_Md_write_J55 (σ : Nat → Int32) (α : Nat → Nat → Int32) (a1 : Int32) (a2 : Int32) (a3 : Int32) (post : gS → Prop) : Prop := wp_Md_write_J56 σ α a1 a2 a3 (0 : Int32) post
def wp_Md_write (σ : Nat → Int32) (α : Nat → Nat → Int32) (x1 : Int32) (post : gS → Prop) : Prop := vp_in x1 64 ∧ (vp_in x1 64 ∧ (vp_in x1 64 ∧ (vp_in x1 64 ∧ (vp_in x1 64 ∧ ((¬ (α 11 x1.toNatClampNeg) = 0 → wp_Md_write_J55 σ α x1 (α 15 x1.toNatClampNeg) (((α 11 x1.toNatClampNeg) ||| ((α 12 x1.toNatClampNeg) <<< ((4 : Int32) &&& 31))) ||| ((α 16 x1.toNatClampNeg) <<< ((10 : Int32) &&& 31))) post) ∧ ((α 11 x1.toNatClampNeg) = 0 → vp_in x1 64 ∧ ((¬ (α 12 x1.toNatClampNeg) = 0 → wp_Md_write_J55 σ α x1 (α 15 x1.toNatClampNeg) (((α 11 x1.toNatClampNeg) ||| ((α 12 x1.toNatClampNeg) <<< ((4 : Int32) &&& 31))) ||| ((α 16 x1.toNatClampNeg) <<< ((10 : Int32) &&& 31))) post) ∧ ((α 12 x1.toNatClampNeg) = 0 → wp_Md_write_J56 σ α x1 (α 15 x1.toNatClampNeg) (((α 11 x1.toNatClampNeg) ||| ((α 12 x1.toNatClampNeg) <<< ((4 : Int32) &&& 31))) ||| ((α 16 x1.toNatClampNeg) <<< ((10 : Int32) &&& 31))) (1 : Int32) post))))))))
def wp_Md_assemble_B182 (XL182 : (Nat → Int32) → (Nat → Nat → Int32) → Int32 → Prop) (σ : Nat → Int32) (α : Nat → Nat → Int32) (a2 : Int32) (post : Int32 → gS → Prop) : Prop := ((16 : Int32) ≤ a2 → post (σ 24) (σ, α)) ∧ (¬ (16 : Int32) ≤ a2 → vp_in a2 16 ∧ (vp_in a2 16 ∧ (XL182 σ (va_up α 21 (upd (α 21) a2.toNatClampNeg (α 19 a2.toNatClampNeg))) (a2 + Int32.ofInt 1))))
def wp_Md_assemble_L182 (σ : Nat → Int32) (α : Nat → Nat → Int32) (a2 : Int32) (post : Int32 → gS → Prop) : Prop := ∀ XL182 : (Nat → Int32) → (Nat → Nat → Int32) → Int32 → Prop, (∀ (σ : Nat → Int32) (α : Nat → Nat → Int32) (a2 : Int32), wp_Md_assemble_B182 XL182 σ α a2 post → XL182 σ α a2) → XL182 σ α a2
def wp_Md_assemble_B150 (XL150 : (Nat → Int32) → (Nat → Nat → Int32) → Int32 → Prop) (σ : Nat → Int32) (α : Nat → Nat → Int32) (a2 : Int32) (post : Int32 → gS → Prop) : Prop := ((σ 23) ≤ a2 → wp_Md_assemble_L182 σ α (0 : Int32) post) ∧ (¬ (σ 23) ≤ a2 → wp_Md_firstOf σ α a2 (fun (r169 : Int32) (u169 : gS) => vp_in r169 64 ∧ (vp_in a2 12 ∧ (XL150 u169.1 (va_up u169.2 20 (upd (u169.2 20) a2.toNatClampNeg (u169.2 15 r169.toNatClampNeg))) (a2 + Int32.ofInt 1)))))
def wp_Md_assemble_L150 (σ : Nat → Int32) (α : Nat → Nat → Int32) (a2 : Int32) (post : Int32 → gS → Prop) : Prop := ∀ XL150 : (Nat → Int32) → (Nat → Nat → Int32) → Int32 → Prop, (∀ (σ : Nat → Int32) (α : Nat → Nat → Int32) (a2 : Int32), wp_Md_assemble_B150 XL150 σ α a2 post → XL150 σ α a2) → XL150 σ α a2
def wp_Md_assemble_B121 (XL121 : (Nat → Int32) → (Nat → Nat → Int32) → Int32 → Prop) (σ : Nat → Int32) (α : Nat → Nat → Int32) (a2 : Int32) (post : Int32 → gS → Prop) : Prop := ((σ 24) ≤ a2 → wp_Md_assemble_L150 (va_up σ 25 (σ 23)) α (0 : Int32) post) ∧ (¬ (σ 24) ≤ a2 → wp_Md_write σ α a2 (fun (u131 : gS) => XL121 u131.1 u131.2 (a2 + Int32.ofInt 1)))
def wp_Md_assemble_L121 (σ : Nat → Int32) (α : Nat → Nat → Int32) (a2 : Int32) (post : Int32 → gS → Prop) : Prop := ∀ XL121 : (Nat → Int32) → (Nat → Nat → Int32) → Int32 → Prop, (∀ (σ : Nat → Int32) (α : Nat → Nat → Int32) (a2 : Int32), wp_Md_assemble_B121 XL121 σ α a2 post → XL121 σ α a2) → XL121 σ α a2
def wp_Md_assemble_B99 (XL99 : (Nat → Int32) → (Nat → Nat → Int32) → Int32 → Prop) (σ : Nat → Int32) (α : Nat → Nat → Int32) (a2 : Int32) (post : Int32 → gS → Prop) : Prop := ((64 : Int32) ≤ a2 → wp_Md_assemble_L121 σ α (0 : Int32) post) ∧ (¬ (64 : Int32) ≤ a2 → vp_in a2 64 ∧ (XL99 σ (va_up α 1 (upd (α 1) a2.toNatClampNeg (1015824 : Int32))) (a2 + Int32.ofInt 1)))
def wp_Md_assemble_L99 (σ : Nat → Int32) (α : Nat → Nat → Int32) (a2 : Int32) (post : Int32 → gS → Prop) : Prop := ∀ XL99 : (Nat → Int32) → (Nat → Nat → Int32) → Int32 → Prop, (∀ (σ : Nat → Int32) (α : Nat → Nat → Int32) (a2 : Int32), wp_Md_assemble_B99 XL99 σ α a2 post → XL99 σ α a2) → XL99 σ α a2
def wp_Md_assemble_J95 (σ : Nat → Int32) (α : Nat → Nat → Int32) (post : Int32 → gS → Prop) : Prop := post (-1 : Int32) (σ, α)
def wp_Md_assemble_J62 (XL22 : (Nat → Int32) → (Nat → Nat → Int32) → Int32 → Int32 → Prop) (σ : Nat → Int32) (α : Nat → Nat → Int32) (a2 : Int32) (t0 : Int32) (post : Int32 → gS → Prop) : Prop := XL22 σ α t0 (a2 + Int32.ofInt 1)
def wp_Md_assemble_J61 (XL22 : (Nat → Int32) → (Nat → Nat → Int32) → Int32 → Int32 → Prop) (σ : Nat → Int32) (α : Nat → Nat → Int32) (a2 : Int32) (post : Int32 → gS → Prop) : Prop := wp_Md_assemble_J62 XL22 σ α a2 (0 : Int32) post
def wp_Md_assemble_J57 (XL22 : (Nat → Int32) → (Nat → Nat → Int32) → Int32 → Int32 → Prop) (σ : Nat → Int32) (α : Nat → Nat → Int32) (a2 : Int32) (post : Int32 → gS → Prop) : Prop := wp_Md_assemble_J62 XL22 σ α a2 (1 : Int32) post
def wp_Md_assemble_B22 (XL22 : (Nat → Int32) → (Nat → Nat → Int32) → Int32 → Int32 → Prop) (σ : Nat → Int32) (α : Nat → Nat → Int32) (a1 : Int32) (a2 : Int32) (post : Int32 → gS → Prop) : Prop := ((σ 23) ≤ a2 → (¬ a1 = 0 → wp_Md_listAll σ α (fun (u76 : gS) => ((64 : Int32) < (u76.1 24) → wp_Md_assemble_J95 u76.1 u76.2 post) ∧ (¬ (64 : Int32) < (u76.1 24) → wp_Md_place u76.1 u76.2 (fun (r89 : Int32) (u89 : gS) => (¬ r89 = 0 → wp_Md_assemble_L99 u89.1 u89.2 (0 : Int32) post) ∧ (r89 = 0 → wp_Md_assemble_J95 u89.1 u89.2 post))))) ∧ (a1 = 0 → post (-1 : Int32) (σ, α))) ∧ (¬ (σ 23) ≤ a2 → (a1 = 0 → wp_Md_assemble_J61 XL22 σ α a2 post) ∧ (¬ a1 = 0 → vp_in a2 12 ∧ ((¬ (α 6 a2.toNatClampNeg) = (4 : Int32) → wp_Md_assemble_J57 XL22 σ α a2 post) ∧ ((α 6 a2.toNatClampNeg) = (4 : Int32) → vp_in a2 12 ∧ (((σ 23) ≤ (α 10 a2.toNatClampNeg) → wp_Md_assemble_J61 XL22 σ α a2 post) ∧ (¬ (σ 23) ≤ (α 10 a2.toNatClampNeg) → wp_Md_assemble_J57 XL22 σ α a2 post))))))
def wp_Md_assemble_L22 (σ : Nat → Int32) (α : Nat → Nat → Int32) (a1 : Int32) (a2 : Int32) (post : Int32 → gS → Prop) : Prop := ∀ XL22 : (Nat → Int32) → (Nat → Nat → Int32) → Int32 → Int32 → Prop, (∀ (σ : Nat → Int32) (α : Nat → Nat → Int32) (a1 : Int32) (a2 : Int32), wp_Md_assemble_B22 XL22 σ α a1 a2 post → XL22 σ α a1 a2) → XL22 σ α a1 a2
def wp_Md_assemble_J19 (σ : Nat → Int32) (α : Nat → Nat → Int32) (t0 : Int32) (post : Int32 → gS → Prop) : Prop := wp_Md_assemble_L22 σ α t0 (0 : Int32) post
def wp_Md_assemble_J18 (σ : Nat → Int32) (α : Nat → Nat → Int32) (post : Int32 → gS → Prop) : Prop := wp_Md_assemble_J19 σ α (0 : Int32) post
def wp_Md_assemble (σ : Nat → Int32) (α : Nat → Nat → Int32) (post : Int32 → gS → Prop) : Prop := ((σ 23) ≤ 0 → wp_Md_assemble_J18 σ α post) ∧ (¬ (σ 23) ≤ 0 → (¬ (σ 1) = 0 → wp_Md_assemble_J18 σ α post) ∧ ((σ 1) = 0 → wp_Md_assemble_J19 σ α (1 : Int32) post))
def wp_Md_placed_J22 (σ : Nat → Int32) (α : Nat → Nat → Int32) (t0 : Int32) (post : Int32 → gS → Prop) : Prop := post t0 (σ, α)
def wp_Md_placed_J12 (σ : Nat → Int32) (α : Nat → Nat → Int32) (post : Int32 → gS → Prop) : Prop := wp_Md_placed_J22 σ α (-1 : Int32) post
def wp_Md_placed (σ : Nat → Int32) (α : Nat → Nat → Int32) (x1 : Int32) (post : Int32 → gS → Prop) : Prop := (x1 < 0 → wp_Md_placed_J12 σ α post) ∧ (¬ x1 < 0 → (x1 < (σ 25) → vp_in x1 12 ∧ (wp_Md_placed_J22 σ α (α 20 x1.toNatClampNeg) post)) ∧ (¬ x1 < (σ 25) → wp_Md_placed_J12 σ α post))
def wp_Md_variable_J20 (σ : Nat → Int32) (α : Nat → Nat → Int32) (t0 : Int32) (post : Int32 → gS → Prop) : Prop := post t0 (σ, α)
def wp_Md_variable_J10 (σ : Nat → Int32) (α : Nat → Nat → Int32) (post : Int32 → gS → Prop) : Prop := wp_Md_variable_J20 σ α (-1 : Int32) post
def wp_Md_variable (σ : Nat → Int32) (α : Nat → Nat → Int32) (x1 : Int32) (post : Int32 → gS → Prop) : Prop := (x1 < 0 → wp_Md_variable_J10 σ α post) ∧ (¬ x1 < 0 → (x1 ≤ (15 : Int32) → vp_in x1 16 ∧ (wp_Md_variable_J20 σ α (α 21 x1.toNatClampNeg) post)) ∧ (¬ x1 ≤ (15 : Int32) → wp_Md_variable_J10 σ α post))
def wp_Md_init_B186 (XL186 : (Nat → Nat) → (Nat → Int32) → (Nat → Nat → Int32) → Int32 → Prop) (ad : Nat → Nat) (σ : Nat → Int32) (α : Nat → Nat → Int32) (a1 : Int32) (post : gSA → Prop) : Prop := ((16 : Int32) ≤ a1 → post (ad, σ, α)) ∧ (¬ (16 : Int32) ≤ a1 → vp_in a1 16 ∧ (XL186 ad σ (va_up α 21 (upd (α 21) a1.toNatClampNeg (-1 : Int32))) (a1 + Int32.ofInt 1)))
def wp_Md_init_L186 (ad : Nat → Nat) (σ : Nat → Int32) (α : Nat → Nat → Int32) (a1 : Int32) (post : gSA → Prop) : Prop := ∀ XL186 : (Nat → Nat) → (Nat → Int32) → (Nat → Nat → Int32) → Int32 → Prop, (∀ (ad : Nat → Nat) (σ : Nat → Int32) (α : Nat → Nat → Int32) (a1 : Int32), wp_Md_init_B186 XL186 ad σ α a1 post → XL186 ad σ α a1) → XL186 ad σ α a1
def wp_Md_init (ad : Nat → Nat) (σ : Nat → Int32) (α : Nat → Nat → Int32) (post : gSA → Prop) : Prop := wp_Md_init_L186 ad σ α (0 : Int32) post
def mS0 : Nat → Int32 := (va_up (va_up (fun _ => (0 : Int32)) 19 (-1 : Int32)) 22 (-6 : Int32))
def mA0 : Nat → Nat → Int32 := (fun _ _ => (0 : Int32))
def wp_law_J518 (XL18 : Nat → Nat → (Nat → Nat) → (Nat → Nat) → (Nat → Int32) → (Nat → Nat → Int32) → (Nat → Int32) → (Nat → Nat → Int32) → Int32 → Prop) (wc : Nat) (wb : Nat) (kp : Nat → Nat) (tp : Nat → Nat) (σ : Nat → Int32) (α : Nat → Nat → Int32) (μ : Nat → Int32) (β : Nat → Nat → Int32) (a3 : Int32) : Prop := XL18 wc wb kp tp σ α μ β (a3 + Int32.ofInt 6)
def wp_law_C0 (XL18 : Nat → Nat → (Nat → Nat) → (Nat → Nat) → (Nat → Int32) → (Nat → Nat → Int32) → (Nat → Int32) → (Nat → Nat → Int32) → Int32 → Prop) (L : Nat) (xs : Nat → Int32) (wc : Nat) (wb : Nat) (kp : Nat → Nat) (tp : Nat → Nat) (σ : Nat → Int32) (α : Nat → Nat → Int32) (μ : Nat → Int32) (β : Nat → Nat → Int32) (a3 : Int32) : Prop := vp_in (a3 + (1 : Int32)) L ∧ (vp_in (a3 + (2 : Int32)) L ∧ (vp_in (a3 + (3 : Int32)) L ∧ (wp_Dm_order σ α (xs (a3 + (1 : Int32)).toNatClampNeg) (xs (a3 + (2 : Int32)).toNatClampNeg) (xs (a3 + (3 : Int32)).toNatClampNeg) (fun (r120 : Int32) (u120 : gS) => wp_Md_order μ β (xs (a3 + (1 : Int32)).toNatClampNeg) (xs (a3 + (2 : Int32)).toNatClampNeg) (xs (a3 + (3 : Int32)).toNatClampNeg) (fun (r139 : Int32) (u139 : gS) => (r120 = r139 → wp_law_J518 XL18 wc wb kp tp u120.1 u120.2 u139.1 u139.2 a3) ∧ (¬ r120 = r139 → False))))))
def wp_law_C1 (XL18 : Nat → Nat → (Nat → Nat) → (Nat → Nat) → (Nat → Int32) → (Nat → Nat → Int32) → (Nat → Int32) → (Nat → Nat → Int32) → Int32 → Prop) (L : Nat) (xs : Nat → Int32) (wc : Nat) (wb : Nat) (kp : Nat → Nat) (tp : Nat → Nat) (σ : Nat → Int32) (α : Nat → Nat → Int32) (μ : Nat → Int32) (β : Nat → Nat → Int32) (a3 : Int32) : Prop := vp_in (a3 + (1 : Int32)) L ∧ (vp_in (a3 + (2 : Int32)) L ∧ (vp_in (a3 + (3 : Int32)) L ∧ (wp_Dm_word σ α (xs (a3 + (1 : Int32)).toNatClampNeg) (xs (a3 + (2 : Int32)).toNatClampNeg) ((xs (a3 + (3 : Int32)).toNatClampNeg).toInt16.toInt32) (fun (r164 : Int32) (u164 : gS) => wp_Md_word μ β (xs (a3 + (1 : Int32)).toNatClampNeg) (xs (a3 + (2 : Int32)).toNatClampNeg) ((xs (a3 + (3 : Int32)).toNatClampNeg).toInt16.toInt32) (fun (r184 : Int32) (u184 : gS) => (r164 = r184 → wp_law_J518 XL18 wc wb kp tp u164.1 u164.2 u184.1 u184.2 a3) ∧ (¬ r164 = r184 → False))))))
def wp_law_C2 (XL18 : Nat → Nat → (Nat → Nat) → (Nat → Nat) → (Nat → Int32) → (Nat → Nat → Int32) → (Nat → Int32) → (Nat → Nat → Int32) → Int32 → Prop) (L : Nat) (xs : Nat → Int32) (wc : Nat) (wb : Nat) (kp : Nat → Nat) (tp : Nat → Nat) (σ : Nat → Int32) (α : Nat → Nat → Int32) (μ : Nat → Int32) (β : Nat → Nat → Int32) (a3 : Int32) : Prop := vp_in (a3 + (1 : Int32)) L ∧ (wp_Dm_card σ α ((xs (a3 + (1 : Int32)).toNatClampNeg).toInt16.toInt32) (fun (r199 : Int32) (u199 : gS) => wp_Md_card μ β ((xs (a3 + (1 : Int32)).toNatClampNeg).toInt16.toInt32) (fun (r209 : Int32) (u209 : gS) => (r199 = r209 → wp_law_J518 XL18 wc wb kp tp u199.1 u199.2 u209.1 u209.2 a3) ∧ (¬ r199 = r209 → False))))
def wp_law_C3 (XL18 : Nat → Nat → (Nat → Nat) → (Nat → Nat) → (Nat → Int32) → (Nat → Nat → Int32) → (Nat → Int32) → (Nat → Nat → Int32) → Int32 → Prop) (L : Nat) (xs : Nat → Int32) (wc : Nat) (wb : Nat) (kp : Nat → Nat) (tp : Nat → Nat) (σ : Nat → Int32) (α : Nat → Nat → Int32) (μ : Nat → Int32) (β : Nat → Nat → Int32) (a3 : Int32) : Prop := vp_in (a3 + (1 : Int32)) L ∧ (vp_in (a3 + (2 : Int32)) L ∧ (wp_Dm_start σ α (xs (a3 + (1 : Int32)).toNatClampNeg) (xs (a3 + (2 : Int32)).toNatClampNeg) (fun (r228 : Int32) (u228 : gS) => wp_Md_start μ β (xs (a3 + (1 : Int32)).toNatClampNeg) (xs (a3 + (2 : Int32)).toNatClampNeg) (fun (r242 : Int32) (u242 : gS) => (r228 = r242 → wp_law_J518 XL18 wc wb kp tp u228.1 u228.2 u242.1 u242.2 a3) ∧ (¬ r228 = r242 → False)))))
def wp_law_C4 (XL18 : Nat → Nat → (Nat → Nat) → (Nat → Nat) → (Nat → Int32) → (Nat → Nat → Int32) → (Nat → Int32) → (Nat → Nat → Int32) → Int32 → Prop) (L : Nat) (xs : Nat → Int32) (wc : Nat) (wb : Nat) (kp : Nat → Nat) (tp : Nat → Nat) (σ : Nat → Int32) (α : Nat → Nat → Int32) (μ : Nat → Int32) (β : Nat → Nat → Int32) (a3 : Int32) : Prop := vp_in (a3 + (1 : Int32)) L ∧ (wp_Dm_run wc wb σ α (xs (a3 + (1 : Int32)).toNatClampNeg) (fun (r256 : Int32) (u256 : gSW) => wp_Md_run μ β (xs (a3 + (1 : Int32)).toNatClampNeg) (fun (r265 : Int32) (u265 : gS) => (r256 = r265 → wp_law_J518 XL18 u256.1 u256.2.1 kp tp u256.2.2.1 u256.2.2.2 u265.1 u265.2 a3) ∧ (¬ r256 = r265 → False))))
def wp_law_C5 (XL18 : Nat → Nat → (Nat → Nat) → (Nat → Nat) → (Nat → Int32) → (Nat → Nat → Int32) → (Nat → Int32) → (Nat → Nat → Int32) → Int32 → Prop) (L : Nat) (xs : Nat → Int32) (wc : Nat) (wb : Nat) (kp : Nat → Nat) (tp : Nat → Nat) (σ : Nat → Int32) (α : Nat → Nat → Int32) (μ : Nat → Int32) (β : Nat → Nat → Int32) (a3 : Int32) : Prop := vp_in (a3 + (1 : Int32)) L ∧ (wp_Dm_look σ α (xs (a3 + (1 : Int32)).toNatClampNeg) (fun (r279 : Int32) (u279 : gS) => wp_Md_look μ β (xs (a3 + (1 : Int32)).toNatClampNeg) (fun (r288 : Int32) (u288 : gS) => (r279 = r288 → wp_law_J518 XL18 wc wb kp tp u279.1 u279.2 u288.1 u288.2 a3) ∧ (¬ r279 = r288 → False))))
def wp_law_C6 (XL18 : Nat → Nat → (Nat → Nat) → (Nat → Nat) → (Nat → Int32) → (Nat → Nat → Int32) → (Nat → Int32) → (Nat → Nat → Int32) → Int32 → Prop) (L : Nat) (xs : Nat → Int32) (wc : Nat) (wb : Nat) (kp : Nat → Nat) (tp : Nat → Nat) (σ : Nat → Int32) (α : Nat → Nat → Int32) (μ : Nat → Int32) (β : Nat → Nat → Int32) (a3 : Int32) : Prop := vp_in (a3 + (1 : Int32)) L ∧ (vp_in (a3 + (2 : Int32)) L ∧ (wp_Dm_peek σ α (xs (a3 + (1 : Int32)).toNatClampNeg) (xs (a3 + (2 : Int32)).toNatClampNeg) (fun (r307 : Int32) (u307 : gS) => wp_Md_peek μ β (xs (a3 + (1 : Int32)).toNatClampNeg) (xs (a3 + (2 : Int32)).toNatClampNeg) (fun (r321 : Int32) (u321 : gS) => (r307 = r321 → wp_law_J518 XL18 wc wb kp tp u307.1 u307.2 u321.1 u321.2 a3) ∧ (¬ r307 = r321 → False)))))
def wp_law_C7 (XL18 : Nat → Nat → (Nat → Nat) → (Nat → Nat) → (Nat → Int32) → (Nat → Nat → Int32) → (Nat → Int32) → (Nat → Nat → Int32) → Int32 → Prop) (L : Nat) (xs : Nat → Int32) (wc : Nat) (wb : Nat) (kp : Nat → Nat) (tp : Nat → Nat) (σ : Nat → Int32) (α : Nat → Nat → Int32) (μ : Nat → Int32) (β : Nat → Nat → Int32) (a3 : Int32) : Prop := vp_in (a3 + (1 : Int32)) L ∧ (vp_in (a3 + (2 : Int32)) L ∧ (wp_Dm_read σ α (xs (a3 + (1 : Int32)).toNatClampNeg) (xs (a3 + (2 : Int32)).toNatClampNeg) (fun (r340 : Int32) (u340 : gS) => wp_Md_read_II μ β (xs (a3 + (1 : Int32)).toNatClampNeg) (xs (a3 + (2 : Int32)).toNatClampNeg) (fun (r354 : Int32) (u354 : gS) => (r340 = r354 → wp_law_J518 XL18 wc wb kp tp u340.1 u340.2 u354.1 u354.2 a3) ∧ (¬ r340 = r354 → False)))))
def wp_law_C8 (XL18 : Nat → Nat → (Nat → Nat) → (Nat → Nat) → (Nat → Int32) → (Nat → Nat → Int32) → (Nat → Int32) → (Nat → Nat → Int32) → Int32 → Prop) (L : Nat) (xs : Nat → Int32) (wc : Nat) (wb : Nat) (kp : Nat → Nat) (tp : Nat → Nat) (σ : Nat → Int32) (α : Nat → Nat → Int32) (μ : Nat → Int32) (β : Nat → Nat → Int32) (a3 : Int32) : Prop := vp_in (a3 + (1 : Int32)) L ∧ (wp_Dm_punched σ α (xs (a3 + (1 : Int32)).toNatClampNeg) (fun (r368 : Int32) (u368 : gS) => wp_Md_punched μ β (xs (a3 + (1 : Int32)).toNatClampNeg) (fun (r377 : Int32) (u377 : gS) => (r368 = r377 → wp_law_J518 XL18 wc wb kp tp u368.1 u368.2 u377.1 u377.2 a3) ∧ (¬ r368 = r377 → False))))
def wp_law_C9 (XL18 : Nat → Nat → (Nat → Nat) → (Nat → Nat) → (Nat → Int32) → (Nat → Nat → Int32) → (Nat → Int32) → (Nat → Nat → Int32) → Int32 → Prop) (L : Nat) (xs : Nat → Int32) (wc : Nat) (wb : Nat) (kp : Nat → Nat) (tp : Nat → Nat) (σ : Nat → Int32) (α : Nat → Nat → Int32) (μ : Nat → Int32) (β : Nat → Nat → Int32) (a3 : Int32) : Prop := vp_in (a3 + (1 : Int32)) L ∧ (vp_in (a3 + (2 : Int32)) L ∧ (vp_in (a3 + (3 : Int32)) L ∧ (vp_in (a3 + (4 : Int32)) L ∧ (vp_in (a3 + (5 : Int32)) L ∧ (wp_Dm_statement σ α (xs (a3 + (1 : Int32)).toNatClampNeg) (xs (a3 + (2 : Int32)).toNatClampNeg) (xs (a3 + (3 : Int32)).toNatClampNeg) (xs (a3 + (4 : Int32)).toNatClampNeg) (xs (a3 + (5 : Int32)).toNatClampNeg) (fun (r411 : Int32) (u411 : gS) => wp_Md_statement μ β (xs (a3 + (1 : Int32)).toNatClampNeg) (xs (a3 + (2 : Int32)).toNatClampNeg) (xs (a3 + (3 : Int32)).toNatClampNeg) (xs (a3 + (4 : Int32)).toNatClampNeg) (xs (a3 + (5 : Int32)).toNatClampNeg) (fun (r440 : Int32) (u440 : gS) => (r411 = r440 → wp_law_J518 XL18 wc wb kp tp u411.1 u411.2 u440.1 u440.2 a3) ∧ (¬ r411 = r440 → False))))))))
def wp_law_C10 (XL18 : Nat → Nat → (Nat → Nat) → (Nat → Nat) → (Nat → Int32) → (Nat → Nat → Int32) → (Nat → Int32) → (Nat → Nat → Int32) → Int32 → Prop) (L : Nat) (xs : Nat → Int32) (wc : Nat) (wb : Nat) (kp : Nat → Nat) (tp : Nat → Nat) (σ : Nat → Int32) (α : Nat → Nat → Int32) (μ : Nat → Int32) (β : Nat → Nat → Int32) (a3 : Int32) : Prop := wp_Dm_clear σ α (fun (u449 : gS) => wp_Md_clear μ β (fun (u453 : gS) => wp_law_J518 XL18 wc wb kp tp u449.1 u449.2 u453.1 u453.2 a3))
def wp_law_C11 (XL18 : Nat → Nat → (Nat → Nat) → (Nat → Nat) → (Nat → Int32) → (Nat → Nat → Int32) → (Nat → Int32) → (Nat → Nat → Int32) → Int32 → Prop) (L : Nat) (xs : Nat → Int32) (wc : Nat) (wb : Nat) (kp : Nat → Nat) (tp : Nat → Nat) (σ : Nat → Int32) (α : Nat → Nat → Int32) (μ : Nat → Int32) (β : Nat → Nat → Int32) (a3 : Int32) : Prop := wp_Dm_assemble kp tp σ α (fun (r460 : Int32) (u460 : gSP) => wp_Md_assemble μ β (fun (r464 : Int32) (u464 : gS) => (r460 = r464 → wp_law_J518 XL18 wc wb u460.1 u460.2.1 u460.2.2.1 u460.2.2.2 u464.1 u464.2 a3) ∧ (¬ r460 = r464 → False)))
def wp_law_C12 (XL18 : Nat → Nat → (Nat → Nat) → (Nat → Nat) → (Nat → Int32) → (Nat → Nat → Int32) → (Nat → Int32) → (Nat → Nat → Int32) → Int32 → Prop) (L : Nat) (xs : Nat → Int32) (wc : Nat) (wb : Nat) (kp : Nat → Nat) (tp : Nat → Nat) (σ : Nat → Int32) (α : Nat → Nat → Int32) (μ : Nat → Int32) (β : Nat → Nat → Int32) (a3 : Int32) : Prop := vp_in (a3 + (1 : Int32)) L ∧ (wp_Dm_placed σ α (xs (a3 + (1 : Int32)).toNatClampNeg) (fun (r478 : Int32) (u478 : gS) => wp_Md_placed μ β (xs (a3 + (1 : Int32)).toNatClampNeg) (fun (r487 : Int32) (u487 : gS) => (r478 = r487 → wp_law_J518 XL18 wc wb kp tp u478.1 u478.2 u487.1 u487.2 a3) ∧ (¬ r478 = r487 → False))))
def wp_law_C13 (XL18 : Nat → Nat → (Nat → Nat) → (Nat → Nat) → (Nat → Int32) → (Nat → Nat → Int32) → (Nat → Int32) → (Nat → Nat → Int32) → Int32 → Prop) (L : Nat) (xs : Nat → Int32) (wc : Nat) (wb : Nat) (kp : Nat → Nat) (tp : Nat → Nat) (σ : Nat → Int32) (α : Nat → Nat → Int32) (μ : Nat → Int32) (β : Nat → Nat → Int32) (a3 : Int32) : Prop := vp_in (a3 + (1 : Int32)) L ∧ (wp_Dm_variable σ α (xs (a3 + (1 : Int32)).toNatClampNeg) (fun (r501 : Int32) (u501 : gS) => wp_Md_variable μ β (xs (a3 + (1 : Int32)).toNatClampNeg) (fun (r510 : Int32) (u510 : gS) => (r501 = r510 → wp_law_J518 XL18 wc wb kp tp u501.1 u501.2 u510.1 u510.2 a3) ∧ (¬ r501 = r510 → False))))
def wp_law_B18 (XL18 : Nat → Nat → (Nat → Nat) → (Nat → Nat) → (Nat → Int32) → (Nat → Nat → Int32) → (Nat → Int32) → (Nat → Nat → Int32) → Int32 → Prop) (L : Nat) (xs : Nat → Int32) (wc : Nat) (wb : Nat) (kp : Nat → Nat) (tp : Nat → Nat) (σ : Nat → Int32) (α : Nat → Nat → Int32) (μ : Nat → Int32) (β : Nat → Nat → Int32) (a3 : Int32) : Prop := (((Int32.ofNat L) - (6 : Int32)) < a3 → True) ∧ (¬ ((Int32.ofNat L) - (6 : Int32)) < a3 → vp_in a3 L ∧ ((((xs a3.toNatClampNeg) &&& (15 : Int32)) = 0 → wp_law_C0 XL18 L xs wc wb kp tp σ α μ β a3) ∧ (((xs a3.toNatClampNeg) &&& (15 : Int32)) = 1 → wp_law_C1 XL18 L xs wc wb kp tp σ α μ β a3) ∧ (((xs a3.toNatClampNeg) &&& (15 : Int32)) = 2 → wp_law_C2 XL18 L xs wc wb kp tp σ α μ β a3) ∧ (((xs a3.toNatClampNeg) &&& (15 : Int32)) = 3 → wp_law_C3 XL18 L xs wc wb kp tp σ α μ β a3) ∧ (((xs a3.toNatClampNeg) &&& (15 : Int32)) = 4 → wp_law_C4 XL18 L xs wc wb kp tp σ α μ β a3) ∧ (((xs a3.toNatClampNeg) &&& (15 : Int32)) = 5 → wp_law_C5 XL18 L xs wc wb kp tp σ α μ β a3) ∧ (((xs a3.toNatClampNeg) &&& (15 : Int32)) = 6 → wp_law_C6 XL18 L xs wc wb kp tp σ α μ β a3) ∧ (((xs a3.toNatClampNeg) &&& (15 : Int32)) = 7 → wp_law_C7 XL18 L xs wc wb kp tp σ α μ β a3) ∧ (((xs a3.toNatClampNeg) &&& (15 : Int32)) = 8 → wp_law_C8 XL18 L xs wc wb kp tp σ α μ β a3) ∧ (((xs a3.toNatClampNeg) &&& (15 : Int32)) = 9 → wp_law_C9 XL18 L xs wc wb kp tp σ α μ β a3) ∧ (((xs a3.toNatClampNeg) &&& (15 : Int32)) = 10 → wp_law_C10 XL18 L xs wc wb kp tp σ α μ β a3) ∧ (((xs a3.toNatClampNeg) &&& (15 : Int32)) = 11 → wp_law_C11 XL18 L xs wc wb kp tp σ α μ β a3) ∧ (((xs a3.toNatClampNeg) &&& (15 : Int32)) = 12 → wp_law_C12 XL18 L xs wc wb kp tp σ α μ β a3) ∧ (((xs a3.toNatClampNeg) &&& (15 : Int32)) = 13 → wp_law_C13 XL18 L xs wc wb kp tp σ α μ β a3) ∧ (((xs a3.toNatClampNeg) &&& (15 : Int32)).toInt < 0 ∨ 13 < ((xs a3.toNatClampNeg) &&& (15 : Int32)).toInt → wp_law_J518 XL18 wc wb kp tp σ α μ β a3)))
def wp_law_L18 (L : Nat) (xs : Nat → Int32) (wc : Nat) (wb : Nat) (kp : Nat → Nat) (tp : Nat → Nat) (σ : Nat → Int32) (α : Nat → Nat → Int32) (μ : Nat → Int32) (β : Nat → Nat → Int32) (a3 : Int32) : Prop := ∀ XL18 : Nat → Nat → (Nat → Nat) → (Nat → Nat) → (Nat → Int32) → (Nat → Nat → Int32) → (Nat → Int32) → (Nat → Nat → Int32) → Int32 → Prop, (∀ (wc : Nat) (wb : Nat) (kp : Nat → Nat) (tp : Nat → Nat) (σ : Nat → Int32) (α : Nat → Nat → Int32) (μ : Nat → Int32) (β : Nat → Nat → Int32) (a3 : Int32), wp_law_B18 XL18 L xs wc wb kp tp σ α μ β a3 → XL18 wc wb kp tp σ α μ β a3) → XL18 wc wb kp tp σ α μ β a3
end
section
theorem d_Dm_init_0 : decode b_Dm_init 0 = .ok (.aload_n 0, 1) := by decide +kernel
theorem d_Dm_init_1 : decode b_Dm_init 1 = .ok (.invokespecial 3, 3) := by decide +kernel
theorem d_Dm_init_4 : decode b_Dm_init 4 = .ok (.aload_n 0, 1) := by decide +kernel
theorem d_Dm_init_5 : decode b_Dm_init 5 = .ok (.new 9, 3) := by decide +kernel
theorem d_Dm_init_8 : decode b_Dm_init 8 = .ok (.dup, 1) := by decide +kernel
theorem d_Dm_init_9 : decode b_Dm_init 9 = .ok (.invokespecial 11, 3) := by decide +kernel
theorem d_Dm_init_12 : decode b_Dm_init 12 = .ok (.putfield 12, 3) := by decide +kernel
theorem d_Dm_init_15 : decode b_Dm_init 15 = .ok (.aload_n 0, 1) := by decide +kernel
theorem d_Dm_init_16 : decode b_Dm_init 16 = .ok (.new 16, 3) := by decide +kernel
theorem d_Dm_init_19 : decode b_Dm_init 19 = .ok (.dup, 1) := by decide +kernel
theorem d_Dm_init_20 : decode b_Dm_init 20 = .ok (.invokespecial 18, 3) := by decide +kernel
theorem d_Dm_init_23 : decode b_Dm_init 23 = .ok (.putfield 19, 3) := by decide +kernel
theorem d_Dm_init_26 : decode b_Dm_init 26 = .ok (.aload_n 0, 1) := by decide +kernel
theorem d_Dm_init_27 : decode b_Dm_init 27 = .ok (.new 23, 3) := by decide +kernel
theorem d_Dm_init_30 : decode b_Dm_init 30 = .ok (.dup, 1) := by decide +kernel
theorem d_Dm_init_31 : decode b_Dm_init 31 = .ok (.invokespecial 25, 3) := by decide +kernel
theorem d_Dm_init_34 : decode b_Dm_init 34 = .ok (.putfield 26, 3) := by decide +kernel
theorem d_Dm_init_37 : decode b_Dm_init 37 = .ok (.aload_n 0, 1) := by decide +kernel
theorem d_Dm_init_38 : decode b_Dm_init 38 = .ok (.new 30, 3) := by decide +kernel
theorem d_Dm_init_41 : decode b_Dm_init 41 = .ok (.dup, 1) := by decide +kernel
theorem d_Dm_init_42 : decode b_Dm_init 42 = .ok (.aload_n 0, 1) := by decide +kernel
theorem d_Dm_init_43 : decode b_Dm_init 43 = .ok (.getfield 12, 3) := by decide +kernel
theorem d_Dm_init_46 : decode b_Dm_init 46 = .ok (.aload_n 0, 1) := by decide +kernel
theorem d_Dm_init_47 : decode b_Dm_init 47 = .ok (.getfield 19, 3) := by decide +kernel
theorem d_Dm_init_50 : decode b_Dm_init 50 = .ok (.aload_n 0, 1) := by decide +kernel
theorem d_Dm_init_51 : decode b_Dm_init 51 = .ok (.getfield 26, 3) := by decide +kernel
theorem d_Dm_init_54 : decode b_Dm_init 54 = .ok (.invokespecial 32, 3) := by decide +kernel
theorem d_Dm_init_57 : decode b_Dm_init 57 = .ok (.putfield 35, 3) := by decide +kernel
theorem d_Dm_init_60 : decode b_Dm_init 60 = .ok (.aload_n 0, 1) := by decide +kernel
theorem d_Dm_init_61 : decode b_Dm_init 61 = .ok (.new 39, 3) := by decide +kernel
theorem d_Dm_init_64 : decode b_Dm_init 64 = .ok (.dup, 1) := by decide +kernel
theorem d_Dm_init_65 : decode b_Dm_init 65 = .ok (.invokespecial 41, 3) := by decide +kernel
theorem d_Dm_init_68 : decode b_Dm_init 68 = .ok (.putfield 42, 3) := by decide +kernel
theorem d_Dm_init_71 : decode b_Dm_init 71 = .ok (.aload_n 0, 1) := by decide +kernel
theorem d_Dm_init_72 : decode b_Dm_init 72 = .ok (.new 46, 3) := by decide +kernel
theorem d_Dm_init_75 : decode b_Dm_init 75 = .ok (.dup, 1) := by decide +kernel
theorem d_Dm_init_76 : decode b_Dm_init 76 = .ok (.invokespecial 48, 3) := by decide +kernel
theorem d_Dm_init_79 : decode b_Dm_init 79 = .ok (.putfield 49, 3) := by decide +kernel
theorem d_Dm_init_82 : decode b_Dm_init 82 = .ok (.aload_n 0, 1) := by decide +kernel
theorem d_Dm_init_83 : decode b_Dm_init 83 = .ok (.new 46, 3) := by decide +kernel
theorem d_Dm_init_86 : decode b_Dm_init 86 = .ok (.dup, 1) := by decide +kernel
theorem d_Dm_init_87 : decode b_Dm_init 87 = .ok (.invokespecial 48, 3) := by decide +kernel
theorem d_Dm_init_90 : decode b_Dm_init 90 = .ok (.putfield 53, 3) := by decide +kernel
theorem d_Dm_init_93 : decode b_Dm_init 93 = .ok (.return_, 1) := by decide +kernel
theorem d_Dm_order_0 : decode b_Dm_order 0 = .ok (.iload_n 1, 1) := by decide +kernel
theorem d_Dm_order_1 : decode b_Dm_order 1 = .ok (.iload_n 2, 1) := by decide +kernel
theorem d_Dm_order_2 : decode b_Dm_order 2 = .ok (.invokestatic 56, 3) := by decide +kernel
theorem d_Dm_order_5 : decode b_Dm_order 5 = .ok (.istore 4, 2) := by decide +kernel
theorem d_Dm_order_7 : decode b_Dm_order 7 = .ok (.iload 4, 2) := by decide +kernel
theorem d_Dm_order_9 : decode b_Dm_order 9 = .ok (.ifCond .lt 13, 3) := by decide +kernel
theorem d_Dm_order_12 : decode b_Dm_order 12 = .ok (.iload_n 3, 1) := by decide +kernel
theorem d_Dm_order_13 : decode b_Dm_order 13 = .ok (.ifCond .lt 9, 3) := by decide +kernel
theorem d_Dm_order_16 : decode b_Dm_order 16 = .ok (.iload_n 3, 1) := by decide +kernel
theorem d_Dm_order_17 : decode b_Dm_order 17 = .ok (.ldc 60, 2) := by decide +kernel
theorem d_Dm_order_19 : decode b_Dm_order 19 = .ok (.if_icmp .le 5, 3) := by decide +kernel
theorem d_Dm_order_22 : decode b_Dm_order 22 = .ok (.iconst 0, 1) := by decide +kernel
theorem d_Dm_order_23 : decode b_Dm_order 23 = .ok (.ireturn, 1) := by decide +kernel
theorem d_Dm_order_24 : decode b_Dm_order 24 = .ok (.aload_n 0, 1) := by decide +kernel
theorem d_Dm_order_25 : decode b_Dm_order 25 = .ok (.getfield 12, 3) := by decide +kernel
theorem d_Dm_order_28 : decode b_Dm_order 28 = .ok (.getfield 61, 3) := by decide +kernel
theorem d_Dm_order_31 : decode b_Dm_order 31 = .ok (.iload 4, 2) := by decide +kernel
theorem d_Dm_order_33 : decode b_Dm_order 33 = .ok (.iload_n 3, 1) := by decide +kernel
theorem d_Dm_order_34 : decode b_Dm_order 34 = .ok (.iastore, 1) := by decide +kernel
theorem d_Dm_order_35 : decode b_Dm_order 35 = .ok (.iconst 1, 1) := by decide +kernel
theorem d_Dm_order_36 : decode b_Dm_order 36 = .ok (.ireturn, 1) := by decide +kernel
theorem d_Dm_word_0 : decode b_Dm_word 0 = .ok (.iload_n 1, 1) := by decide +kernel
theorem d_Dm_word_1 : decode b_Dm_word 1 = .ok (.iload_n 2, 1) := by decide +kernel
theorem d_Dm_word_2 : decode b_Dm_word 2 = .ok (.invokestatic 65, 3) := by decide +kernel
theorem d_Dm_word_5 : decode b_Dm_word 5 = .ok (.istore 4, 2) := by decide +kernel
theorem d_Dm_word_7 : decode b_Dm_word 7 = .ok (.iload 4, 2) := by decide +kernel
theorem d_Dm_word_9 : decode b_Dm_word 9 = .ok (.ifCond .ge 5, 3) := by decide +kernel
theorem d_Dm_word_12 : decode b_Dm_word 12 = .ok (.iconst 0, 1) := by decide +kernel
theorem d_Dm_word_13 : decode b_Dm_word 13 = .ok (.ireturn, 1) := by decide +kernel
theorem d_Dm_word_14 : decode b_Dm_word 14 = .ok (.aload_n 0, 1) := by decide +kernel
theorem d_Dm_word_15 : decode b_Dm_word 15 = .ok (.getfield 12, 3) := by decide +kernel
theorem d_Dm_word_18 : decode b_Dm_word 18 = .ok (.getfield 68, 3) := by decide +kernel
theorem d_Dm_word_21 : decode b_Dm_word 21 = .ok (.iload 4, 2) := by decide +kernel
theorem d_Dm_word_23 : decode b_Dm_word 23 = .ok (.iload_n 3, 1) := by decide +kernel
theorem d_Dm_word_24 : decode b_Dm_word 24 = .ok (.sastore, 1) := by decide +kernel
theorem d_Dm_word_25 : decode b_Dm_word 25 = .ok (.iconst 1, 1) := by decide +kernel
theorem d_Dm_word_26 : decode b_Dm_word 26 = .ok (.ireturn, 1) := by decide +kernel
theorem d_Dm_card_0 : decode b_Dm_card 0 = .ok (.aload_n 0, 1) := by decide +kernel
theorem d_Dm_card_1 : decode b_Dm_card 1 = .ok (.getfield 19, 3) := by decide +kernel
theorem d_Dm_card_4 : decode b_Dm_card 4 = .ok (.iload_n 1, 1) := by decide +kernel
theorem d_Dm_card_5 : decode b_Dm_card 5 = .ok (.invokevirtual 72, 3) := by decide +kernel
theorem d_Dm_card_8 : decode b_Dm_card 8 = .ok (.ireturn, 1) := by decide +kernel
theorem d_Dm_start_0 : decode b_Dm_start 0 = .ok (.iload_n 1, 1) := by decide +kernel
theorem d_Dm_start_1 : decode b_Dm_start 1 = .ok (.iload_n 2, 1) := by decide +kernel
theorem d_Dm_start_2 : decode b_Dm_start 2 = .ok (.invokestatic 56, 3) := by decide +kernel
theorem d_Dm_start_5 : decode b_Dm_start 5 = .ok (.ifCond .ge 5, 3) := by decide +kernel
theorem d_Dm_start_8 : decode b_Dm_start 8 = .ok (.iconst 0, 1) := by decide +kernel
theorem d_Dm_start_9 : decode b_Dm_start 9 = .ok (.ireturn, 1) := by decide +kernel
theorem d_Dm_start_10 : decode b_Dm_start 10 = .ok (.aload_n 0, 1) := by decide +kernel
theorem d_Dm_start_11 : decode b_Dm_start 11 = .ok (.getfield 35, 3) := by decide +kernel
theorem d_Dm_start_14 : decode b_Dm_start 14 = .ok (.iload_n 1, 1) := by decide +kernel
theorem d_Dm_start_15 : decode b_Dm_start 15 = .ok (.iload_n 2, 1) := by decide +kernel
theorem d_Dm_start_16 : decode b_Dm_start 16 = .ok (.invokevirtual 76, 3) := by decide +kernel
theorem d_Dm_start_19 : decode b_Dm_start 19 = .ok (.iconst 1, 1) := by decide +kernel
theorem d_Dm_start_20 : decode b_Dm_start 20 = .ok (.ireturn, 1) := by decide +kernel
theorem d_Dm_run_0 : decode b_Dm_run 0 = .ok (.iload_n 1, 1) := by decide +kernel
theorem d_Dm_run_1 : decode b_Dm_run 1 = .ok (.ifCond .lt 10, 3) := by decide +kernel
theorem d_Dm_run_4 : decode b_Dm_run 4 = .ok (.iload_n 1, 1) := by decide +kernel
theorem d_Dm_run_5 : decode b_Dm_run 5 = .ok (.sipush 2000, 3) := by decide +kernel
theorem d_Dm_run_8 : decode b_Dm_run 8 = .ok (.if_icmp .le 5, 3) := by decide +kernel
theorem d_Dm_run_11 : decode b_Dm_run 11 = .ok (.iconst (-1), 1) := by decide +kernel
theorem d_Dm_run_12 : decode b_Dm_run 12 = .ok (.ireturn, 1) := by decide +kernel
theorem d_Dm_run_13 : decode b_Dm_run 13 = .ok (.iconst 0, 1) := by decide +kernel
theorem d_Dm_run_14 : decode b_Dm_run 14 = .ok (.istore_n 2, 1) := by decide +kernel
theorem d_Dm_run_15 : decode b_Dm_run 15 = .ok (.iload_n 2, 1) := by decide +kernel
theorem d_Dm_run_16 : decode b_Dm_run 16 = .ok (.iload_n 1, 1) := by decide +kernel
theorem d_Dm_run_17 : decode b_Dm_run 17 = .ok (.if_icmp .ge 28, 3) := by decide +kernel
theorem d_Dm_run_20 : decode b_Dm_run 20 = .ok (.aload_n 0, 1) := by decide +kernel
theorem d_Dm_run_21 : decode b_Dm_run 21 = .ok (.getfield 35, 3) := by decide +kernel
theorem d_Dm_run_24 : decode b_Dm_run 24 = .ok (.getfield 80, 3) := by decide +kernel
theorem d_Dm_run_27 : decode b_Dm_run 27 = .ok (.ifCond .ne 5, 3) := by decide +kernel
theorem d_Dm_run_30 : decode b_Dm_run 30 = .ok (.iload_n 2, 1) := by decide +kernel
theorem d_Dm_run_31 : decode b_Dm_run 31 = .ok (.ireturn, 1) := by decide +kernel
theorem d_Dm_run_32 : decode b_Dm_run 32 = .ok (.aload_n 0, 1) := by decide +kernel
theorem d_Dm_run_33 : decode b_Dm_run 33 = .ok (.getfield 35, 3) := by decide +kernel
theorem d_Dm_run_36 : decode b_Dm_run 36 = .ok (.invokevirtual 84, 3) := by decide +kernel
theorem d_Dm_run_39 : decode b_Dm_run 39 = .ok (.iinc 2 1, 3) := by decide +kernel
theorem d_Dm_run_42 : decode b_Dm_run 42 = .ok (.goto (-27), 3) := by decide +kernel
theorem d_Dm_run_45 : decode b_Dm_run 45 = .ok (.iload_n 1, 1) := by decide +kernel
theorem d_Dm_run_46 : decode b_Dm_run 46 = .ok (.ireturn, 1) := by decide +kernel
theorem d_Dm_look_0 : decode b_Dm_look 0 = .ok (.iload_n 1, 1) := by decide +kernel
theorem d_Dm_look_1 : decode b_Dm_look 1 = .ok (.tableswitch 134 0 8 #[51, 67, 75, 83, 91, 99, 107, 115, 123], 51) := by decide +kernel
theorem d_Dm_look_52 : decode b_Dm_look 52 = .ok (.aload_n 0, 1) := by decide +kernel
theorem d_Dm_look_53 : decode b_Dm_look 53 = .ok (.getfield 35, 3) := by decide +kernel
theorem d_Dm_look_56 : decode b_Dm_look 56 = .ok (.getfield 80, 3) := by decide +kernel
theorem d_Dm_look_59 : decode b_Dm_look 59 = .ok (.ifCond .eq 7, 3) := by decide +kernel
theorem d_Dm_look_62 : decode b_Dm_look 62 = .ok (.iconst 1, 1) := by decide +kernel
theorem d_Dm_look_63 : decode b_Dm_look 63 = .ok (.goto 4, 3) := by decide +kernel
theorem d_Dm_look_66 : decode b_Dm_look 66 = .ok (.iconst 0, 1) := by decide +kernel
theorem d_Dm_look_67 : decode b_Dm_look 67 = .ok (.ireturn, 1) := by decide +kernel
theorem d_Dm_look_68 : decode b_Dm_look 68 = .ok (.aload_n 0, 1) := by decide +kernel
theorem d_Dm_look_69 : decode b_Dm_look 69 = .ok (.getfield 35, 3) := by decide +kernel
theorem d_Dm_look_72 : decode b_Dm_look 72 = .ok (.getfield 87, 3) := by decide +kernel
theorem d_Dm_look_75 : decode b_Dm_look 75 = .ok (.ireturn, 1) := by decide +kernel
theorem d_Dm_look_76 : decode b_Dm_look 76 = .ok (.aload_n 0, 1) := by decide +kernel
theorem d_Dm_look_77 : decode b_Dm_look 77 = .ok (.getfield 35, 3) := by decide +kernel
theorem d_Dm_look_80 : decode b_Dm_look 80 = .ok (.getfield 91, 3) := by decide +kernel
theorem d_Dm_look_83 : decode b_Dm_look 83 = .ok (.ireturn, 1) := by decide +kernel
theorem d_Dm_look_84 : decode b_Dm_look 84 = .ok (.aload_n 0, 1) := by decide +kernel
theorem d_Dm_look_85 : decode b_Dm_look 85 = .ok (.getfield 35, 3) := by decide +kernel
theorem d_Dm_look_88 : decode b_Dm_look 88 = .ok (.getfield 94, 3) := by decide +kernel
theorem d_Dm_look_91 : decode b_Dm_look 91 = .ok (.ireturn, 1) := by decide +kernel
theorem d_Dm_look_92 : decode b_Dm_look 92 = .ok (.aload_n 0, 1) := by decide +kernel
theorem d_Dm_look_93 : decode b_Dm_look 93 = .ok (.getfield 35, 3) := by decide +kernel
theorem d_Dm_look_96 : decode b_Dm_look 96 = .ok (.getfield 97, 3) := by decide +kernel
theorem d_Dm_look_99 : decode b_Dm_look 99 = .ok (.ireturn, 1) := by decide +kernel
theorem d_Dm_look_100 : decode b_Dm_look 100 = .ok (.aload_n 0, 1) := by decide +kernel
theorem d_Dm_look_101 : decode b_Dm_look 101 = .ok (.getfield 35, 3) := by decide +kernel
theorem d_Dm_look_104 : decode b_Dm_look 104 = .ok (.getfield 100, 3) := by decide +kernel
theorem d_Dm_look_107 : decode b_Dm_look 107 = .ok (.ireturn, 1) := by decide +kernel
theorem d_Dm_look_108 : decode b_Dm_look 108 = .ok (.aload_n 0, 1) := by decide +kernel
theorem d_Dm_look_109 : decode b_Dm_look 109 = .ok (.getfield 19, 3) := by decide +kernel
theorem d_Dm_look_112 : decode b_Dm_look 112 = .ok (.invokevirtual 103, 3) := by decide +kernel
theorem d_Dm_look_115 : decode b_Dm_look 115 = .ok (.ireturn, 1) := by decide +kernel
theorem d_Dm_look_116 : decode b_Dm_look 116 = .ok (.aload_n 0, 1) := by decide +kernel
theorem d_Dm_look_117 : decode b_Dm_look 117 = .ok (.getfield 26, 3) := by decide +kernel
theorem d_Dm_look_120 : decode b_Dm_look 120 = .ok (.getfield 107, 3) := by decide +kernel
theorem d_Dm_look_123 : decode b_Dm_look 123 = .ok (.ireturn, 1) := by decide +kernel
theorem d_Dm_look_124 : decode b_Dm_look 124 = .ok (.aload_n 0, 1) := by decide +kernel
theorem d_Dm_look_125 : decode b_Dm_look 125 = .ok (.getfield 35, 3) := by decide +kernel
theorem d_Dm_look_128 : decode b_Dm_look 128 = .ok (.getfield 110, 3) := by decide +kernel
theorem d_Dm_look_131 : decode b_Dm_look 131 = .ok (.getfield 114, 3) := by decide +kernel
theorem d_Dm_look_134 : decode b_Dm_look 134 = .ok (.ireturn, 1) := by decide +kernel
theorem d_Dm_look_135 : decode b_Dm_look 135 = .ok (.iconst (-1), 1) := by decide +kernel
theorem d_Dm_look_136 : decode b_Dm_look 136 = .ok (.ireturn, 1) := by decide +kernel
theorem d_Dm_peek_0 : decode b_Dm_peek 0 = .ok (.iload_n 1, 1) := by decide +kernel
theorem d_Dm_peek_1 : decode b_Dm_peek 1 = .ok (.iload_n 2, 1) := by decide +kernel
theorem d_Dm_peek_2 : decode b_Dm_peek 2 = .ok (.invokestatic 65, 3) := by decide +kernel
theorem d_Dm_peek_5 : decode b_Dm_peek 5 = .ok (.istore_n 3, 1) := by decide +kernel
theorem d_Dm_peek_6 : decode b_Dm_peek 6 = .ok (.iload_n 3, 1) := by decide +kernel
theorem d_Dm_peek_7 : decode b_Dm_peek 7 = .ok (.ifCond .ge 7, 3) := by decide +kernel
theorem d_Dm_peek_10 : decode b_Dm_peek 10 = .ok (.iconst 0, 1) := by decide +kernel
theorem d_Dm_peek_11 : decode b_Dm_peek 11 = .ok (.goto 12, 3) := by decide +kernel
theorem d_Dm_peek_14 : decode b_Dm_peek 14 = .ok (.aload_n 0, 1) := by decide +kernel
theorem d_Dm_peek_15 : decode b_Dm_peek 15 = .ok (.getfield 12, 3) := by decide +kernel
theorem d_Dm_peek_18 : decode b_Dm_peek 18 = .ok (.getfield 68, 3) := by decide +kernel
theorem d_Dm_peek_21 : decode b_Dm_peek 21 = .ok (.iload_n 3, 1) := by decide +kernel
theorem d_Dm_peek_22 : decode b_Dm_peek 22 = .ok (.saload, 1) := by decide +kernel
theorem d_Dm_peek_23 : decode b_Dm_peek 23 = .ok (.ireturn, 1) := by decide +kernel
theorem d_Dm_read_0 : decode b_Dm_read 0 = .ok (.iload_n 1, 1) := by decide +kernel
theorem d_Dm_read_1 : decode b_Dm_read 1 = .ok (.iload_n 2, 1) := by decide +kernel
theorem d_Dm_read_2 : decode b_Dm_read 2 = .ok (.invokestatic 56, 3) := by decide +kernel
theorem d_Dm_read_5 : decode b_Dm_read 5 = .ok (.istore_n 3, 1) := by decide +kernel
theorem d_Dm_read_6 : decode b_Dm_read 6 = .ok (.iload_n 3, 1) := by decide +kernel
theorem d_Dm_read_7 : decode b_Dm_read 7 = .ok (.ifCond .ge 7, 3) := by decide +kernel
theorem d_Dm_read_10 : decode b_Dm_read 10 = .ok (.iconst (-1), 1) := by decide +kernel
theorem d_Dm_read_11 : decode b_Dm_read 11 = .ok (.goto 12, 3) := by decide +kernel
theorem d_Dm_read_14 : decode b_Dm_read 14 = .ok (.aload_n 0, 1) := by decide +kernel
theorem d_Dm_read_15 : decode b_Dm_read 15 = .ok (.getfield 12, 3) := by decide +kernel
theorem d_Dm_read_18 : decode b_Dm_read 18 = .ok (.getfield 61, 3) := by decide +kernel
theorem d_Dm_read_21 : decode b_Dm_read 21 = .ok (.iload_n 3, 1) := by decide +kernel
theorem d_Dm_read_22 : decode b_Dm_read 22 = .ok (.iaload, 1) := by decide +kernel
theorem d_Dm_read_23 : decode b_Dm_read 23 = .ok (.ireturn, 1) := by decide +kernel
theorem d_Dm_punched_0 : decode b_Dm_punched 0 = .ok (.iload_n 1, 1) := by decide +kernel
theorem d_Dm_punched_1 : decode b_Dm_punched 1 = .ok (.ifCond .lt 14, 3) := by decide +kernel
theorem d_Dm_punched_4 : decode b_Dm_punched 4 = .ok (.iload_n 1, 1) := by decide +kernel
theorem d_Dm_punched_5 : decode b_Dm_punched 5 = .ok (.aload_n 0, 1) := by decide +kernel
theorem d_Dm_punched_6 : decode b_Dm_punched 6 = .ok (.getfield 26, 3) := by decide +kernel
theorem d_Dm_punched_9 : decode b_Dm_punched 9 = .ok (.getfield 107, 3) := by decide +kernel
theorem d_Dm_punched_12 : decode b_Dm_punched 12 = .ok (.if_icmp .lt 7, 3) := by decide +kernel
theorem d_Dm_punched_15 : decode b_Dm_punched 15 = .ok (.iconst 0, 1) := by decide +kernel
theorem d_Dm_punched_16 : decode b_Dm_punched 16 = .ok (.goto 12, 3) := by decide +kernel
theorem d_Dm_punched_19 : decode b_Dm_punched 19 = .ok (.aload_n 0, 1) := by decide +kernel
theorem d_Dm_punched_20 : decode b_Dm_punched 20 = .ok (.getfield 26, 3) := by decide +kernel
theorem d_Dm_punched_23 : decode b_Dm_punched 23 = .ok (.getfield 119, 3) := by decide +kernel
theorem d_Dm_punched_26 : decode b_Dm_punched 26 = .ok (.iload_n 1, 1) := by decide +kernel
theorem d_Dm_punched_27 : decode b_Dm_punched 27 = .ok (.saload, 1) := by decide +kernel
theorem d_Dm_punched_28 : decode b_Dm_punched 28 = .ok (.ireturn, 1) := by decide +kernel
theorem d_Dm_statement_0 : decode b_Dm_statement 0 = .ok (.aload_n 0, 1) := by decide +kernel
theorem d_Dm_statement_1 : decode b_Dm_statement 1 = .ok (.getfield 42, 3) := by decide +kernel
theorem d_Dm_statement_4 : decode b_Dm_statement 4 = .ok (.iload_n 1, 1) := by decide +kernel
theorem d_Dm_statement_5 : decode b_Dm_statement 5 = .ok (.iload_n 2, 1) := by decide +kernel
theorem d_Dm_statement_6 : decode b_Dm_statement 6 = .ok (.iload_n 3, 1) := by decide +kernel
theorem d_Dm_statement_7 : decode b_Dm_statement 7 = .ok (.iload 4, 2) := by decide +kernel
theorem d_Dm_statement_9 : decode b_Dm_statement 9 = .ok (.iload 5, 2) := by decide +kernel
theorem d_Dm_statement_11 : decode b_Dm_statement 11 = .ok (.invokevirtual 122, 3) := by decide +kernel
theorem d_Dm_statement_14 : decode b_Dm_statement 14 = .ok (.ireturn, 1) := by decide +kernel
theorem d_Dm_clear_0 : decode b_Dm_clear 0 = .ok (.aload_n 0, 1) := by decide +kernel
theorem d_Dm_clear_1 : decode b_Dm_clear 1 = .ok (.getfield 42, 3) := by decide +kernel
theorem d_Dm_clear_4 : decode b_Dm_clear 4 = .ok (.iconst 0, 1) := by decide +kernel
theorem d_Dm_clear_5 : decode b_Dm_clear 5 = .ok (.putfield 126, 3) := by decide +kernel
theorem d_Dm_clear_8 : decode b_Dm_clear 8 = .ok (.return_, 1) := by decide +kernel
theorem d_Dm_assemble_0 : decode b_Dm_assemble 0 = .ok (.aload_n 0, 1) := by decide +kernel
theorem d_Dm_assemble_1 : decode b_Dm_assemble 1 = .ok (.getfield 35, 3) := by decide +kernel
theorem d_Dm_assemble_4 : decode b_Dm_assemble 4 = .ok (.getfield 80, 3) := by decide +kernel
theorem d_Dm_assemble_7 : decode b_Dm_assemble 7 = .ok (.ifCond .ne 23, 3) := by decide +kernel
theorem d_Dm_assemble_10 : decode b_Dm_assemble 10 = .ok (.aload_n 0, 1) := by decide +kernel
theorem d_Dm_assemble_11 : decode b_Dm_assemble 11 = .ok (.getfield 42, 3) := by decide +kernel
theorem d_Dm_assemble_14 : decode b_Dm_assemble 14 = .ok (.getfield 126, 3) := by decide +kernel
theorem d_Dm_assemble_17 : decode b_Dm_assemble 17 = .ok (.ifCond .eq 13, 3) := by decide +kernel
theorem d_Dm_assemble_20 : decode b_Dm_assemble 20 = .ok (.aload_n 0, 1) := by decide +kernel
theorem d_Dm_assemble_21 : decode b_Dm_assemble 21 = .ok (.getfield 42, 3) := by decide +kernel
theorem d_Dm_assemble_24 : decode b_Dm_assemble 24 = .ok (.invokevirtual 127, 3) := by decide +kernel
theorem d_Dm_assemble_27 : decode b_Dm_assemble 27 = .ok (.ifCond .ne 5, 3) := by decide +kernel
theorem d_Dm_assemble_30 : decode b_Dm_assemble 30 = .ok (.iconst (-1), 1) := by decide +kernel
theorem d_Dm_assemble_31 : decode b_Dm_assemble 31 = .ok (.ireturn, 1) := by decide +kernel
theorem d_Dm_assemble_32 : decode b_Dm_assemble 32 = .ok (.aload_n 0, 1) := by decide +kernel
theorem d_Dm_assemble_33 : decode b_Dm_assemble 33 = .ok (.getfield 53, 3) := by decide +kernel
theorem d_Dm_assemble_36 : decode b_Dm_assemble 36 = .ok (.aload_n 0, 1) := by decide +kernel
theorem d_Dm_assemble_37 : decode b_Dm_assemble 37 = .ok (.getfield 42, 3) := by decide +kernel
theorem d_Dm_assemble_40 : decode b_Dm_assemble 40 = .ok (.invokevirtual 131, 3) := by decide +kernel
theorem d_Dm_assemble_43 : decode b_Dm_assemble 43 = .ok (.ifCond .ne 5, 3) := by decide +kernel
theorem d_Dm_assemble_46 : decode b_Dm_assemble 46 = .ok (.iconst (-1), 1) := by decide +kernel
theorem d_Dm_assemble_47 : decode b_Dm_assemble 47 = .ok (.ireturn, 1) := by decide +kernel
theorem d_Dm_assemble_48 : decode b_Dm_assemble 48 = .ok (.aload_n 0, 1) := by decide +kernel
theorem d_Dm_assemble_49 : decode b_Dm_assemble 49 = .ok (.getfield 49, 3) := by decide +kernel
theorem d_Dm_assemble_52 : decode b_Dm_assemble 52 = .ok (.astore_n 1, 1) := by decide +kernel
theorem d_Dm_assemble_53 : decode b_Dm_assemble 53 = .ok (.aload_n 0, 1) := by decide +kernel
theorem d_Dm_assemble_54 : decode b_Dm_assemble 54 = .ok (.aload_n 0, 1) := by decide +kernel
theorem d_Dm_assemble_55 : decode b_Dm_assemble 55 = .ok (.getfield 53, 3) := by decide +kernel
theorem d_Dm_assemble_58 : decode b_Dm_assemble 58 = .ok (.putfield 49, 3) := by decide +kernel
theorem d_Dm_assemble_61 : decode b_Dm_assemble 61 = .ok (.aload_n 0, 1) := by decide +kernel
theorem d_Dm_assemble_62 : decode b_Dm_assemble 62 = .ok (.aload_n 1, 1) := by decide +kernel
theorem d_Dm_assemble_63 : decode b_Dm_assemble 63 = .ok (.putfield 53, 3) := by decide +kernel
theorem d_Dm_assemble_66 : decode b_Dm_assemble 66 = .ok (.aload_n 0, 1) := by decide +kernel
theorem d_Dm_assemble_67 : decode b_Dm_assemble 67 = .ok (.getfield 49, 3) := by decide +kernel
theorem d_Dm_assemble_70 : decode b_Dm_assemble 70 = .ok (.getfield 135, 3) := by decide +kernel
theorem d_Dm_assemble_73 : decode b_Dm_assemble 73 = .ok (.iconst 0, 1) := by decide +kernel
theorem d_Dm_assemble_74 : decode b_Dm_assemble 74 = .ok (.aload_n 0, 1) := by decide +kernel
theorem d_Dm_assemble_75 : decode b_Dm_assemble 75 = .ok (.getfield 12, 3) := by decide +kernel
theorem d_Dm_assemble_78 : decode b_Dm_assemble 78 = .ok (.getfield 61, 3) := by decide +kernel
theorem d_Dm_assemble_81 : decode b_Dm_assemble 81 = .ok (.iconst 0, 1) := by decide +kernel
theorem d_Dm_assemble_82 : decode b_Dm_assemble 82 = .ok (.bipush 64, 2) := by decide +kernel
theorem d_Dm_assemble_84 : decode b_Dm_assemble 84 = .ok (.invokestatic 136, 3) := by decide +kernel
theorem d_Dm_assemble_87 : decode b_Dm_assemble 87 = .ok (.aload_n 0, 1) := by decide +kernel
theorem d_Dm_assemble_88 : decode b_Dm_assemble 88 = .ok (.getfield 49, 3) := by decide +kernel
theorem d_Dm_assemble_91 : decode b_Dm_assemble 91 = .ok (.getfield 142, 3) := by decide +kernel
theorem d_Dm_assemble_94 : decode b_Dm_assemble 94 = .ok (.ireturn, 1) := by decide +kernel
theorem d_Dm_placed_0 : decode b_Dm_placed 0 = .ok (.iload_n 1, 1) := by decide +kernel
theorem d_Dm_placed_1 : decode b_Dm_placed 1 = .ok (.ifCond .lt 9, 3) := by decide +kernel
theorem d_Dm_placed_4 : decode b_Dm_placed 4 = .ok (.iload_n 1, 1) := by decide +kernel
theorem d_Dm_placed_5 : decode b_Dm_placed 5 = .ok (.bipush 12, 2) := by decide +kernel
theorem d_Dm_placed_7 : decode b_Dm_placed 7 = .ok (.if_icmp .lt 7, 3) := by decide +kernel
theorem d_Dm_placed_10 : decode b_Dm_placed 10 = .ok (.iconst (-1), 1) := by decide +kernel
theorem d_Dm_placed_11 : decode b_Dm_placed 11 = .ok (.goto 12, 3) := by decide +kernel
theorem d_Dm_placed_14 : decode b_Dm_placed 14 = .ok (.aload_n 0, 1) := by decide +kernel
theorem d_Dm_placed_15 : decode b_Dm_placed 15 = .ok (.getfield 49, 3) := by decide +kernel
theorem d_Dm_placed_18 : decode b_Dm_placed 18 = .ok (.getfield 143, 3) := by decide +kernel
theorem d_Dm_placed_21 : decode b_Dm_placed 21 = .ok (.iload_n 1, 1) := by decide +kernel
theorem d_Dm_placed_22 : decode b_Dm_placed 22 = .ok (.iaload, 1) := by decide +kernel
theorem d_Dm_placed_23 : decode b_Dm_placed 23 = .ok (.ireturn, 1) := by decide +kernel
theorem d_Dm_variable_0 : decode b_Dm_variable 0 = .ok (.iload_n 1, 1) := by decide +kernel
theorem d_Dm_variable_1 : decode b_Dm_variable 1 = .ok (.invokestatic 146, 3) := by decide +kernel
theorem d_Dm_variable_4 : decode b_Dm_variable 4 = .ok (.ifCond .eq 15, 3) := by decide +kernel
theorem d_Dm_variable_7 : decode b_Dm_variable 7 = .ok (.aload_n 0, 1) := by decide +kernel
theorem d_Dm_variable_8 : decode b_Dm_variable 8 = .ok (.getfield 49, 3) := by decide +kernel
theorem d_Dm_variable_11 : decode b_Dm_variable 11 = .ok (.getfield 150, 3) := by decide +kernel
theorem d_Dm_variable_14 : decode b_Dm_variable 14 = .ok (.iload_n 1, 1) := by decide +kernel
theorem d_Dm_variable_15 : decode b_Dm_variable 15 = .ok (.iaload, 1) := by decide +kernel
theorem d_Dm_variable_16 : decode b_Dm_variable 16 = .ok (.goto 4, 3) := by decide +kernel
theorem d_Dm_variable_19 : decode b_Dm_variable 19 = .ok (.iconst (-1), 1) := by decide +kernel
theorem d_Dm_variable_20 : decode b_Dm_variable 20 = .ok (.ireturn, 1) := by decide +kernel
theorem d_Md_init_0 : decode b_Md_init 0 = .ok (.aload_n 0, 1) := by decide +kernel
theorem d_Md_init_1 : decode b_Md_init 1 = .ok (.invokespecial 1, 3) := by decide +kernel
theorem d_Md_init_4 : decode b_Md_init 4 = .ok (.aload_n 0, 1) := by decide +kernel
theorem d_Md_init_5 : decode b_Md_init 5 = .ok (.bipush 64, 2) := by decide +kernel
theorem d_Md_init_7 : decode b_Md_init 7 = .ok (.newarray .int, 2) := by decide +kernel
theorem d_Md_init_9 : decode b_Md_init 9 = .ok (.putfield 7, 3) := by decide +kernel
theorem d_Md_init_12 : decode b_Md_init 12 = .ok (.aload_n 0, 1) := by decide +kernel
theorem d_Md_init_13 : decode b_Md_init 13 = .ok (.sipush 132, 3) := by decide +kernel
theorem d_Md_init_16 : decode b_Md_init 16 = .ok (.newarray .short, 2) := by decide +kernel
theorem d_Md_init_18 : decode b_Md_init 18 = .ok (.putfield 13, 3) := by decide +kernel
theorem d_Md_init_21 : decode b_Md_init 21 = .ok (.aload_n 0, 1) := by decide +kernel
theorem d_Md_init_22 : decode b_Md_init 22 = .ok (.bipush 48, 2) := by decide +kernel
theorem d_Md_init_24 : decode b_Md_init 24 = .ok (.newarray .short, 2) := by decide +kernel
theorem d_Md_init_26 : decode b_Md_init 26 = .ok (.putfield 17, 3) := by decide +kernel
theorem d_Md_init_29 : decode b_Md_init 29 = .ok (.aload_n 0, 1) := by decide +kernel
theorem d_Md_init_30 : decode b_Md_init 30 = .ok (.bipush 12, 2) := by decide +kernel
theorem d_Md_init_32 : decode b_Md_init 32 = .ok (.newarray .short, 2) := by decide +kernel
theorem d_Md_init_34 : decode b_Md_init 34 = .ok (.putfield 20, 3) := by decide +kernel
theorem d_Md_init_37 : decode b_Md_init 37 = .ok (.aload_n 0, 1) := by decide +kernel
theorem d_Md_init_38 : decode b_Md_init 38 = .ok (.iconst (-1), 1) := by decide +kernel
theorem d_Md_init_39 : decode b_Md_init 39 = .ok (.putfield 23, 3) := by decide +kernel
theorem d_Md_init_42 : decode b_Md_init 42 = .ok (.aload_n 0, 1) := by decide +kernel
theorem d_Md_init_43 : decode b_Md_init 43 = .ok (.bipush 60, 2) := by decide +kernel
theorem d_Md_init_45 : decode b_Md_init 45 = .ok (.newarray .short, 2) := by decide +kernel
theorem d_Md_init_47 : decode b_Md_init 47 = .ok (.putfield 27, 3) := by decide +kernel
theorem d_Md_init_50 : decode b_Md_init 50 = .ok (.aload_n 0, 1) := by decide +kernel
theorem d_Md_init_51 : decode b_Md_init 51 = .ok (.bipush (-6), 2) := by decide +kernel
theorem d_Md_init_53 : decode b_Md_init 53 = .ok (.putfield 30, 3) := by decide +kernel
theorem d_Md_init_56 : decode b_Md_init 56 = .ok (.aload_n 0, 1) := by decide +kernel
theorem d_Md_init_57 : decode b_Md_init 57 = .ok (.bipush 12, 2) := by decide +kernel
theorem d_Md_init_59 : decode b_Md_init 59 = .ok (.newarray .int, 2) := by decide +kernel
theorem d_Md_init_61 : decode b_Md_init 61 = .ok (.putfield 33, 3) := by decide +kernel
theorem d_Md_init_64 : decode b_Md_init 64 = .ok (.aload_n 0, 1) := by decide +kernel
theorem d_Md_init_65 : decode b_Md_init 65 = .ok (.bipush 12, 2) := by decide +kernel
theorem d_Md_init_67 : decode b_Md_init 67 = .ok (.newarray .int, 2) := by decide +kernel
theorem d_Md_init_69 : decode b_Md_init 69 = .ok (.putfield 36, 3) := by decide +kernel
theorem d_Md_init_72 : decode b_Md_init 72 = .ok (.aload_n 0, 1) := by decide +kernel
theorem d_Md_init_73 : decode b_Md_init 73 = .ok (.bipush 12, 2) := by decide +kernel
theorem d_Md_init_75 : decode b_Md_init 75 = .ok (.newarray .int, 2) := by decide +kernel
theorem d_Md_init_77 : decode b_Md_init 77 = .ok (.putfield 39, 3) := by decide +kernel
theorem d_Md_init_80 : decode b_Md_init 80 = .ok (.aload_n 0, 1) := by decide +kernel
theorem d_Md_init_81 : decode b_Md_init 81 = .ok (.bipush 12, 2) := by decide +kernel
theorem d_Md_init_83 : decode b_Md_init 83 = .ok (.newarray .int, 2) := by decide +kernel
theorem d_Md_init_85 : decode b_Md_init 85 = .ok (.putfield 42, 3) := by decide +kernel
theorem d_Md_init_88 : decode b_Md_init 88 = .ok (.aload_n 0, 1) := by decide +kernel
theorem d_Md_init_89 : decode b_Md_init 89 = .ok (.bipush 12, 2) := by decide +kernel
theorem d_Md_init_91 : decode b_Md_init 91 = .ok (.newarray .int, 2) := by decide +kernel
theorem d_Md_init_93 : decode b_Md_init 93 = .ok (.putfield 45, 3) := by decide +kernel
theorem d_Md_init_96 : decode b_Md_init 96 = .ok (.aload_n 0, 1) := by decide +kernel
theorem d_Md_init_97 : decode b_Md_init 97 = .ok (.bipush 64, 2) := by decide +kernel
theorem d_Md_init_99 : decode b_Md_init 99 = .ok (.newarray .int, 2) := by decide +kernel
theorem d_Md_init_101 : decode b_Md_init 101 = .ok (.putfield 48, 3) := by decide +kernel
theorem d_Md_init_104 : decode b_Md_init 104 = .ok (.aload_n 0, 1) := by decide +kernel
theorem d_Md_init_105 : decode b_Md_init 105 = .ok (.bipush 64, 2) := by decide +kernel
theorem d_Md_init_107 : decode b_Md_init 107 = .ok (.newarray .int, 2) := by decide +kernel
theorem d_Md_init_109 : decode b_Md_init 109 = .ok (.putfield 51, 3) := by decide +kernel
theorem d_Md_init_112 : decode b_Md_init 112 = .ok (.aload_n 0, 1) := by decide +kernel
theorem d_Md_init_113 : decode b_Md_init 113 = .ok (.bipush 64, 2) := by decide +kernel
theorem d_Md_init_115 : decode b_Md_init 115 = .ok (.newarray .int, 2) := by decide +kernel
theorem d_Md_init_117 : decode b_Md_init 117 = .ok (.putfield 54, 3) := by decide +kernel
theorem d_Md_init_120 : decode b_Md_init 120 = .ok (.aload_n 0, 1) := by decide +kernel
theorem d_Md_init_121 : decode b_Md_init 121 = .ok (.bipush 64, 2) := by decide +kernel
theorem d_Md_init_123 : decode b_Md_init 123 = .ok (.newarray .int, 2) := by decide +kernel
theorem d_Md_init_125 : decode b_Md_init 125 = .ok (.putfield 57, 3) := by decide +kernel
theorem d_Md_init_128 : decode b_Md_init 128 = .ok (.aload_n 0, 1) := by decide +kernel
theorem d_Md_init_129 : decode b_Md_init 129 = .ok (.bipush 64, 2) := by decide +kernel
theorem d_Md_init_131 : decode b_Md_init 131 = .ok (.newarray .int, 2) := by decide +kernel
theorem d_Md_init_133 : decode b_Md_init 133 = .ok (.putfield 60, 3) := by decide +kernel
theorem d_Md_init_136 : decode b_Md_init 136 = .ok (.aload_n 0, 1) := by decide +kernel
theorem d_Md_init_137 : decode b_Md_init 137 = .ok (.bipush 64, 2) := by decide +kernel
theorem d_Md_init_139 : decode b_Md_init 139 = .ok (.newarray .int, 2) := by decide +kernel
theorem d_Md_init_141 : decode b_Md_init 141 = .ok (.putfield 63, 3) := by decide +kernel
theorem d_Md_init_144 : decode b_Md_init 144 = .ok (.aload_n 0, 1) := by decide +kernel
theorem d_Md_init_145 : decode b_Md_init 145 = .ok (.bipush 64, 2) := by decide +kernel
theorem d_Md_init_147 : decode b_Md_init 147 = .ok (.newarray .boolean, 2) := by decide +kernel
theorem d_Md_init_149 : decode b_Md_init 149 = .ok (.putfield 66, 3) := by decide +kernel
theorem d_Md_init_152 : decode b_Md_init 152 = .ok (.aload_n 0, 1) := by decide +kernel
theorem d_Md_init_153 : decode b_Md_init 153 = .ok (.bipush 32, 2) := by decide +kernel
theorem d_Md_init_155 : decode b_Md_init 155 = .ok (.newarray .boolean, 2) := by decide +kernel
theorem d_Md_init_157 : decode b_Md_init 157 = .ok (.putfield 70, 3) := by decide +kernel
theorem d_Md_init_160 : decode b_Md_init 160 = .ok (.aload_n 0, 1) := by decide +kernel
theorem d_Md_init_161 : decode b_Md_init 161 = .ok (.bipush 16, 2) := by decide +kernel
theorem d_Md_init_163 : decode b_Md_init 163 = .ok (.newarray .int, 2) := by decide +kernel
theorem d_Md_init_165 : decode b_Md_init 165 = .ok (.putfield 73, 3) := by decide +kernel
theorem d_Md_init_168 : decode b_Md_init 168 = .ok (.aload_n 0, 1) := by decide +kernel
theorem d_Md_init_169 : decode b_Md_init 169 = .ok (.bipush 12, 2) := by decide +kernel
theorem d_Md_init_171 : decode b_Md_init 171 = .ok (.newarray .int, 2) := by decide +kernel
theorem d_Md_init_173 : decode b_Md_init 173 = .ok (.putfield 76, 3) := by decide +kernel
theorem d_Md_init_176 : decode b_Md_init 176 = .ok (.aload_n 0, 1) := by decide +kernel
theorem d_Md_init_177 : decode b_Md_init 177 = .ok (.bipush 16, 2) := by decide +kernel
theorem d_Md_init_179 : decode b_Md_init 179 = .ok (.newarray .int, 2) := by decide +kernel
theorem d_Md_init_181 : decode b_Md_init 181 = .ok (.putfield 79, 3) := by decide +kernel
theorem d_Md_init_184 : decode b_Md_init 184 = .ok (.iconst 0, 1) := by decide +kernel
theorem d_Md_init_185 : decode b_Md_init 185 = .ok (.istore_n 1, 1) := by decide +kernel
theorem d_Md_init_186 : decode b_Md_init 186 = .ok (.iload_n 1, 1) := by decide +kernel
theorem d_Md_init_187 : decode b_Md_init 187 = .ok (.bipush 16, 2) := by decide +kernel
theorem d_Md_init_189 : decode b_Md_init 189 = .ok (.if_icmp .ge 16, 3) := by decide +kernel
theorem d_Md_init_192 : decode b_Md_init 192 = .ok (.aload_n 0, 1) := by decide +kernel
theorem d_Md_init_193 : decode b_Md_init 193 = .ok (.getfield 79, 3) := by decide +kernel
theorem d_Md_init_196 : decode b_Md_init 196 = .ok (.iload_n 1, 1) := by decide +kernel
theorem d_Md_init_197 : decode b_Md_init 197 = .ok (.iconst (-1), 1) := by decide +kernel
theorem d_Md_init_198 : decode b_Md_init 198 = .ok (.iastore, 1) := by decide +kernel
theorem d_Md_init_199 : decode b_Md_init 199 = .ok (.iinc 1 1, 3) := by decide +kernel
theorem d_Md_init_202 : decode b_Md_init 202 = .ok (.goto (-16), 3) := by decide +kernel
theorem d_Md_init_205 : decode b_Md_init 205 = .ok (.return_, 1) := by decide +kernel
theorem d_Md_wordAt_0 : decode b_Md_wordAt 0 = .ok (.iload_n 0, 1) := by decide +kernel
theorem d_Md_wordAt_1 : decode b_Md_wordAt 1 = .ok (.iconst 1, 1) := by decide +kernel
theorem d_Md_wordAt_2 : decode b_Md_wordAt 2 = .ok (.if_icmp .le 32, 3) := by decide +kernel
theorem d_Md_wordAt_5 : decode b_Md_wordAt 5 = .ok (.iload_n 0, 1) := by decide +kernel
theorem d_Md_wordAt_6 : decode b_Md_wordAt 6 = .ok (.bipush 6, 2) := by decide +kernel
theorem d_Md_wordAt_8 : decode b_Md_wordAt 8 = .ok (.if_icmp .ge 26, 3) := by decide +kernel
theorem d_Md_wordAt_11 : decode b_Md_wordAt 11 = .ok (.iload_n 1, 1) := by decide +kernel
theorem d_Md_wordAt_12 : decode b_Md_wordAt 12 = .ok (.ifCond .lt 20, 3) := by decide +kernel
theorem d_Md_wordAt_15 : decode b_Md_wordAt 15 = .ok (.iload_n 1, 1) := by decide +kernel
theorem d_Md_wordAt_16 : decode b_Md_wordAt 16 = .ok (.bipush 32, 2) := by decide +kernel
theorem d_Md_wordAt_18 : decode b_Md_wordAt 18 = .ok (.if_icmp .ge 14, 3) := by decide +kernel
theorem d_Md_wordAt_21 : decode b_Md_wordAt 21 = .ok (.bipush 32, 2) := by decide +kernel
theorem d_Md_wordAt_23 : decode b_Md_wordAt 23 = .ok (.iload_n 0, 1) := by decide +kernel
theorem d_Md_wordAt_24 : decode b_Md_wordAt 24 = .ok (.iconst 2, 1) := by decide +kernel
theorem d_Md_wordAt_25 : decode b_Md_wordAt 25 = .ok (.isub, 1) := by decide +kernel
theorem d_Md_wordAt_26 : decode b_Md_wordAt 26 = .ok (.imul, 1) := by decide +kernel
theorem d_Md_wordAt_27 : decode b_Md_wordAt 27 = .ok (.iload_n 1, 1) := by decide +kernel
theorem d_Md_wordAt_28 : decode b_Md_wordAt 28 = .ok (.iadd, 1) := by decide +kernel
theorem d_Md_wordAt_29 : decode b_Md_wordAt 29 = .ok (.goto 4, 3) := by decide +kernel
theorem d_Md_wordAt_32 : decode b_Md_wordAt 32 = .ok (.iconst (-1), 1) := by decide +kernel
theorem d_Md_wordAt_33 : decode b_Md_wordAt 33 = .ok (.ireturn, 1) := by decide +kernel
theorem d_Md_wordAt_34 : decode b_Md_wordAt 34 = .ok (.iload_n 0, 1) := by decide +kernel
theorem d_Md_wordAt_35 : decode b_Md_wordAt 35 = .ok (.bipush 6, 2) := by decide +kernel
theorem d_Md_wordAt_37 : decode b_Md_wordAt 37 = .ok (.if_icmp .eq 9, 3) := by decide +kernel
theorem d_Md_wordAt_40 : decode b_Md_wordAt 40 = .ok (.iload_n 0, 1) := by decide +kernel
theorem d_Md_wordAt_41 : decode b_Md_wordAt 41 = .ok (.bipush 7, 2) := by decide +kernel
theorem d_Md_wordAt_43 : decode b_Md_wordAt 43 = .ok (.if_icmp .ne 20, 3) := by decide +kernel
theorem d_Md_wordAt_46 : decode b_Md_wordAt 46 = .ok (.iload_n 1, 1) := by decide +kernel
theorem d_Md_wordAt_47 : decode b_Md_wordAt 47 = .ok (.ifCond .ne 14, 3) := by decide +kernel
theorem d_Md_wordAt_50 : decode b_Md_wordAt 50 = .ok (.sipush 128, 3) := by decide +kernel
theorem d_Md_wordAt_53 : decode b_Md_wordAt 53 = .ok (.iload_n 0, 1) := by decide +kernel
theorem d_Md_wordAt_54 : decode b_Md_wordAt 54 = .ok (.iadd, 1) := by decide +kernel
theorem d_Md_wordAt_55 : decode b_Md_wordAt 55 = .ok (.bipush 6, 2) := by decide +kernel
theorem d_Md_wordAt_57 : decode b_Md_wordAt 57 = .ok (.isub, 1) := by decide +kernel
theorem d_Md_wordAt_58 : decode b_Md_wordAt 58 = .ok (.goto 4, 3) := by decide +kernel
theorem d_Md_wordAt_61 : decode b_Md_wordAt 61 = .ok (.iconst (-1), 1) := by decide +kernel
theorem d_Md_wordAt_62 : decode b_Md_wordAt 62 = .ok (.ireturn, 1) := by decide +kernel
theorem d_Md_wordAt_63 : decode b_Md_wordAt 63 = .ok (.iload_n 0, 1) := by decide +kernel
theorem d_Md_wordAt_64 : decode b_Md_wordAt 64 = .ok (.bipush 8, 2) := by decide +kernel
theorem d_Md_wordAt_66 : decode b_Md_wordAt 66 = .ok (.if_icmp .ne 20, 3) := by decide +kernel
theorem d_Md_wordAt_69 : decode b_Md_wordAt 69 = .ok (.iload_n 1, 1) := by decide +kernel
theorem d_Md_wordAt_70 : decode b_Md_wordAt 70 = .ok (.ifCond .eq 8, 3) := by decide +kernel
theorem d_Md_wordAt_73 : decode b_Md_wordAt 73 = .ok (.iload_n 1, 1) := by decide +kernel
theorem d_Md_wordAt_74 : decode b_Md_wordAt 74 = .ok (.iconst 1, 1) := by decide +kernel
theorem d_Md_wordAt_75 : decode b_Md_wordAt 75 = .ok (.if_icmp .ne 11, 3) := by decide +kernel
theorem d_Md_wordAt_78 : decode b_Md_wordAt 78 = .ok (.sipush 130, 3) := by decide +kernel
theorem d_Md_wordAt_81 : decode b_Md_wordAt 81 = .ok (.iload_n 1, 1) := by decide +kernel
theorem d_Md_wordAt_82 : decode b_Md_wordAt 82 = .ok (.iadd, 1) := by decide +kernel
theorem d_Md_wordAt_83 : decode b_Md_wordAt 83 = .ok (.goto 4, 3) := by decide +kernel
theorem d_Md_wordAt_86 : decode b_Md_wordAt 86 = .ok (.iconst (-1), 1) := by decide +kernel
theorem d_Md_wordAt_87 : decode b_Md_wordAt 87 = .ok (.ireturn, 1) := by decide +kernel
theorem d_Md_isOrder_0 : decode b_Md_isOrder 0 = .ok (.iload_n 0, 1) := by decide +kernel
theorem d_Md_isOrder_1 : decode b_Md_isOrder 1 = .ok (.ifCond .eq 8, 3) := by decide +kernel
theorem d_Md_isOrder_4 : decode b_Md_isOrder 4 = .ok (.iload_n 0, 1) := by decide +kernel
theorem d_Md_isOrder_5 : decode b_Md_isOrder 5 = .ok (.iconst 1, 1) := by decide +kernel
theorem d_Md_isOrder_6 : decode b_Md_isOrder 6 = .ok (.if_icmp .ne 17, 3) := by decide +kernel
theorem d_Md_isOrder_9 : decode b_Md_isOrder 9 = .ok (.iload_n 1, 1) := by decide +kernel
theorem d_Md_isOrder_10 : decode b_Md_isOrder 10 = .ok (.ifCond .lt 13, 3) := by decide +kernel
theorem d_Md_isOrder_13 : decode b_Md_isOrder 13 = .ok (.iload_n 1, 1) := by decide +kernel
theorem d_Md_isOrder_14 : decode b_Md_isOrder 14 = .ok (.bipush 32, 2) := by decide +kernel
theorem d_Md_isOrder_16 : decode b_Md_isOrder 16 = .ok (.if_icmp .ge 7, 3) := by decide +kernel
theorem d_Md_isOrder_19 : decode b_Md_isOrder 19 = .ok (.iconst 1, 1) := by decide +kernel
theorem d_Md_isOrder_20 : decode b_Md_isOrder 20 = .ok (.goto 4, 3) := by decide +kernel
theorem d_Md_isOrder_23 : decode b_Md_isOrder 23 = .ok (.iconst 0, 1) := by decide +kernel
theorem d_Md_isOrder_24 : decode b_Md_isOrder 24 = .ok (.ireturn, 1) := by decide +kernel
theorem d_Md_order_0 : decode b_Md_order 0 = .ok (.iload_n 1, 1) := by decide +kernel
theorem d_Md_order_1 : decode b_Md_order 1 = .ok (.iload_n 2, 1) := by decide +kernel
theorem d_Md_order_2 : decode b_Md_order 2 = .ok (.invokestatic 82, 3) := by decide +kernel
theorem d_Md_order_5 : decode b_Md_order 5 = .ok (.ifCond .eq 13, 3) := by decide +kernel
theorem d_Md_order_8 : decode b_Md_order 8 = .ok (.iload_n 3, 1) := by decide +kernel
theorem d_Md_order_9 : decode b_Md_order 9 = .ok (.ifCond .lt 9, 3) := by decide +kernel
theorem d_Md_order_12 : decode b_Md_order 12 = .ok (.iload_n 3, 1) := by decide +kernel
theorem d_Md_order_13 : decode b_Md_order 13 = .ok (.ldc 86, 2) := by decide +kernel
theorem d_Md_order_15 : decode b_Md_order 15 = .ok (.if_icmp .le 5, 3) := by decide +kernel
theorem d_Md_order_18 : decode b_Md_order 18 = .ok (.iconst 0, 1) := by decide +kernel
theorem d_Md_order_19 : decode b_Md_order 19 = .ok (.ireturn, 1) := by decide +kernel
theorem d_Md_order_20 : decode b_Md_order 20 = .ok (.aload_n 0, 1) := by decide +kernel
theorem d_Md_order_21 : decode b_Md_order 21 = .ok (.getfield 7, 3) := by decide +kernel
theorem d_Md_order_24 : decode b_Md_order 24 = .ok (.bipush 32, 2) := by decide +kernel
theorem d_Md_order_26 : decode b_Md_order 26 = .ok (.iload_n 1, 1) := by decide +kernel
theorem d_Md_order_27 : decode b_Md_order 27 = .ok (.imul, 1) := by decide +kernel
theorem d_Md_order_28 : decode b_Md_order 28 = .ok (.iload_n 2, 1) := by decide +kernel
theorem d_Md_order_29 : decode b_Md_order 29 = .ok (.iadd, 1) := by decide +kernel
theorem d_Md_order_30 : decode b_Md_order 30 = .ok (.iload_n 3, 1) := by decide +kernel
theorem d_Md_order_31 : decode b_Md_order 31 = .ok (.iastore, 1) := by decide +kernel
theorem d_Md_order_32 : decode b_Md_order 32 = .ok (.iconst 1, 1) := by decide +kernel
theorem d_Md_order_33 : decode b_Md_order 33 = .ok (.ireturn, 1) := by decide +kernel
theorem d_Md_word_0 : decode b_Md_word 0 = .ok (.iload_n 1, 1) := by decide +kernel
theorem d_Md_word_1 : decode b_Md_word 1 = .ok (.iload_n 2, 1) := by decide +kernel
theorem d_Md_word_2 : decode b_Md_word 2 = .ok (.invokestatic 87, 3) := by decide +kernel
theorem d_Md_word_5 : decode b_Md_word 5 = .ok (.istore 4, 2) := by decide +kernel
theorem d_Md_word_7 : decode b_Md_word 7 = .ok (.iload 4, 2) := by decide +kernel
theorem d_Md_word_9 : decode b_Md_word 9 = .ok (.ifCond .lt 11, 3) := by decide +kernel
theorem d_Md_word_12 : decode b_Md_word 12 = .ok (.aload_n 0, 1) := by decide +kernel
theorem d_Md_word_13 : decode b_Md_word 13 = .ok (.getfield 13, 3) := by decide +kernel
theorem d_Md_word_16 : decode b_Md_word 16 = .ok (.iload 4, 2) := by decide +kernel
theorem d_Md_word_18 : decode b_Md_word 18 = .ok (.iload_n 3, 1) := by decide +kernel
theorem d_Md_word_19 : decode b_Md_word 19 = .ok (.sastore, 1) := by decide +kernel
theorem d_Md_word_20 : decode b_Md_word 20 = .ok (.iload 4, 2) := by decide +kernel
theorem d_Md_word_22 : decode b_Md_word 22 = .ok (.ifCond .lt 7, 3) := by decide +kernel
theorem d_Md_word_25 : decode b_Md_word 25 = .ok (.iconst 1, 1) := by decide +kernel
theorem d_Md_word_26 : decode b_Md_word 26 = .ok (.goto 4, 3) := by decide +kernel
theorem d_Md_word_29 : decode b_Md_word 29 = .ok (.iconst 0, 1) := by decide +kernel
theorem d_Md_word_30 : decode b_Md_word 30 = .ok (.ireturn, 1) := by decide +kernel
theorem d_Md_card_0 : decode b_Md_card 0 = .ok (.aload_n 0, 1) := by decide +kernel
theorem d_Md_card_1 : decode b_Md_card 1 = .ok (.getfield 91, 3) := by decide +kernel
theorem d_Md_card_4 : decode b_Md_card 4 = .ok (.bipush 48, 2) := by decide +kernel
theorem d_Md_card_6 : decode b_Md_card 6 = .ok (.if_icmp .ne 5, 3) := by decide +kernel
theorem d_Md_card_9 : decode b_Md_card 9 = .ok (.iconst 0, 1) := by decide +kernel
theorem d_Md_card_10 : decode b_Md_card 10 = .ok (.ireturn, 1) := by decide +kernel
theorem d_Md_card_11 : decode b_Md_card 11 = .ok (.aload_n 0, 1) := by decide +kernel
theorem d_Md_card_12 : decode b_Md_card 12 = .ok (.dup, 1) := by decide +kernel
theorem d_Md_card_13 : decode b_Md_card 13 = .ok (.getfield 91, 3) := by decide +kernel
theorem d_Md_card_16 : decode b_Md_card 16 = .ok (.iconst 1, 1) := by decide +kernel
theorem d_Md_card_17 : decode b_Md_card 17 = .ok (.iadd, 1) := by decide +kernel
theorem d_Md_card_18 : decode b_Md_card 18 = .ok (.putfield 91, 3) := by decide +kernel
theorem d_Md_card_21 : decode b_Md_card 21 = .ok (.aload_n 0, 1) := by decide +kernel
theorem d_Md_card_22 : decode b_Md_card 22 = .ok (.getfield 17, 3) := by decide +kernel
theorem d_Md_card_25 : decode b_Md_card 25 = .ok (.aload_n 0, 1) := by decide +kernel
theorem d_Md_card_26 : decode b_Md_card 26 = .ok (.getfield 94, 3) := by decide +kernel
theorem d_Md_card_29 : decode b_Md_card 29 = .ok (.iload_n 1, 1) := by decide +kernel
theorem d_Md_card_30 : decode b_Md_card 30 = .ok (.sastore, 1) := by decide +kernel
theorem d_Md_card_31 : decode b_Md_card 31 = .ok (.aload_n 0, 1) := by decide +kernel
theorem d_Md_card_32 : decode b_Md_card 32 = .ok (.dup, 1) := by decide +kernel
theorem d_Md_card_33 : decode b_Md_card 33 = .ok (.getfield 94, 3) := by decide +kernel
theorem d_Md_card_36 : decode b_Md_card 36 = .ok (.iconst 1, 1) := by decide +kernel
theorem d_Md_card_37 : decode b_Md_card 37 = .ok (.iadd, 1) := by decide +kernel
theorem d_Md_card_38 : decode b_Md_card 38 = .ok (.putfield 94, 3) := by decide +kernel
theorem d_Md_card_41 : decode b_Md_card 41 = .ok (.iconst 1, 1) := by decide +kernel
theorem d_Md_card_42 : decode b_Md_card 42 = .ok (.ireturn, 1) := by decide +kernel
theorem d_Md_start_0 : decode b_Md_start 0 = .ok (.iload_n 1, 1) := by decide +kernel
theorem d_Md_start_1 : decode b_Md_start 1 = .ok (.iload_n 2, 1) := by decide +kernel
theorem d_Md_start_2 : decode b_Md_start 2 = .ok (.invokestatic 82, 3) := by decide +kernel
theorem d_Md_start_5 : decode b_Md_start 5 = .ok (.ifCond .ne 5, 3) := by decide +kernel
theorem d_Md_start_8 : decode b_Md_start 8 = .ok (.iconst 0, 1) := by decide +kernel
theorem d_Md_start_9 : decode b_Md_start 9 = .ok (.ireturn, 1) := by decide +kernel
theorem d_Md_start_10 : decode b_Md_start 10 = .ok (.aload_n 0, 1) := by decide +kernel
theorem d_Md_start_11 : decode b_Md_start 11 = .ok (.iconst 1, 1) := by decide +kernel
theorem d_Md_start_12 : decode b_Md_start 12 = .ok (.putfield 97, 3) := by decide +kernel
theorem d_Md_start_15 : decode b_Md_start 15 = .ok (.aload_n 0, 1) := by decide +kernel
theorem d_Md_start_16 : decode b_Md_start 16 = .ok (.iconst 0, 1) := by decide +kernel
theorem d_Md_start_17 : decode b_Md_start 17 = .ok (.putfield 101, 3) := by decide +kernel
theorem d_Md_start_20 : decode b_Md_start 20 = .ok (.aload_n 0, 1) := by decide +kernel
theorem d_Md_start_21 : decode b_Md_start 21 = .ok (.iconst 0, 1) := by decide +kernel
theorem d_Md_start_22 : decode b_Md_start 22 = .ok (.putfield 104, 3) := by decide +kernel
theorem d_Md_start_25 : decode b_Md_start 25 = .ok (.aload_n 0, 1) := by decide +kernel
theorem d_Md_start_26 : decode b_Md_start 26 = .ok (.iconst (-1), 1) := by decide +kernel
theorem d_Md_start_27 : decode b_Md_start 27 = .ok (.putfield 23, 3) := by decide +kernel
theorem d_Md_start_30 : decode b_Md_start 30 = .ok (.aload_n 0, 1) := by decide +kernel
theorem d_Md_start_31 : decode b_Md_start 31 = .ok (.iconst 0, 1) := by decide +kernel
theorem d_Md_start_32 : decode b_Md_start 32 = .ok (.putfield 107, 3) := by decide +kernel
theorem d_Md_start_35 : decode b_Md_start 35 = .ok (.aload_n 0, 1) := by decide +kernel
theorem d_Md_start_36 : decode b_Md_start 36 = .ok (.iconst (-1), 1) := by decide +kernel
theorem d_Md_start_37 : decode b_Md_start 37 = .ok (.putfield 110, 3) := by decide +kernel
theorem d_Md_start_40 : decode b_Md_start 40 = .ok (.aload_n 0, 1) := by decide +kernel
theorem d_Md_start_41 : decode b_Md_start 41 = .ok (.iconst (-1), 1) := by decide +kernel
theorem d_Md_start_42 : decode b_Md_start 42 = .ok (.putfield 113, 3) := by decide +kernel
theorem d_Md_start_45 : decode b_Md_start 45 = .ok (.aload_n 0, 1) := by decide +kernel
theorem d_Md_start_46 : decode b_Md_start 46 = .ok (.iconst 0, 1) := by decide +kernel
theorem d_Md_start_47 : decode b_Md_start 47 = .ok (.putfield 116, 3) := by decide +kernel
theorem d_Md_start_50 : decode b_Md_start 50 = .ok (.aload_n 0, 1) := by decide +kernel
theorem d_Md_start_51 : decode b_Md_start 51 = .ok (.iconst (-1), 1) := by decide +kernel
theorem d_Md_start_52 : decode b_Md_start 52 = .ok (.putfield 119, 3) := by decide +kernel
theorem d_Md_start_55 : decode b_Md_start 55 = .ok (.aload_n 0, 1) := by decide +kernel
theorem d_Md_start_56 : decode b_Md_start 56 = .ok (.iconst 0, 1) := by decide +kernel
theorem d_Md_start_57 : decode b_Md_start 57 = .ok (.putfield 122, 3) := by decide +kernel
theorem d_Md_start_60 : decode b_Md_start 60 = .ok (.aload_n 0, 1) := by decide +kernel
theorem d_Md_start_61 : decode b_Md_start 61 = .ok (.iconst (-1), 1) := by decide +kernel
theorem d_Md_start_62 : decode b_Md_start 62 = .ok (.putfield 125, 3) := by decide +kernel
theorem d_Md_start_65 : decode b_Md_start 65 = .ok (.aload_n 0, 1) := by decide +kernel
theorem d_Md_start_66 : decode b_Md_start 66 = .ok (.aload_n 0, 1) := by decide +kernel
theorem d_Md_start_67 : decode b_Md_start 67 = .ok (.getfield 128, 3) := by decide +kernel
theorem d_Md_start_70 : decode b_Md_start 70 = .ok (.putfield 131, 3) := by decide +kernel
theorem d_Md_start_73 : decode b_Md_start 73 = .ok (.aload_n 0, 1) := by decide +kernel
theorem d_Md_start_74 : decode b_Md_start 74 = .ok (.getfield 131, 3) := by decide +kernel
theorem d_Md_start_77 : decode b_Md_start 77 = .ok (.bipush 32, 2) := by decide +kernel
theorem d_Md_start_79 : decode b_Md_start 79 = .ok (.irem, 1) := by decide +kernel
theorem d_Md_start_80 : decode b_Md_start 80 = .ok (.iload_n 2, 1) := by decide +kernel
theorem d_Md_start_81 : decode b_Md_start 81 = .ok (.if_icmp .eq 16, 3) := by decide +kernel
theorem d_Md_start_84 : decode b_Md_start 84 = .ok (.aload_n 0, 1) := by decide +kernel
theorem d_Md_start_85 : decode b_Md_start 85 = .ok (.dup, 1) := by decide +kernel
theorem d_Md_start_86 : decode b_Md_start 86 = .ok (.getfield 131, 3) := by decide +kernel
theorem d_Md_start_89 : decode b_Md_start 89 = .ok (.iconst 1, 1) := by decide +kernel
theorem d_Md_start_90 : decode b_Md_start 90 = .ok (.iadd, 1) := by decide +kernel
theorem d_Md_start_91 : decode b_Md_start 91 = .ok (.putfield 131, 3) := by decide +kernel
theorem d_Md_start_94 : decode b_Md_start 94 = .ok (.goto (-21), 3) := by decide +kernel
theorem d_Md_start_97 : decode b_Md_start 97 = .ok (.aload_n 0, 1) := by decide +kernel
theorem d_Md_start_98 : decode b_Md_start 98 = .ok (.iload_n 1, 1) := by decide +kernel
theorem d_Md_start_99 : decode b_Md_start 99 = .ok (.putfield 134, 3) := by decide +kernel
theorem d_Md_start_102 : decode b_Md_start 102 = .ok (.iconst 1, 1) := by decide +kernel
theorem d_Md_start_103 : decode b_Md_start 103 = .ok (.ireturn, 1) := by decide +kernel
theorem d_Md_waitOf_0 : decode b_Md_waitOf 0 = .ok (.iload_n 0, 1) := by decide +kernel
theorem d_Md_waitOf_1 : decode b_Md_waitOf 1 = .ok (.bipush 10, 2) := by decide +kernel
theorem d_Md_waitOf_3 : decode b_Md_waitOf 3 = .ok (.ishr, 1) := by decide +kernel
theorem d_Md_waitOf_4 : decode b_Md_waitOf 4 = .ok (.bipush 31, 2) := by decide +kernel
theorem d_Md_waitOf_6 : decode b_Md_waitOf 6 = .ok (.iand, 1) := by decide +kernel
theorem d_Md_waitOf_7 : decode b_Md_waitOf 7 = .ok (.ireturn, 1) := by decide +kernel
theorem d_Md_gapOf_0 : decode b_Md_gapOf 0 = .ok (.iload_n 0, 1) := by decide +kernel
theorem d_Md_gapOf_1 : decode b_Md_gapOf 1 = .ok (.bipush 15, 2) := by decide +kernel
theorem d_Md_gapOf_3 : decode b_Md_gapOf 3 = .ok (.ishr, 1) := by decide +kernel
theorem d_Md_gapOf_4 : decode b_Md_gapOf 4 = .ok (.bipush 31, 2) := by decide +kernel
theorem d_Md_gapOf_6 : decode b_Md_gapOf 6 = .ok (.iand, 1) := by decide +kernel
theorem d_Md_gapOf_7 : decode b_Md_gapOf 7 = .ok (.istore_n 1, 1) := by decide +kernel
theorem d_Md_gapOf_8 : decode b_Md_gapOf 8 = .ok (.iload_n 1, 1) := by decide +kernel
theorem d_Md_gapOf_9 : decode b_Md_gapOf 9 = .ok (.iload_n 0, 1) := by decide +kernel
theorem d_Md_gapOf_10 : decode b_Md_gapOf 10 = .ok (.invokestatic 137, 3) := by decide +kernel
theorem d_Md_gapOf_13 : decode b_Md_gapOf 13 = .ok (.if_icmp .ge 10, 3) := by decide +kernel
theorem d_Md_gapOf_16 : decode b_Md_gapOf 16 = .ok (.iload_n 1, 1) := by decide +kernel
theorem d_Md_gapOf_17 : decode b_Md_gapOf 17 = .ok (.bipush 32, 2) := by decide +kernel
theorem d_Md_gapOf_19 : decode b_Md_gapOf 19 = .ok (.iadd, 1) := by decide +kernel
theorem d_Md_gapOf_20 : decode b_Md_gapOf 20 = .ok (.goto 4, 3) := by decide +kernel
theorem d_Md_gapOf_23 : decode b_Md_gapOf 23 = .ok (.iload_n 1, 1) := by decide +kernel
theorem d_Md_gapOf_24 : decode b_Md_gapOf 24 = .ok (.ireturn, 1) := by decide +kernel
theorem d_Md_read_0_0 : decode b_Md_read_0 0 = .ok (.aload_n 0, 1) := by decide +kernel
theorem d_Md_read_0_1 : decode b_Md_read_0 1 = .ok (.aload_n 0, 1) := by decide +kernel
theorem d_Md_read_0_2 : decode b_Md_read_0 2 = .ok (.getfield 141, 3) := by decide +kernel
theorem d_Md_read_0_5 : decode b_Md_read_0 5 = .ok (.putfield 144, 3) := by decide +kernel
theorem d_Md_read_0_8 : decode b_Md_read_0 8 = .ok (.aload_n 0, 1) := by decide +kernel
theorem d_Md_read_0_9 : decode b_Md_read_0 9 = .ok (.aload_n 0, 1) := by decide +kernel
theorem d_Md_read_0_10 : decode b_Md_read_0 10 = .ok (.getfield 116, 3) := by decide +kernel
theorem d_Md_read_0_13 : decode b_Md_read_0 13 = .ok (.putfield 122, 3) := by decide +kernel
theorem d_Md_read_0_16 : decode b_Md_read_0 16 = .ok (.aload_n 0, 1) := by decide +kernel
theorem d_Md_read_0_17 : decode b_Md_read_0 17 = .ok (.aload_n 0, 1) := by decide +kernel
theorem d_Md_read_0_18 : decode b_Md_read_0 18 = .ok (.getfield 119, 3) := by decide +kernel
theorem d_Md_read_0_21 : decode b_Md_read_0 21 = .ok (.putfield 125, 3) := by decide +kernel
theorem d_Md_read_0_24 : decode b_Md_read_0 24 = .ok (.aload_n 0, 1) := by decide +kernel
theorem d_Md_read_0_25 : decode b_Md_read_0 25 = .ok (.aload_n 0, 1) := by decide +kernel
theorem d_Md_read_0_26 : decode b_Md_read_0 26 = .ok (.getfield 134, 3) := by decide +kernel
theorem d_Md_read_0_29 : decode b_Md_read_0 29 = .ok (.putfield 110, 3) := by decide +kernel
theorem d_Md_read_0_32 : decode b_Md_read_0 32 = .ok (.aload_n 0, 1) := by decide +kernel
theorem d_Md_read_0_33 : decode b_Md_read_0 33 = .ok (.aload_n 0, 1) := by decide +kernel
theorem d_Md_read_0_34 : decode b_Md_read_0 34 = .ok (.getfield 128, 3) := by decide +kernel
theorem d_Md_read_0_37 : decode b_Md_read_0 37 = .ok (.bipush 32, 2) := by decide +kernel
theorem d_Md_read_0_39 : decode b_Md_read_0 39 = .ok (.irem, 1) := by decide +kernel
theorem d_Md_read_0_40 : decode b_Md_read_0 40 = .ok (.putfield 113, 3) := by decide +kernel
theorem d_Md_read_0_43 : decode b_Md_read_0 43 = .ok (.aload_n 0, 1) := by decide +kernel
theorem d_Md_read_0_44 : decode b_Md_read_0 44 = .ok (.dup, 1) := by decide +kernel
theorem d_Md_read_0_45 : decode b_Md_read_0 45 = .ok (.getfield 107, 3) := by decide +kernel
theorem d_Md_read_0_48 : decode b_Md_read_0 48 = .ok (.iconst 1, 1) := by decide +kernel
theorem d_Md_read_0_49 : decode b_Md_read_0 49 = .ok (.iadd, 1) := by decide +kernel
theorem d_Md_read_0_50 : decode b_Md_read_0 50 = .ok (.putfield 107, 3) := by decide +kernel
theorem d_Md_read_0_53 : decode b_Md_read_0 53 = .ok (.aload_n 0, 1) := by decide +kernel
theorem d_Md_read_0_54 : decode b_Md_read_0 54 = .ok (.aload_n 0, 1) := by decide +kernel
theorem d_Md_read_0_55 : decode b_Md_read_0 55 = .ok (.getfield 7, 3) := by decide +kernel
theorem d_Md_read_0_58 : decode b_Md_read_0 58 = .ok (.bipush 32, 2) := by decide +kernel
theorem d_Md_read_0_60 : decode b_Md_read_0 60 = .ok (.aload_n 0, 1) := by decide +kernel
theorem d_Md_read_0_61 : decode b_Md_read_0 61 = .ok (.getfield 110, 3) := by decide +kernel
theorem d_Md_read_0_64 : decode b_Md_read_0 64 = .ok (.imul, 1) := by decide +kernel
theorem d_Md_read_0_65 : decode b_Md_read_0 65 = .ok (.aload_n 0, 1) := by decide +kernel
theorem d_Md_read_0_66 : decode b_Md_read_0 66 = .ok (.getfield 113, 3) := by decide +kernel
theorem d_Md_read_0_69 : decode b_Md_read_0 69 = .ok (.iadd, 1) := by decide +kernel
theorem d_Md_read_0_70 : decode b_Md_read_0 70 = .ok (.iaload, 1) := by decide +kernel
theorem d_Md_read_0_71 : decode b_Md_read_0 71 = .ok (.putfield 141, 3) := by decide +kernel
theorem d_Md_read_0_74 : decode b_Md_read_0 74 = .ok (.aload_n 0, 1) := by decide +kernel
theorem d_Md_read_0_75 : decode b_Md_read_0 75 = .ok (.getfield 141, 3) := by decide +kernel
theorem d_Md_read_0_78 : decode b_Md_read_0 78 = .ok (.bipush 8, 2) := by decide +kernel
theorem d_Md_read_0_80 : decode b_Md_read_0 80 = .ok (.ishr, 1) := by decide +kernel
theorem d_Md_read_0_81 : decode b_Md_read_0 81 = .ok (.iconst 3, 1) := by decide +kernel
theorem d_Md_read_0_82 : decode b_Md_read_0 82 = .ok (.iand, 1) := by decide +kernel
theorem d_Md_read_0_83 : decode b_Md_read_0 83 = .ok (.istore_n 1, 1) := by decide +kernel
theorem d_Md_read_0_84 : decode b_Md_read_0 84 = .ok (.aload_n 0, 1) := by decide +kernel
theorem d_Md_read_0_85 : decode b_Md_read_0 85 = .ok (.aload_n 0, 1) := by decide +kernel
theorem d_Md_read_0_86 : decode b_Md_read_0 86 = .ok (.getfield 128, 3) := by decide +kernel
theorem d_Md_read_0_89 : decode b_Md_read_0 89 = .ok (.iconst 2, 1) := by decide +kernel
theorem d_Md_read_0_90 : decode b_Md_read_0 90 = .ok (.iadd, 1) := by decide +kernel
theorem d_Md_read_0_91 : decode b_Md_read_0 91 = .ok (.aload_n 0, 1) := by decide +kernel
theorem d_Md_read_0_92 : decode b_Md_read_0 92 = .ok (.getfield 141, 3) := by decide +kernel
theorem d_Md_read_0_95 : decode b_Md_read_0 95 = .ok (.invokestatic 137, 3) := by decide +kernel
theorem d_Md_read_0_98 : decode b_Md_read_0 98 = .ok (.iadd, 1) := by decide +kernel
theorem d_Md_read_0_99 : decode b_Md_read_0 99 = .ok (.putfield 116, 3) := by decide +kernel
theorem d_Md_read_0_102 : decode b_Md_read_0 102 = .ok (.aload_n 0, 1) := by decide +kernel
theorem d_Md_read_0_103 : decode b_Md_read_0 103 = .ok (.iload_n 1, 1) := by decide +kernel
theorem d_Md_read_0_104 : decode b_Md_read_0 104 = .ok (.iconst 1, 1) := by decide +kernel
theorem d_Md_read_0_105 : decode b_Md_read_0 105 = .ok (.if_icmp .ne 12, 3) := by decide +kernel
theorem d_Md_read_0_108 : decode b_Md_read_0 108 = .ok (.aload_n 0, 1) := by decide +kernel
theorem d_Md_read_0_109 : decode b_Md_read_0 109 = .ok (.getfield 116, 3) := by decide +kernel
theorem d_Md_read_0_112 : decode b_Md_read_0 112 = .ok (.iconst 1, 1) := by decide +kernel
theorem d_Md_read_0_113 : decode b_Md_read_0 113 = .ok (.iadd, 1) := by decide +kernel
theorem d_Md_read_0_114 : decode b_Md_read_0 114 = .ok (.goto 29, 3) := by decide +kernel
theorem d_Md_read_0_117 : decode b_Md_read_0 117 = .ok (.iload_n 1, 1) := by decide +kernel
theorem d_Md_read_0_118 : decode b_Md_read_0 118 = .ok (.iconst 2, 1) := by decide +kernel
theorem d_Md_read_0_119 : decode b_Md_read_0 119 = .ok (.if_icmp .ne 20, 3) := by decide +kernel
theorem d_Md_read_0_122 : decode b_Md_read_0 122 = .ok (.aload_n 0, 1) := by decide +kernel
theorem d_Md_read_0_123 : decode b_Md_read_0 123 = .ok (.getfield 128, 3) := by decide +kernel
theorem d_Md_read_0_126 : decode b_Md_read_0 126 = .ok (.iconst 2, 1) := by decide +kernel
theorem d_Md_read_0_127 : decode b_Md_read_0 127 = .ok (.iadd, 1) := by decide +kernel
theorem d_Md_read_0_128 : decode b_Md_read_0 128 = .ok (.aload_n 0, 1) := by decide +kernel
theorem d_Md_read_0_129 : decode b_Md_read_0 129 = .ok (.getfield 141, 3) := by decide +kernel
theorem d_Md_read_0_132 : decode b_Md_read_0 132 = .ok (.invokestatic 147, 3) := by decide +kernel
theorem d_Md_read_0_135 : decode b_Md_read_0 135 = .ok (.iadd, 1) := by decide +kernel
theorem d_Md_read_0_136 : decode b_Md_read_0 136 = .ok (.goto 7, 3) := by decide +kernel
theorem d_Md_read_0_139 : decode b_Md_read_0 139 = .ok (.aload_n 0, 1) := by decide +kernel
theorem d_Md_read_0_140 : decode b_Md_read_0 140 = .ok (.getfield 116, 3) := by decide +kernel
theorem d_Md_read_0_143 : decode b_Md_read_0 143 = .ok (.putfield 119, 3) := by decide +kernel
theorem d_Md_read_0_146 : decode b_Md_read_0 146 = .ok (.aload_n 0, 1) := by decide +kernel
theorem d_Md_read_0_147 : decode b_Md_read_0 147 = .ok (.aload_n 0, 1) := by decide +kernel
theorem d_Md_read_0_148 : decode b_Md_read_0 148 = .ok (.getfield 128, 3) := by decide +kernel
theorem d_Md_read_0_151 : decode b_Md_read_0 151 = .ok (.iconst 2, 1) := by decide +kernel
theorem d_Md_read_0_152 : decode b_Md_read_0 152 = .ok (.iadd, 1) := by decide +kernel
theorem d_Md_read_0_153 : decode b_Md_read_0 153 = .ok (.aload_n 0, 1) := by decide +kernel
theorem d_Md_read_0_154 : decode b_Md_read_0 154 = .ok (.getfield 141, 3) := by decide +kernel
theorem d_Md_read_0_157 : decode b_Md_read_0 157 = .ok (.invokestatic 147, 3) := by decide +kernel
theorem d_Md_read_0_160 : decode b_Md_read_0 160 = .ok (.iadd, 1) := by decide +kernel
theorem d_Md_read_0_161 : decode b_Md_read_0 161 = .ok (.putfield 131, 3) := by decide +kernel
theorem d_Md_read_0_164 : decode b_Md_read_0 164 = .ok (.aload_n 0, 1) := by decide +kernel
theorem d_Md_read_0_165 : decode b_Md_read_0 165 = .ok (.aload_n 0, 1) := by decide +kernel
theorem d_Md_read_0_166 : decode b_Md_read_0 166 = .ok (.getfield 141, 3) := by decide +kernel
theorem d_Md_read_0_169 : decode b_Md_read_0 169 = .ok (.bipush 20, 2) := by decide +kernel
theorem d_Md_read_0_171 : decode b_Md_read_0 171 = .ok (.ishr, 1) := by decide +kernel
theorem d_Md_read_0_172 : decode b_Md_read_0 172 = .ok (.putfield 134, 3) := by decide +kernel
theorem d_Md_read_0_175 : decode b_Md_read_0 175 = .ok (.aload_n 0, 1) := by decide +kernel
theorem d_Md_read_0_176 : decode b_Md_read_0 176 = .ok (.iconst 0, 1) := by decide +kernel
theorem d_Md_read_0_177 : decode b_Md_read_0 177 = .ok (.putfield 150, 3) := by decide +kernel
theorem d_Md_read_0_180 : decode b_Md_read_0 180 = .ok (.return_, 1) := by decide +kernel
theorem d_Md_row_0 : decode b_Md_row 0 = .ok (.aload_n 0, 1) := by decide +kernel
theorem d_Md_row_1 : decode b_Md_row 1 = .ok (.getfield 128, 3) := by decide +kernel
theorem d_Md_row_4 : decode b_Md_row 4 = .ok (.aload_n 0, 1) := by decide +kernel
theorem d_Md_row_5 : decode b_Md_row 5 = .ok (.getfield 23, 3) := by decide +kernel
theorem d_Md_row_8 : decode b_Md_row 8 = .ok (.isub, 1) := by decide +kernel
theorem d_Md_row_9 : decode b_Md_row 9 = .ok (.bipush 40, 2) := by decide +kernel
theorem d_Md_row_11 : decode b_Md_row 11 = .ok (.isub, 1) := by decide +kernel
theorem d_Md_row_12 : decode b_Md_row 12 = .ok (.istore_n 1, 1) := by decide +kernel
theorem d_Md_row_13 : decode b_Md_row 13 = .ok (.aload_n 0, 1) := by decide +kernel
theorem d_Md_row_14 : decode b_Md_row 14 = .ok (.getfield 23, 3) := by decide +kernel
theorem d_Md_row_17 : decode b_Md_row 17 = .ok (.ifCond .lt 24, 3) := by decide +kernel
theorem d_Md_row_20 : decode b_Md_row 20 = .ok (.iload_n 1, 1) := by decide +kernel
theorem d_Md_row_21 : decode b_Md_row 21 = .ok (.ifCond .lt 20, 3) := by decide +kernel
theorem d_Md_row_24 : decode b_Md_row 24 = .ok (.iload_n 1, 1) := by decide +kernel
theorem d_Md_row_25 : decode b_Md_row 25 = .ok (.bipush 8, 2) := by decide +kernel
theorem d_Md_row_27 : decode b_Md_row 27 = .ok (.irem, 1) := by decide +kernel
theorem d_Md_row_28 : decode b_Md_row 28 = .ok (.iconst 2, 1) := by decide +kernel
theorem d_Md_row_29 : decode b_Md_row 29 = .ok (.if_icmp .gt 12, 3) := by decide +kernel
theorem d_Md_row_32 : decode b_Md_row 32 = .ok (.iload_n 1, 1) := by decide +kernel
theorem d_Md_row_33 : decode b_Md_row 33 = .ok (.bipush 8, 2) := by decide +kernel
theorem d_Md_row_35 : decode b_Md_row 35 = .ok (.idiv, 1) := by decide +kernel
theorem d_Md_row_36 : decode b_Md_row 36 = .ok (.bipush 11, 2) := by decide +kernel
theorem d_Md_row_38 : decode b_Md_row 38 = .ok (.if_icmp .le 7, 3) := by decide +kernel
theorem d_Md_row_41 : decode b_Md_row 41 = .ok (.iconst (-1), 1) := by decide +kernel
theorem d_Md_row_42 : decode b_Md_row 42 = .ok (.goto 7, 3) := by decide +kernel
theorem d_Md_row_45 : decode b_Md_row 45 = .ok (.iload_n 1, 1) := by decide +kernel
theorem d_Md_row_46 : decode b_Md_row 46 = .ok (.bipush 8, 2) := by decide +kernel
theorem d_Md_row_48 : decode b_Md_row 48 = .ok (.idiv, 1) := by decide +kernel
theorem d_Md_row_49 : decode b_Md_row 49 = .ok (.ireturn, 1) := by decide +kernel
theorem d_Md_get_0 : decode b_Md_get 0 = .ok (.aload_n 0, 1) := by decide +kernel
theorem d_Md_get_1 : decode b_Md_get 1 = .ok (.getfield 13, 3) := by decide +kernel
theorem d_Md_get_4 : decode b_Md_get 4 = .ok (.sipush 128, 3) := by decide +kernel
theorem d_Md_get_7 : decode b_Md_get 7 = .ok (.saload, 1) := by decide +kernel
theorem d_Md_get_8 : decode b_Md_get 8 = .ok (.istore_n 2, 1) := by decide +kernel
theorem d_Md_get_9 : decode b_Md_get 9 = .ok (.aload_n 0, 1) := by decide +kernel
theorem d_Md_get_10 : decode b_Md_get 10 = .ok (.getfield 13, 3) := by decide +kernel
theorem d_Md_get_13 : decode b_Md_get 13 = .ok (.sipush 129, 3) := by decide +kernel
theorem d_Md_get_16 : decode b_Md_get 16 = .ok (.saload, 1) := by decide +kernel
theorem d_Md_get_17 : decode b_Md_get 17 = .ok (.istore_n 3, 1) := by decide +kernel
theorem d_Md_get_18 : decode b_Md_get 18 = .ok (.iload_n 1, 1) := by decide +kernel
theorem d_Md_get_19 : decode b_Md_get 19 = .ok (.tableswitch 174 0 14 #[73, 75, 77, 77, 77, 77, 97, 106, 115, 131, 136, 141, 143, 148, 169], 73) := by decide +kernel
theorem d_Md_get_92 : decode b_Md_get 92 = .ok (.iconst 0, 1) := by decide +kernel
theorem d_Md_get_93 : decode b_Md_get 93 = .ok (.ireturn, 1) := by decide +kernel
theorem d_Md_get_94 : decode b_Md_get 94 = .ok (.iconst 1, 1) := by decide +kernel
theorem d_Md_get_95 : decode b_Md_get 95 = .ok (.ireturn, 1) := by decide +kernel
theorem d_Md_get_96 : decode b_Md_get 96 = .ok (.aload_n 0, 1) := by decide +kernel
theorem d_Md_get_97 : decode b_Md_get 97 = .ok (.getfield 13, 3) := by decide +kernel
theorem d_Md_get_100 : decode b_Md_get 100 = .ok (.bipush 32, 2) := by decide +kernel
theorem d_Md_get_102 : decode b_Md_get 102 = .ok (.iload_n 1, 1) := by decide +kernel
theorem d_Md_get_103 : decode b_Md_get 103 = .ok (.iconst 2, 1) := by decide +kernel
theorem d_Md_get_104 : decode b_Md_get 104 = .ok (.isub, 1) := by decide +kernel
theorem d_Md_get_105 : decode b_Md_get 105 = .ok (.imul, 1) := by decide +kernel
theorem d_Md_get_106 : decode b_Md_get 106 = .ok (.aload_n 0, 1) := by decide +kernel
theorem d_Md_get_107 : decode b_Md_get 107 = .ok (.getfield 128, 3) := by decide +kernel
theorem d_Md_get_110 : decode b_Md_get 110 = .ok (.bipush 32, 2) := by decide +kernel
theorem d_Md_get_112 : decode b_Md_get 112 = .ok (.irem, 1) := by decide +kernel
theorem d_Md_get_113 : decode b_Md_get 113 = .ok (.iadd, 1) := by decide +kernel
theorem d_Md_get_114 : decode b_Md_get 114 = .ok (.saload, 1) := by decide +kernel
theorem d_Md_get_115 : decode b_Md_get 115 = .ok (.ireturn, 1) := by decide +kernel
theorem d_Md_get_116 : decode b_Md_get 116 = .ok (.aload_n 0, 1) := by decide +kernel
theorem d_Md_get_117 : decode b_Md_get 117 = .ok (.getfield 13, 3) := by decide +kernel
theorem d_Md_get_120 : decode b_Md_get 120 = .ok (.sipush 128, 3) := by decide +kernel
theorem d_Md_get_123 : decode b_Md_get 123 = .ok (.saload, 1) := by decide +kernel
theorem d_Md_get_124 : decode b_Md_get 124 = .ok (.ireturn, 1) := by decide +kernel
theorem d_Md_get_125 : decode b_Md_get 125 = .ok (.aload_n 0, 1) := by decide +kernel
theorem d_Md_get_126 : decode b_Md_get 126 = .ok (.getfield 13, 3) := by decide +kernel
theorem d_Md_get_129 : decode b_Md_get 129 = .ok (.sipush 129, 3) := by decide +kernel
theorem d_Md_get_132 : decode b_Md_get 132 = .ok (.saload, 1) := by decide +kernel
theorem d_Md_get_133 : decode b_Md_get 133 = .ok (.ireturn, 1) := by decide +kernel
theorem d_Md_get_134 : decode b_Md_get 134 = .ok (.aload_n 0, 1) := by decide +kernel
theorem d_Md_get_135 : decode b_Md_get 135 = .ok (.getfield 13, 3) := by decide +kernel
theorem d_Md_get_138 : decode b_Md_get 138 = .ok (.sipush 130, 3) := by decide +kernel
theorem d_Md_get_141 : decode b_Md_get 141 = .ok (.aload_n 0, 1) := by decide +kernel
theorem d_Md_get_142 : decode b_Md_get 142 = .ok (.getfield 128, 3) := by decide +kernel
theorem d_Md_get_145 : decode b_Md_get 145 = .ok (.iconst 2, 1) := by decide +kernel
theorem d_Md_get_146 : decode b_Md_get 146 = .ok (.irem, 1) := by decide +kernel
theorem d_Md_get_147 : decode b_Md_get 147 = .ok (.iadd, 1) := by decide +kernel
theorem d_Md_get_148 : decode b_Md_get 148 = .ok (.saload, 1) := by decide +kernel
theorem d_Md_get_149 : decode b_Md_get 149 = .ok (.ireturn, 1) := by decide +kernel
theorem d_Md_get_150 : decode b_Md_get 150 = .ok (.iload_n 2, 1) := by decide +kernel
theorem d_Md_get_151 : decode b_Md_get 151 = .ok (.iload_n 3, 1) := by decide +kernel
theorem d_Md_get_152 : decode b_Md_get 152 = .ok (.iand, 1) := by decide +kernel
theorem d_Md_get_153 : decode b_Md_get 153 = .ok (.i2s, 1) := by decide +kernel
theorem d_Md_get_154 : decode b_Md_get 154 = .ok (.ireturn, 1) := by decide +kernel
theorem d_Md_get_155 : decode b_Md_get 155 = .ok (.iload_n 2, 1) := by decide +kernel
end
section
theorem d_Md_get_156 : decode b_Md_get 156 = .ok (.iload_n 3, 1) := by decide +kernel
theorem d_Md_get_157 : decode b_Md_get 157 = .ok (.ixor, 1) := by decide +kernel
theorem d_Md_get_158 : decode b_Md_get 158 = .ok (.i2s, 1) := by decide +kernel
theorem d_Md_get_159 : decode b_Md_get 159 = .ok (.ireturn, 1) := by decide +kernel
theorem d_Md_get_160 : decode b_Md_get 160 = .ok (.iconst (-1), 1) := by decide +kernel
theorem d_Md_get_161 : decode b_Md_get 161 = .ok (.ireturn, 1) := by decide +kernel
theorem d_Md_get_162 : decode b_Md_get 162 = .ok (.iload_n 2, 1) := by decide +kernel
theorem d_Md_get_163 : decode b_Md_get 163 = .ok (.iconst 1, 1) := by decide +kernel
theorem d_Md_get_164 : decode b_Md_get 164 = .ok (.ishr, 1) := by decide +kernel
theorem d_Md_get_165 : decode b_Md_get 165 = .ok (.i2s, 1) := by decide +kernel
theorem d_Md_get_166 : decode b_Md_get 166 = .ok (.ireturn, 1) := by decide +kernel
theorem d_Md_get_167 : decode b_Md_get 167 = .ok (.aload_n 0, 1) := by decide +kernel
theorem d_Md_get_168 : decode b_Md_get 168 = .ok (.invokevirtual 153, 3) := by decide +kernel
theorem d_Md_get_171 : decode b_Md_get 171 = .ok (.ifCond .ge 7, 3) := by decide +kernel
theorem d_Md_get_174 : decode b_Md_get 174 = .ok (.iconst 0, 1) := by decide +kernel
theorem d_Md_get_175 : decode b_Md_get 175 = .ok (.goto 12, 3) := by decide +kernel
theorem d_Md_get_178 : decode b_Md_get 178 = .ok (.aload_n 0, 1) := by decide +kernel
theorem d_Md_get_179 : decode b_Md_get 179 = .ok (.getfield 20, 3) := by decide +kernel
theorem d_Md_get_182 : decode b_Md_get 182 = .ok (.aload_n 0, 1) := by decide +kernel
theorem d_Md_get_183 : decode b_Md_get 183 = .ok (.invokevirtual 153, 3) := by decide +kernel
theorem d_Md_get_186 : decode b_Md_get 186 = .ok (.saload, 1) := by decide +kernel
theorem d_Md_get_187 : decode b_Md_get 187 = .ok (.ireturn, 1) := by decide +kernel
theorem d_Md_get_188 : decode b_Md_get 188 = .ok (.iload_n 2, 1) := by decide +kernel
theorem d_Md_get_189 : decode b_Md_get 189 = .ok (.iconst (-1), 1) := by decide +kernel
theorem d_Md_get_190 : decode b_Md_get 190 = .ok (.ixor, 1) := by decide +kernel
theorem d_Md_get_191 : decode b_Md_get 191 = .ok (.i2s, 1) := by decide +kernel
theorem d_Md_get_192 : decode b_Md_get 192 = .ok (.ireturn, 1) := by decide +kernel
theorem d_Md_get_193 : decode b_Md_get 193 = .ok (.aload_n 0, 1) := by decide +kernel
theorem d_Md_get_194 : decode b_Md_get 194 = .ok (.getfield 128, 3) := by decide +kernel
theorem d_Md_get_197 : decode b_Md_get 197 = .ok (.i2s, 1) := by decide +kernel
theorem d_Md_get_198 : decode b_Md_get 198 = .ok (.ireturn, 1) := by decide +kernel
theorem d_Md_fail_0 : decode b_Md_fail 0 = .ok (.aload_n 0, 1) := by decide +kernel
theorem d_Md_fail_1 : decode b_Md_fail 1 = .ok (.aload_n 0, 1) := by decide +kernel
theorem d_Md_fail_2 : decode b_Md_fail 2 = .ok (.getfield 101, 3) := by decide +kernel
theorem d_Md_fail_5 : decode b_Md_fail 5 = .ok (.ifCond .ne 7, 3) := by decide +kernel
theorem d_Md_fail_8 : decode b_Md_fail 8 = .ok (.iload_n 1, 1) := by decide +kernel
theorem d_Md_fail_9 : decode b_Md_fail 9 = .ok (.goto 7, 3) := by decide +kernel
theorem d_Md_fail_12 : decode b_Md_fail 12 = .ok (.aload_n 0, 1) := by decide +kernel
theorem d_Md_fail_13 : decode b_Md_fail 13 = .ok (.getfield 101, 3) := by decide +kernel
theorem d_Md_fail_16 : decode b_Md_fail 16 = .ok (.putfield 101, 3) := by decide +kernel
theorem d_Md_fail_19 : decode b_Md_fail 19 = .ok (.aload_n 0, 1) := by decide +kernel
theorem d_Md_fail_20 : decode b_Md_fail 20 = .ok (.iconst 0, 1) := by decide +kernel
theorem d_Md_fail_21 : decode b_Md_fail 21 = .ok (.putfield 97, 3) := by decide +kernel
theorem d_Md_fail_24 : decode b_Md_fail 24 = .ok (.return_, 1) := by decide +kernel
theorem d_Md_put_0 : decode b_Md_put 0 = .ok (.iload_n 1, 1) := by decide +kernel
theorem d_Md_put_1 : decode b_Md_put 1 = .ok (.tableswitch 259 0 14 #[75, 78, 86, 86, 86, 86, 109, 109, 126, 145, 145, 186, 186, 220, 252], 75) := by decide +kernel
theorem d_Md_put_76 : decode b_Md_put 76 = .ok (.goto 189, 3) := by decide +kernel
theorem d_Md_put_79 : decode b_Md_put 79 = .ok (.aload_n 0, 1) := by decide +kernel
theorem d_Md_put_80 : decode b_Md_put 80 = .ok (.iconst 0, 1) := by decide +kernel
theorem d_Md_put_81 : decode b_Md_put 81 = .ok (.putfield 97, 3) := by decide +kernel
theorem d_Md_put_84 : decode b_Md_put 84 = .ok (.goto 181, 3) := by decide +kernel
theorem d_Md_put_87 : decode b_Md_put 87 = .ok (.aload_n 0, 1) := by decide +kernel
theorem d_Md_put_88 : decode b_Md_put 88 = .ok (.getfield 13, 3) := by decide +kernel
theorem d_Md_put_91 : decode b_Md_put 91 = .ok (.bipush 32, 2) := by decide +kernel
theorem d_Md_put_93 : decode b_Md_put 93 = .ok (.iload_n 1, 1) := by decide +kernel
theorem d_Md_put_94 : decode b_Md_put 94 = .ok (.iconst 2, 1) := by decide +kernel
theorem d_Md_put_95 : decode b_Md_put 95 = .ok (.isub, 1) := by decide +kernel
theorem d_Md_put_96 : decode b_Md_put 96 = .ok (.imul, 1) := by decide +kernel
theorem d_Md_put_97 : decode b_Md_put 97 = .ok (.aload_n 0, 1) := by decide +kernel
theorem d_Md_put_98 : decode b_Md_put 98 = .ok (.getfield 128, 3) := by decide +kernel
theorem d_Md_put_101 : decode b_Md_put 101 = .ok (.bipush 32, 2) := by decide +kernel
theorem d_Md_put_103 : decode b_Md_put 103 = .ok (.irem, 1) := by decide +kernel
theorem d_Md_put_104 : decode b_Md_put 104 = .ok (.iadd, 1) := by decide +kernel
theorem d_Md_put_105 : decode b_Md_put 105 = .ok (.iload_n 2, 1) := by decide +kernel
theorem d_Md_put_106 : decode b_Md_put 106 = .ok (.sastore, 1) := by decide +kernel
theorem d_Md_put_107 : decode b_Md_put 107 = .ok (.goto 158, 3) := by decide +kernel
theorem d_Md_put_110 : decode b_Md_put 110 = .ok (.aload_n 0, 1) := by decide +kernel
theorem d_Md_put_111 : decode b_Md_put 111 = .ok (.getfield 13, 3) := by decide +kernel
theorem d_Md_put_114 : decode b_Md_put 114 = .ok (.sipush 128, 3) := by decide +kernel
theorem d_Md_put_117 : decode b_Md_put 117 = .ok (.iload_n 1, 1) := by decide +kernel
theorem d_Md_put_118 : decode b_Md_put 118 = .ok (.iadd, 1) := by decide +kernel
theorem d_Md_put_119 : decode b_Md_put 119 = .ok (.bipush 6, 2) := by decide +kernel
theorem d_Md_put_121 : decode b_Md_put 121 = .ok (.isub, 1) := by decide +kernel
theorem d_Md_put_122 : decode b_Md_put 122 = .ok (.iload_n 2, 1) := by decide +kernel
theorem d_Md_put_123 : decode b_Md_put 123 = .ok (.sastore, 1) := by decide +kernel
theorem d_Md_put_124 : decode b_Md_put 124 = .ok (.goto 141, 3) := by decide +kernel
theorem d_Md_put_127 : decode b_Md_put 127 = .ok (.aload_n 0, 1) := by decide +kernel
theorem d_Md_put_128 : decode b_Md_put 128 = .ok (.getfield 13, 3) := by decide +kernel
theorem d_Md_put_131 : decode b_Md_put 131 = .ok (.sipush 130, 3) := by decide +kernel
theorem d_Md_put_134 : decode b_Md_put 134 = .ok (.aload_n 0, 1) := by decide +kernel
theorem d_Md_put_135 : decode b_Md_put 135 = .ok (.getfield 128, 3) := by decide +kernel
theorem d_Md_put_138 : decode b_Md_put 138 = .ok (.iconst 2, 1) := by decide +kernel
theorem d_Md_put_139 : decode b_Md_put 139 = .ok (.irem, 1) := by decide +kernel
theorem d_Md_put_140 : decode b_Md_put 140 = .ok (.iadd, 1) := by decide +kernel
theorem d_Md_put_141 : decode b_Md_put 141 = .ok (.iload_n 2, 1) := by decide +kernel
theorem d_Md_put_142 : decode b_Md_put 142 = .ok (.sastore, 1) := by decide +kernel
theorem d_Md_put_143 : decode b_Md_put 143 = .ok (.goto 122, 3) := by decide +kernel
theorem d_Md_put_146 : decode b_Md_put 146 = .ok (.aload_n 0, 1) := by decide +kernel
theorem d_Md_put_147 : decode b_Md_put 147 = .ok (.getfield 13, 3) := by decide +kernel
theorem d_Md_put_150 : decode b_Md_put 150 = .ok (.sipush 128, 3) := by decide +kernel
theorem d_Md_put_153 : decode b_Md_put 153 = .ok (.iload_n 1, 1) := by decide +kernel
theorem d_Md_put_154 : decode b_Md_put 154 = .ok (.bipush 9, 2) := by decide +kernel
theorem d_Md_put_156 : decode b_Md_put 156 = .ok (.if_icmp .ne 16, 3) := by decide +kernel
theorem d_Md_put_159 : decode b_Md_put 159 = .ok (.aload_n 0, 1) := by decide +kernel
theorem d_Md_put_160 : decode b_Md_put 160 = .ok (.getfield 13, 3) := by decide +kernel
theorem d_Md_put_163 : decode b_Md_put 163 = .ok (.sipush 128, 3) := by decide +kernel
theorem d_Md_put_166 : decode b_Md_put 166 = .ok (.saload, 1) := by decide +kernel
theorem d_Md_put_167 : decode b_Md_put 167 = .ok (.iload_n 2, 1) := by decide +kernel
theorem d_Md_put_168 : decode b_Md_put 168 = .ok (.iadd, 1) := by decide +kernel
theorem d_Md_put_169 : decode b_Md_put 169 = .ok (.goto 13, 3) := by decide +kernel
theorem d_Md_put_172 : decode b_Md_put 172 = .ok (.aload_n 0, 1) := by decide +kernel
theorem d_Md_put_173 : decode b_Md_put 173 = .ok (.getfield 13, 3) := by decide +kernel
theorem d_Md_put_176 : decode b_Md_put 176 = .ok (.sipush 128, 3) := by decide +kernel
theorem d_Md_put_179 : decode b_Md_put 179 = .ok (.saload, 1) := by decide +kernel
theorem d_Md_put_180 : decode b_Md_put 180 = .ok (.iload_n 2, 1) := by decide +kernel
theorem d_Md_put_181 : decode b_Md_put 181 = .ok (.isub, 1) := by decide +kernel
theorem d_Md_put_182 : decode b_Md_put 182 = .ok (.i2s, 1) := by decide +kernel
theorem d_Md_put_183 : decode b_Md_put 183 = .ok (.sastore, 1) := by decide +kernel
theorem d_Md_put_184 : decode b_Md_put 184 = .ok (.goto 81, 3) := by decide +kernel
theorem d_Md_put_187 : decode b_Md_put 187 = .ok (.aload_n 0, 1) := by decide +kernel
theorem d_Md_put_188 : decode b_Md_put 188 = .ok (.iload_n 1, 1) := by decide +kernel
theorem d_Md_put_189 : decode b_Md_put 189 = .ok (.bipush 11, 2) := by decide +kernel
theorem d_Md_put_191 : decode b_Md_put 191 = .ok (.if_icmp .ne 15, 3) := by decide +kernel
theorem d_Md_put_194 : decode b_Md_put 194 = .ok (.iload_n 2, 1) := by decide +kernel
theorem d_Md_put_195 : decode b_Md_put 195 = .ok (.ifCond .ge 7, 3) := by decide +kernel
theorem d_Md_put_198 : decode b_Md_put 198 = .ok (.iconst 1, 1) := by decide +kernel
theorem d_Md_put_199 : decode b_Md_put 199 = .ok (.goto 16, 3) := by decide +kernel
theorem d_Md_put_202 : decode b_Md_put 202 = .ok (.iconst 0, 1) := by decide +kernel
theorem d_Md_put_203 : decode b_Md_put 203 = .ok (.goto 12, 3) := by decide +kernel
theorem d_Md_put_206 : decode b_Md_put 206 = .ok (.iload_n 2, 1) := by decide +kernel
theorem d_Md_put_207 : decode b_Md_put 207 = .ok (.ifCond .eq 7, 3) := by decide +kernel
theorem d_Md_put_210 : decode b_Md_put 210 = .ok (.iconst 1, 1) := by decide +kernel
theorem d_Md_put_211 : decode b_Md_put 211 = .ok (.goto 4, 3) := by decide +kernel
theorem d_Md_put_214 : decode b_Md_put 214 = .ok (.iconst 0, 1) := by decide +kernel
theorem d_Md_put_215 : decode b_Md_put 215 = .ok (.invokevirtual 157, 3) := by decide +kernel
theorem d_Md_put_218 : decode b_Md_put 218 = .ok (.goto 47, 3) := by decide +kernel
theorem d_Md_put_221 : decode b_Md_put 221 = .ok (.aload_n 0, 1) := by decide +kernel
theorem d_Md_put_222 : decode b_Md_put 222 = .ok (.bipush 17, 2) := by decide +kernel
theorem d_Md_put_224 : decode b_Md_put 224 = .ok (.putfield 104, 3) := by decide +kernel
theorem d_Md_put_227 : decode b_Md_put 227 = .ok (.aload_n 0, 1) := by decide +kernel
theorem d_Md_put_228 : decode b_Md_put 228 = .ok (.iload_n 2, 1) := by decide +kernel
theorem d_Md_put_229 : decode b_Md_put 229 = .ok (.putfield 161, 3) := by decide +kernel
theorem d_Md_put_232 : decode b_Md_put 232 = .ok (.aload_n 0, 1) := by decide +kernel
theorem d_Md_put_233 : decode b_Md_put 233 = .ok (.getfield 13, 3) := by decide +kernel
theorem d_Md_put_236 : decode b_Md_put 236 = .ok (.sipush 130, 3) := by decide +kernel
theorem d_Md_put_239 : decode b_Md_put 239 = .ok (.iconst 0, 1) := by decide +kernel
theorem d_Md_put_240 : decode b_Md_put 240 = .ok (.sastore, 1) := by decide +kernel
theorem d_Md_put_241 : decode b_Md_put 241 = .ok (.aload_n 0, 1) := by decide +kernel
theorem d_Md_put_242 : decode b_Md_put 242 = .ok (.getfield 13, 3) := by decide +kernel
theorem d_Md_put_245 : decode b_Md_put 245 = .ok (.sipush 131, 3) := by decide +kernel
theorem d_Md_put_248 : decode b_Md_put 248 = .ok (.iconst 0, 1) := by decide +kernel
theorem d_Md_put_249 : decode b_Md_put 249 = .ok (.sastore, 1) := by decide +kernel
theorem d_Md_put_250 : decode b_Md_put 250 = .ok (.goto 15, 3) := by decide +kernel
theorem d_Md_put_253 : decode b_Md_put 253 = .ok (.aload_n 0, 1) := by decide +kernel
theorem d_Md_put_254 : decode b_Md_put 254 = .ok (.invokevirtual 164, 3) := by decide +kernel
theorem d_Md_put_257 : decode b_Md_put 257 = .ok (.goto 8, 3) := by decide +kernel
theorem d_Md_put_260 : decode b_Md_put 260 = .ok (.aload_n 0, 1) := by decide +kernel
theorem d_Md_put_261 : decode b_Md_put 261 = .ok (.iload_n 2, 1) := by decide +kernel
theorem d_Md_put_262 : decode b_Md_put 262 = .ok (.invokevirtual 167, 3) := by decide +kernel
theorem d_Md_put_265 : decode b_Md_put 265 = .ok (.return_, 1) := by decide +kernel
theorem d_Md_discriminate_0 : decode b_Md_discriminate 0 = .ok (.iload_n 1, 1) := by decide +kernel
theorem d_Md_discriminate_1 : decode b_Md_discriminate 1 = .ok (.ifCond .eq 21, 3) := by decide +kernel
theorem d_Md_discriminate_4 : decode b_Md_discriminate 4 = .ok (.aload_n 0, 1) := by decide +kernel
theorem d_Md_discriminate_5 : decode b_Md_discriminate 5 = .ok (.getfield 150, 3) := by decide +kernel
theorem d_Md_discriminate_8 : decode b_Md_discriminate 8 = .ok (.ifCond .ne 14, 3) := by decide +kernel
theorem d_Md_discriminate_11 : decode b_Md_discriminate 11 = .ok (.aload_n 0, 1) := by decide +kernel
theorem d_Md_discriminate_12 : decode b_Md_discriminate 12 = .ok (.getfield 131, 3) := by decide +kernel
theorem d_Md_discriminate_15 : decode b_Md_discriminate 15 = .ok (.aload_n 0, 1) := by decide +kernel
theorem d_Md_discriminate_16 : decode b_Md_discriminate 16 = .ok (.getfield 128, 3) := by decide +kernel
theorem d_Md_discriminate_19 : decode b_Md_discriminate 19 = .ok (.if_icmp .gt 4, 3) := by decide +kernel
theorem d_Md_discriminate_22 : decode b_Md_discriminate 22 = .ok (.return_, 1) := by decide +kernel
theorem d_Md_discriminate_23 : decode b_Md_discriminate 23 = .ok (.aload_n 0, 1) := by decide +kernel
theorem d_Md_discriminate_24 : decode b_Md_discriminate 24 = .ok (.iconst 1, 1) := by decide +kernel
theorem d_Md_discriminate_25 : decode b_Md_discriminate 25 = .ok (.putfield 150, 3) := by decide +kernel
theorem d_Md_discriminate_28 : decode b_Md_discriminate 28 = .ok (.aload_n 0, 1) := by decide +kernel
theorem d_Md_discriminate_29 : decode b_Md_discriminate 29 = .ok (.dup, 1) := by decide +kernel
theorem d_Md_discriminate_30 : decode b_Md_discriminate 30 = .ok (.getfield 131, 3) := by decide +kernel
theorem d_Md_discriminate_33 : decode b_Md_discriminate 33 = .ok (.iconst 1, 1) := by decide +kernel
theorem d_Md_discriminate_34 : decode b_Md_discriminate 34 = .ok (.iadd, 1) := by decide +kernel
theorem d_Md_discriminate_35 : decode b_Md_discriminate 35 = .ok (.putfield 131, 3) := by decide +kernel
theorem d_Md_discriminate_38 : decode b_Md_discriminate 38 = .ok (.return_, 1) := by decide +kernel
theorem d_Md_feed_0 : decode b_Md_feed 0 = .ok (.aload_n 0, 1) := by decide +kernel
theorem d_Md_feed_1 : decode b_Md_feed 1 = .ok (.getfield 94, 3) := by decide +kernel
theorem d_Md_feed_4 : decode b_Md_feed 4 = .ok (.bipush 12, 2) := by decide +kernel
theorem d_Md_feed_6 : decode b_Md_feed 6 = .ok (.if_icmp .lt 25, 3) := by decide +kernel
theorem d_Md_feed_9 : decode b_Md_feed 9 = .ok (.aload_n 0, 1) := by decide +kernel
theorem d_Md_feed_10 : decode b_Md_feed 10 = .ok (.getfield 23, 3) := by decide +kernel
theorem d_Md_feed_13 : decode b_Md_feed 13 = .ok (.ifCond .lt 24, 3) := by decide +kernel
theorem d_Md_feed_16 : decode b_Md_feed 16 = .ok (.aload_n 0, 1) := by decide +kernel
theorem d_Md_feed_17 : decode b_Md_feed 17 = .ok (.getfield 128, 3) := by decide +kernel
theorem d_Md_feed_20 : decode b_Md_feed 20 = .ok (.aload_n 0, 1) := by decide +kernel
theorem d_Md_feed_21 : decode b_Md_feed 21 = .ok (.getfield 23, 3) := by decide +kernel
theorem d_Md_feed_24 : decode b_Md_feed 24 = .ok (.sipush 130, 3) := by decide +kernel
theorem d_Md_feed_27 : decode b_Md_feed 27 = .ok (.iadd, 1) := by decide +kernel
theorem d_Md_feed_28 : decode b_Md_feed 28 = .ok (.if_icmp .gt 9, 3) := by decide +kernel
theorem d_Md_feed_31 : decode b_Md_feed 31 = .ok (.aload_n 0, 1) := by decide +kernel
theorem d_Md_feed_32 : decode b_Md_feed 32 = .ok (.iconst 2, 1) := by decide +kernel
theorem d_Md_feed_33 : decode b_Md_feed 33 = .ok (.invokevirtual 171, 3) := by decide +kernel
theorem d_Md_feed_36 : decode b_Md_feed 36 = .ok (.return_, 1) := by decide +kernel
theorem d_Md_feed_37 : decode b_Md_feed 37 = .ok (.iconst 0, 1) := by decide +kernel
theorem d_Md_feed_38 : decode b_Md_feed 38 = .ok (.istore_n 1, 1) := by decide +kernel
theorem d_Md_feed_39 : decode b_Md_feed 39 = .ok (.iload_n 1, 1) := by decide +kernel
theorem d_Md_feed_40 : decode b_Md_feed 40 = .ok (.bipush 12, 2) := by decide +kernel
theorem d_Md_feed_42 : decode b_Md_feed 42 = .ok (.if_icmp .ge 21, 3) := by decide +kernel
theorem d_Md_feed_45 : decode b_Md_feed 45 = .ok (.aload_n 0, 1) := by decide +kernel
theorem d_Md_feed_46 : decode b_Md_feed 46 = .ok (.getfield 20, 3) := by decide +kernel
theorem d_Md_feed_49 : decode b_Md_feed 49 = .ok (.iload_n 1, 1) := by decide +kernel
theorem d_Md_feed_50 : decode b_Md_feed 50 = .ok (.aload_n 0, 1) := by decide +kernel
theorem d_Md_feed_51 : decode b_Md_feed 51 = .ok (.getfield 17, 3) := by decide +kernel
theorem d_Md_feed_54 : decode b_Md_feed 54 = .ok (.iload_n 1, 1) := by decide +kernel
theorem d_Md_feed_55 : decode b_Md_feed 55 = .ok (.saload, 1) := by decide +kernel
theorem d_Md_feed_56 : decode b_Md_feed 56 = .ok (.sastore, 1) := by decide +kernel
theorem d_Md_feed_57 : decode b_Md_feed 57 = .ok (.iinc 1 1, 3) := by decide +kernel
theorem d_Md_feed_60 : decode b_Md_feed 60 = .ok (.goto (-21), 3) := by decide +kernel
theorem d_Md_feed_63 : decode b_Md_feed 63 = .ok (.aload_n 0, 1) := by decide +kernel
theorem d_Md_feed_64 : decode b_Md_feed 64 = .ok (.dup, 1) := by decide +kernel
theorem d_Md_feed_65 : decode b_Md_feed 65 = .ok (.getfield 94, 3) := by decide +kernel
theorem d_Md_feed_68 : decode b_Md_feed 68 = .ok (.bipush 12, 2) := by decide +kernel
theorem d_Md_feed_70 : decode b_Md_feed 70 = .ok (.isub, 1) := by decide +kernel
theorem d_Md_feed_71 : decode b_Md_feed 71 = .ok (.putfield 94, 3) := by decide +kernel
theorem d_Md_feed_74 : decode b_Md_feed 74 = .ok (.iconst 0, 1) := by decide +kernel
theorem d_Md_feed_75 : decode b_Md_feed 75 = .ok (.istore_n 1, 1) := by decide +kernel
theorem d_Md_feed_76 : decode b_Md_feed 76 = .ok (.iload_n 1, 1) := by decide +kernel
theorem d_Md_feed_77 : decode b_Md_feed 77 = .ok (.aload_n 0, 1) := by decide +kernel
theorem d_Md_feed_78 : decode b_Md_feed 78 = .ok (.getfield 94, 3) := by decide +kernel
theorem d_Md_feed_81 : decode b_Md_feed 81 = .ok (.if_icmp .ge 24, 3) := by decide +kernel
theorem d_Md_feed_84 : decode b_Md_feed 84 = .ok (.aload_n 0, 1) := by decide +kernel
theorem d_Md_feed_85 : decode b_Md_feed 85 = .ok (.getfield 17, 3) := by decide +kernel
theorem d_Md_feed_88 : decode b_Md_feed 88 = .ok (.iload_n 1, 1) := by decide +kernel
theorem d_Md_feed_89 : decode b_Md_feed 89 = .ok (.aload_n 0, 1) := by decide +kernel
theorem d_Md_feed_90 : decode b_Md_feed 90 = .ok (.getfield 17, 3) := by decide +kernel
theorem d_Md_feed_93 : decode b_Md_feed 93 = .ok (.iload_n 1, 1) := by decide +kernel
theorem d_Md_feed_94 : decode b_Md_feed 94 = .ok (.bipush 12, 2) := by decide +kernel
theorem d_Md_feed_96 : decode b_Md_feed 96 = .ok (.iadd, 1) := by decide +kernel
theorem d_Md_feed_97 : decode b_Md_feed 97 = .ok (.saload, 1) := by decide +kernel
theorem d_Md_feed_98 : decode b_Md_feed 98 = .ok (.sastore, 1) := by decide +kernel
theorem d_Md_feed_99 : decode b_Md_feed 99 = .ok (.iinc 1 1, 3) := by decide +kernel
theorem d_Md_feed_102 : decode b_Md_feed 102 = .ok (.goto (-26), 3) := by decide +kernel
theorem d_Md_feed_105 : decode b_Md_feed 105 = .ok (.aload_n 0, 1) := by decide +kernel
theorem d_Md_feed_106 : decode b_Md_feed 106 = .ok (.aload_n 0, 1) := by decide +kernel
theorem d_Md_feed_107 : decode b_Md_feed 107 = .ok (.getfield 128, 3) := by decide +kernel
theorem d_Md_feed_110 : decode b_Md_feed 110 = .ok (.putfield 23, 3) := by decide +kernel
theorem d_Md_feed_113 : decode b_Md_feed 113 = .ok (.aload_n 0, 1) := by decide +kernel
theorem d_Md_feed_114 : decode b_Md_feed 114 = .ok (.iconst 0, 1) := by decide +kernel
theorem d_Md_feed_115 : decode b_Md_feed 115 = .ok (.putfield 175, 3) := by decide +kernel
theorem d_Md_feed_118 : decode b_Md_feed 118 = .ok (.return_, 1) := by decide +kernel
theorem d_Md_press_0 : decode b_Md_press 0 = .ok (.aload_n 0, 1) := by decide +kernel
theorem d_Md_press_1 : decode b_Md_press 1 = .ok (.getfield 178, 3) := by decide +kernel
theorem d_Md_press_4 : decode b_Md_press 4 = .ok (.bipush 60, 2) := by decide +kernel
theorem d_Md_press_6 : decode b_Md_press 6 = .ok (.if_icmp .eq 17, 3) := by decide +kernel
theorem d_Md_press_9 : decode b_Md_press 9 = .ok (.aload_n 0, 1) := by decide +kernel
theorem d_Md_press_10 : decode b_Md_press 10 = .ok (.getfield 128, 3) := by decide +kernel
theorem d_Md_press_13 : decode b_Md_press 13 = .ok (.aload_n 0, 1) := by decide +kernel
theorem d_Md_press_14 : decode b_Md_press 14 = .ok (.getfield 30, 3) := by decide +kernel
theorem d_Md_press_17 : decode b_Md_press 17 = .ok (.isub, 1) := by decide +kernel
theorem d_Md_press_18 : decode b_Md_press 18 = .ok (.bipush 6, 2) := by decide +kernel
theorem d_Md_press_20 : decode b_Md_press 20 = .ok (.if_icmp .ge 9, 3) := by decide +kernel
theorem d_Md_press_23 : decode b_Md_press 23 = .ok (.aload_n 0, 1) := by decide +kernel
theorem d_Md_press_24 : decode b_Md_press 24 = .ok (.iconst 3, 1) := by decide +kernel
theorem d_Md_press_25 : decode b_Md_press 25 = .ok (.invokevirtual 171, 3) := by decide +kernel
theorem d_Md_press_28 : decode b_Md_press 28 = .ok (.return_, 1) := by decide +kernel
theorem d_Md_press_29 : decode b_Md_press 29 = .ok (.aload_n 0, 1) := by decide +kernel
theorem d_Md_press_30 : decode b_Md_press 30 = .ok (.getfield 27, 3) := by decide +kernel
theorem d_Md_press_33 : decode b_Md_press 33 = .ok (.aload_n 0, 1) := by decide +kernel
theorem d_Md_press_34 : decode b_Md_press 34 = .ok (.getfield 178, 3) := by decide +kernel
theorem d_Md_press_37 : decode b_Md_press 37 = .ok (.iload_n 1, 1) := by decide +kernel
theorem d_Md_press_38 : decode b_Md_press 38 = .ok (.sastore, 1) := by decide +kernel
theorem d_Md_press_39 : decode b_Md_press 39 = .ok (.aload_n 0, 1) := by decide +kernel
theorem d_Md_press_40 : decode b_Md_press 40 = .ok (.dup, 1) := by decide +kernel
theorem d_Md_press_41 : decode b_Md_press 41 = .ok (.getfield 178, 3) := by decide +kernel
theorem d_Md_press_44 : decode b_Md_press 44 = .ok (.iconst 1, 1) := by decide +kernel
theorem d_Md_press_45 : decode b_Md_press 45 = .ok (.iadd, 1) := by decide +kernel
theorem d_Md_press_46 : decode b_Md_press 46 = .ok (.putfield 178, 3) := by decide +kernel
theorem d_Md_press_49 : decode b_Md_press 49 = .ok (.aload_n 0, 1) := by decide +kernel
theorem d_Md_press_50 : decode b_Md_press 50 = .ok (.aload_n 0, 1) := by decide +kernel
theorem d_Md_press_51 : decode b_Md_press 51 = .ok (.getfield 128, 3) := by decide +kernel
theorem d_Md_press_54 : decode b_Md_press 54 = .ok (.putfield 30, 3) := by decide +kernel
theorem d_Md_press_57 : decode b_Md_press 57 = .ok (.return_, 1) := by decide +kernel
theorem d_Md_current_0 : decode b_Md_current 0 = .ok (.aload_n 0, 1) := by decide +kernel
theorem d_Md_current_1 : decode b_Md_current 1 = .ok (.getfield 128, 3) := by decide +kernel
theorem d_Md_current_4 : decode b_Md_current 4 = .ok (.aload_n 0, 1) := by decide +kernel
theorem d_Md_current_5 : decode b_Md_current 5 = .ok (.getfield 116, 3) := by decide +kernel
theorem d_Md_current_8 : decode b_Md_current 8 = .ok (.if_icmp .lt 21, 3) := by decide +kernel
theorem d_Md_current_11 : decode b_Md_current 11 = .ok (.aload_n 0, 1) := by decide +kernel
theorem d_Md_current_12 : decode b_Md_current 12 = .ok (.getfield 128, 3) := by decide +kernel
theorem d_Md_current_15 : decode b_Md_current 15 = .ok (.aload_n 0, 1) := by decide +kernel
theorem d_Md_current_16 : decode b_Md_current 16 = .ok (.getfield 119, 3) := by decide +kernel
theorem d_Md_current_19 : decode b_Md_current 19 = .ok (.if_icmp .gt 10, 3) := by decide +kernel
theorem d_Md_current_22 : decode b_Md_current 22 = .ok (.aload_n 0, 1) := by decide +kernel
theorem d_Md_current_23 : decode b_Md_current 23 = .ok (.getfield 141, 3) := by decide +kernel
theorem d_Md_current_26 : decode b_Md_current 26 = .ok (.goto 33, 3) := by decide +kernel
theorem d_Md_current_29 : decode b_Md_current 29 = .ok (.aload_n 0, 1) := by decide +kernel
theorem d_Md_current_30 : decode b_Md_current 30 = .ok (.getfield 128, 3) := by decide +kernel
theorem d_Md_current_33 : decode b_Md_current 33 = .ok (.aload_n 0, 1) := by decide +kernel
theorem d_Md_current_34 : decode b_Md_current 34 = .ok (.getfield 122, 3) := by decide +kernel
theorem d_Md_current_37 : decode b_Md_current 37 = .ok (.if_icmp .lt 21, 3) := by decide +kernel
theorem d_Md_current_40 : decode b_Md_current 40 = .ok (.aload_n 0, 1) := by decide +kernel
theorem d_Md_current_41 : decode b_Md_current 41 = .ok (.getfield 128, 3) := by decide +kernel
theorem d_Md_current_44 : decode b_Md_current 44 = .ok (.aload_n 0, 1) := by decide +kernel
theorem d_Md_current_45 : decode b_Md_current 45 = .ok (.getfield 125, 3) := by decide +kernel
theorem d_Md_current_48 : decode b_Md_current 48 = .ok (.if_icmp .gt 10, 3) := by decide +kernel
theorem d_Md_current_51 : decode b_Md_current 51 = .ok (.aload_n 0, 1) := by decide +kernel
theorem d_Md_current_52 : decode b_Md_current 52 = .ok (.getfield 144, 3) := by decide +kernel
theorem d_Md_current_55 : decode b_Md_current 55 = .ok (.goto 4, 3) := by decide +kernel
theorem d_Md_current_58 : decode b_Md_current 58 = .ok (.iconst (-1), 1) := by decide +kernel
theorem d_Md_current_59 : decode b_Md_current 59 = .ok (.ireturn, 1) := by decide +kernel
theorem d_Md_cycle_0 : decode b_Md_cycle 0 = .ok (.aload_n 0, 1) := by decide +kernel
theorem d_Md_cycle_1 : decode b_Md_cycle 1 = .ok (.getfield 128, 3) := by decide +kernel
theorem d_Md_cycle_4 : decode b_Md_cycle 4 = .ok (.aload_n 0, 1) := by decide +kernel
theorem d_Md_cycle_5 : decode b_Md_cycle 5 = .ok (.getfield 131, 3) := by decide +kernel
theorem d_Md_cycle_8 : decode b_Md_cycle 8 = .ok (.if_icmp .ne 7, 3) := by decide +kernel
theorem d_Md_cycle_11 : decode b_Md_cycle 11 = .ok (.aload_n 0, 1) := by decide +kernel
theorem d_Md_cycle_12 : decode b_Md_cycle 12 = .ok (.invokevirtual 181, 3) := by decide +kernel
theorem d_Md_cycle_15 : decode b_Md_cycle 15 = .ok (.aload_n 0, 1) := by decide +kernel
theorem d_Md_cycle_16 : decode b_Md_cycle 16 = .ok (.invokevirtual 153, 3) := by decide +kernel
theorem d_Md_cycle_19 : decode b_Md_cycle 19 = .ok (.istore_n 1, 1) := by decide +kernel
theorem d_Md_cycle_20 : decode b_Md_cycle 20 = .ok (.aload_n 0, 1) := by decide +kernel
theorem d_Md_cycle_21 : decode b_Md_cycle 21 = .ok (.getfield 128, 3) := by decide +kernel
theorem d_Md_cycle_24 : decode b_Md_cycle 24 = .ok (.aload_n 0, 1) := by decide +kernel
theorem d_Md_cycle_25 : decode b_Md_cycle 25 = .ok (.getfield 23, 3) := by decide +kernel
theorem d_Md_cycle_28 : decode b_Md_cycle 28 = .ok (.isub, 1) := by decide +kernel
theorem d_Md_cycle_29 : decode b_Md_cycle 29 = .ok (.bipush 40, 2) := by decide +kernel
theorem d_Md_cycle_31 : decode b_Md_cycle 31 = .ok (.isub, 1) := by decide +kernel
theorem d_Md_cycle_32 : decode b_Md_cycle 32 = .ok (.istore_n 2, 1) := by decide +kernel
theorem d_Md_cycle_33 : decode b_Md_cycle 33 = .ok (.aload_n 0, 1) := by decide +kernel
theorem d_Md_cycle_34 : decode b_Md_cycle 34 = .ok (.aload_n 0, 1) := by decide +kernel
theorem d_Md_cycle_35 : decode b_Md_cycle 35 = .ok (.getfield 175, 3) := by decide +kernel
theorem d_Md_cycle_38 : decode b_Md_cycle 38 = .ok (.ifCond .eq 18, 3) := by decide +kernel
theorem d_Md_cycle_41 : decode b_Md_cycle 41 = .ok (.iload_n 1, 1) := by decide +kernel
theorem d_Md_cycle_42 : decode b_Md_cycle 42 = .ok (.ifCond .lt 10, 3) := by decide +kernel
theorem d_Md_cycle_45 : decode b_Md_cycle 45 = .ok (.iload_n 2, 1) := by decide +kernel
theorem d_Md_cycle_46 : decode b_Md_cycle 46 = .ok (.bipush 8, 2) := by decide +kernel
theorem d_Md_cycle_48 : decode b_Md_cycle 48 = .ok (.irem, 1) := by decide +kernel
theorem d_Md_cycle_49 : decode b_Md_cycle 49 = .ok (.ifCond .eq 7, 3) := by decide +kernel
theorem d_Md_cycle_52 : decode b_Md_cycle 52 = .ok (.iconst 1, 1) := by decide +kernel
theorem d_Md_cycle_53 : decode b_Md_cycle 53 = .ok (.goto 4, 3) := by decide +kernel
theorem d_Md_cycle_56 : decode b_Md_cycle 56 = .ok (.iconst 0, 1) := by decide +kernel
theorem d_Md_cycle_57 : decode b_Md_cycle 57 = .ok (.putfield 175, 3) := by decide +kernel
theorem d_Md_cycle_60 : decode b_Md_cycle 60 = .ok (.aload_n 0, 1) := by decide +kernel
theorem d_Md_cycle_61 : decode b_Md_cycle 61 = .ok (.getfield 128, 3) := by decide +kernel
theorem d_Md_cycle_64 : decode b_Md_cycle 64 = .ok (.aload_n 0, 1) := by decide +kernel
theorem d_Md_cycle_65 : decode b_Md_cycle 65 = .ok (.getfield 116, 3) := by decide +kernel
theorem d_Md_cycle_68 : decode b_Md_cycle 68 = .ok (.if_icmp .lt 18, 3) := by decide +kernel
theorem d_Md_cycle_71 : decode b_Md_cycle 71 = .ok (.aload_n 0, 1) := by decide +kernel
theorem d_Md_cycle_72 : decode b_Md_cycle 72 = .ok (.getfield 128, 3) := by decide +kernel
theorem d_Md_cycle_75 : decode b_Md_cycle 75 = .ok (.aload_n 0, 1) := by decide +kernel
theorem d_Md_cycle_76 : decode b_Md_cycle 76 = .ok (.getfield 119, 3) := by decide +kernel
theorem d_Md_cycle_79 : decode b_Md_cycle 79 = .ok (.if_icmp .gt 7, 3) := by decide +kernel
theorem d_Md_cycle_82 : decode b_Md_cycle 82 = .ok (.iconst 1, 1) := by decide +kernel
theorem d_Md_cycle_83 : decode b_Md_cycle 83 = .ok (.goto 4, 3) := by decide +kernel
theorem d_Md_cycle_86 : decode b_Md_cycle 86 = .ok (.iconst 0, 1) := by decide +kernel
theorem d_Md_cycle_87 : decode b_Md_cycle 87 = .ok (.istore_n 3, 1) := by decide +kernel
theorem d_Md_cycle_88 : decode b_Md_cycle 88 = .ok (.aload_n 0, 1) := by decide +kernel
theorem d_Md_cycle_89 : decode b_Md_cycle 89 = .ok (.invokevirtual 184, 3) := by decide +kernel
theorem d_Md_cycle_92 : decode b_Md_cycle 92 = .ok (.istore 4, 2) := by decide +kernel
theorem d_Md_cycle_94 : decode b_Md_cycle 94 = .ok (.iload 4, 2) := by decide +kernel
theorem d_Md_cycle_96 : decode b_Md_cycle 96 = .ok (.ifCond .lt 85, 3) := by decide +kernel
theorem d_Md_cycle_99 : decode b_Md_cycle 99 = .ok (.aload_n 0, 1) := by decide +kernel
theorem d_Md_cycle_100 : decode b_Md_cycle 100 = .ok (.iload 4, 2) := by decide +kernel
theorem d_Md_cycle_102 : decode b_Md_cycle 102 = .ok (.bipush 15, 2) := by decide +kernel
theorem d_Md_cycle_104 : decode b_Md_cycle 104 = .ok (.iand, 1) := by decide +kernel
theorem d_Md_cycle_105 : decode b_Md_cycle 105 = .ok (.invokevirtual 187, 3) := by decide +kernel
theorem d_Md_cycle_108 : decode b_Md_cycle 108 = .ok (.istore 5, 2) := by decide +kernel
theorem d_Md_cycle_110 : decode b_Md_cycle 110 = .ok (.aload_n 0, 1) := by decide +kernel
theorem d_Md_cycle_111 : decode b_Md_cycle 111 = .ok (.aload_n 0, 1) := by decide +kernel
theorem d_Md_cycle_112 : decode b_Md_cycle 112 = .ok (.getfield 175, 3) := by decide +kernel
theorem d_Md_cycle_115 : decode b_Md_cycle 115 = .ok (.ifCond .ne 17, 3) := by decide +kernel
theorem d_Md_cycle_118 : decode b_Md_cycle 118 = .ok (.iload_n 1, 1) := by decide +kernel
theorem d_Md_cycle_119 : decode b_Md_cycle 119 = .ok (.ifCond .lt 17, 3) := by decide +kernel
theorem d_Md_cycle_122 : decode b_Md_cycle 122 = .ok (.iload 4, 2) := by decide +kernel
theorem d_Md_cycle_124 : decode b_Md_cycle 124 = .ok (.bipush 15, 2) := by decide +kernel
theorem d_Md_cycle_126 : decode b_Md_cycle 126 = .ok (.iand, 1) := by decide +kernel
theorem d_Md_cycle_127 : decode b_Md_cycle 127 = .ok (.bipush 13, 2) := by decide +kernel
theorem d_Md_cycle_129 : decode b_Md_cycle 129 = .ok (.if_icmp .ne 7, 3) := by decide +kernel
theorem d_Md_cycle_132 : decode b_Md_cycle 132 = .ok (.iconst 1, 1) := by decide +kernel
theorem d_Md_cycle_133 : decode b_Md_cycle 133 = .ok (.goto 4, 3) := by decide +kernel
theorem d_Md_cycle_136 : decode b_Md_cycle 136 = .ok (.iconst 0, 1) := by decide +kernel
theorem d_Md_cycle_137 : decode b_Md_cycle 137 = .ok (.putfield 175, 3) := by decide +kernel
theorem d_Md_cycle_140 : decode b_Md_cycle 140 = .ok (.iload_n 3, 1) := by decide +kernel
theorem d_Md_cycle_141 : decode b_Md_cycle 141 = .ok (.ifCond .ne 27, 3) := by decide +kernel
theorem d_Md_cycle_144 : decode b_Md_cycle 144 = .ok (.iload 4, 2) := by decide +kernel
theorem d_Md_cycle_146 : decode b_Md_cycle 146 = .ok (.iconst 4, 1) := by decide +kernel
theorem d_Md_cycle_147 : decode b_Md_cycle 147 = .ok (.ishr, 1) := by decide +kernel
theorem d_Md_cycle_148 : decode b_Md_cycle 148 = .ok (.bipush 15, 2) := by decide +kernel
theorem d_Md_cycle_150 : decode b_Md_cycle 150 = .ok (.iand, 1) := by decide +kernel
theorem d_Md_cycle_151 : decode b_Md_cycle 151 = .ok (.bipush 11, 2) := by decide +kernel
theorem d_Md_cycle_153 : decode b_Md_cycle 153 = .ok (.if_icmp .eq 28, 3) := by decide +kernel
theorem d_Md_cycle_156 : decode b_Md_cycle 156 = .ok (.iload 4, 2) := by decide +kernel
theorem d_Md_cycle_158 : decode b_Md_cycle 158 = .ok (.iconst 4, 1) := by decide +kernel
theorem d_Md_cycle_159 : decode b_Md_cycle 159 = .ok (.ishr, 1) := by decide +kernel
theorem d_Md_cycle_160 : decode b_Md_cycle 160 = .ok (.bipush 15, 2) := by decide +kernel
theorem d_Md_cycle_162 : decode b_Md_cycle 162 = .ok (.iand, 1) := by decide +kernel
theorem d_Md_cycle_163 : decode b_Md_cycle 163 = .ok (.bipush 12, 2) := by decide +kernel
theorem d_Md_cycle_165 : decode b_Md_cycle 165 = .ok (.if_icmp .eq 16, 3) := by decide +kernel
theorem d_Md_cycle_168 : decode b_Md_cycle 168 = .ok (.aload_n 0, 1) := by decide +kernel
theorem d_Md_cycle_169 : decode b_Md_cycle 169 = .ok (.iload 4, 2) := by decide +kernel
theorem d_Md_cycle_171 : decode b_Md_cycle 171 = .ok (.iconst 4, 1) := by decide +kernel
theorem d_Md_cycle_172 : decode b_Md_cycle 172 = .ok (.ishr, 1) := by decide +kernel
theorem d_Md_cycle_173 : decode b_Md_cycle 173 = .ok (.bipush 15, 2) := by decide +kernel
theorem d_Md_cycle_175 : decode b_Md_cycle 175 = .ok (.iand, 1) := by decide +kernel
theorem d_Md_cycle_176 : decode b_Md_cycle 176 = .ok (.iload 5, 2) := by decide +kernel
theorem d_Md_cycle_178 : decode b_Md_cycle 178 = .ok (.invokevirtual 191, 3) := by decide +kernel
theorem d_Md_cycle_181 : decode b_Md_cycle 181 = .ok (.aload_n 0, 1) := by decide +kernel
theorem d_Md_cycle_182 : decode b_Md_cycle 182 = .ok (.invokevirtual 195, 3) := by decide +kernel
theorem d_Md_cycle_185 : decode b_Md_cycle 185 = .ok (.iload_n 1, 1) := by decide +kernel
theorem d_Md_cycle_186 : decode b_Md_cycle 186 = .ok (.ifCond .lt 23, 3) := by decide +kernel
theorem d_Md_cycle_189 : decode b_Md_cycle 189 = .ok (.iload_n 2, 1) := by decide +kernel
theorem d_Md_cycle_190 : decode b_Md_cycle 190 = .ok (.bipush 8, 2) := by decide +kernel
theorem d_Md_cycle_192 : decode b_Md_cycle 192 = .ok (.irem, 1) := by decide +kernel
theorem d_Md_cycle_193 : decode b_Md_cycle 193 = .ok (.iconst 2, 1) := by decide +kernel
theorem d_Md_cycle_194 : decode b_Md_cycle 194 = .ok (.if_icmp .ne 15, 3) := by decide +kernel
theorem d_Md_cycle_197 : decode b_Md_cycle 197 = .ok (.aload_n 0, 1) := by decide +kernel
theorem d_Md_cycle_198 : decode b_Md_cycle 198 = .ok (.getfield 175, 3) := by decide +kernel
theorem d_Md_cycle_201 : decode b_Md_cycle 201 = .ok (.ifCond .ne 8, 3) := by decide +kernel
theorem d_Md_cycle_204 : decode b_Md_cycle 204 = .ok (.aload_n 0, 1) := by decide +kernel
theorem d_Md_cycle_205 : decode b_Md_cycle 205 = .ok (.iconst 1, 1) := by decide +kernel
theorem d_Md_cycle_206 : decode b_Md_cycle 206 = .ok (.invokevirtual 171, 3) := by decide +kernel
theorem d_Md_cycle_209 : decode b_Md_cycle 209 = .ok (.aload_n 0, 1) := by decide +kernel
theorem d_Md_cycle_210 : decode b_Md_cycle 210 = .ok (.dup, 1) := by decide +kernel
theorem d_Md_cycle_211 : decode b_Md_cycle 211 = .ok (.getfield 128, 3) := by decide +kernel
theorem d_Md_cycle_214 : decode b_Md_cycle 214 = .ok (.iconst 1, 1) := by decide +kernel
theorem d_Md_cycle_215 : decode b_Md_cycle 215 = .ok (.iadd, 1) := by decide +kernel
theorem d_Md_cycle_216 : decode b_Md_cycle 216 = .ok (.putfield 128, 3) := by decide +kernel
theorem d_Md_cycle_219 : decode b_Md_cycle 219 = .ok (.return_, 1) := by decide +kernel
theorem d_Md_multiply_0 : decode b_Md_multiply 0 = .ok (.aload_n 0, 1) := by decide +kernel
theorem d_Md_multiply_1 : decode b_Md_multiply 1 = .ok (.getfield 104, 3) := by decide +kernel
theorem d_Md_multiply_4 : decode b_Md_multiply 4 = .ok (.ifCond .ne 4, 3) := by decide +kernel
theorem d_Md_multiply_7 : decode b_Md_multiply 7 = .ok (.return_, 1) := by decide +kernel
theorem d_Md_multiply_8 : decode b_Md_multiply 8 = .ok (.aload_n 0, 1) := by decide +kernel
theorem d_Md_multiply_9 : decode b_Md_multiply 9 = .ok (.dup, 1) := by decide +kernel
theorem d_Md_multiply_10 : decode b_Md_multiply 10 = .ok (.getfield 104, 3) := by decide +kernel
theorem d_Md_multiply_13 : decode b_Md_multiply 13 = .ok (.iconst 1, 1) := by decide +kernel
theorem d_Md_multiply_14 : decode b_Md_multiply 14 = .ok (.isub, 1) := by decide +kernel
theorem d_Md_multiply_15 : decode b_Md_multiply 15 = .ok (.putfield 104, 3) := by decide +kernel
theorem d_Md_multiply_18 : decode b_Md_multiply 18 = .ok (.aload_n 0, 1) := by decide +kernel
theorem d_Md_multiply_19 : decode b_Md_multiply 19 = .ok (.getfield 104, 3) := by decide +kernel
theorem d_Md_multiply_22 : decode b_Md_multiply 22 = .ok (.bipush 16, 2) := by decide +kernel
theorem d_Md_multiply_24 : decode b_Md_multiply 24 = .ok (.if_icmp .ne 4, 3) := by decide +kernel
theorem d_Md_multiply_27 : decode b_Md_multiply 27 = .ok (.return_, 1) := by decide +kernel
theorem d_Md_multiply_28 : decode b_Md_multiply 28 = .ok (.aload_n 0, 1) := by decide +kernel
theorem d_Md_multiply_29 : decode b_Md_multiply 29 = .ok (.getfield 13, 3) := by decide +kernel
theorem d_Md_multiply_32 : decode b_Md_multiply 32 = .ok (.sipush 131, 3) := by decide +kernel
theorem d_Md_multiply_35 : decode b_Md_multiply 35 = .ok (.saload, 1) := by decide +kernel
theorem d_Md_multiply_36 : decode b_Md_multiply 36 = .ok (.bipush 16, 2) := by decide +kernel
theorem d_Md_multiply_38 : decode b_Md_multiply 38 = .ok (.ishl, 1) := by decide +kernel
theorem d_Md_multiply_39 : decode b_Md_multiply 39 = .ok (.aload_n 0, 1) := by decide +kernel
theorem d_Md_multiply_40 : decode b_Md_multiply 40 = .ok (.getfield 13, 3) := by decide +kernel
theorem d_Md_multiply_43 : decode b_Md_multiply 43 = .ok (.sipush 130, 3) := by decide +kernel
theorem d_Md_multiply_46 : decode b_Md_multiply 46 = .ok (.saload, 1) := by decide +kernel
theorem d_Md_multiply_47 : decode b_Md_multiply 47 = .ok (.ldc 198, 2) := by decide +kernel
theorem d_Md_multiply_49 : decode b_Md_multiply 49 = .ok (.iand, 1) := by decide +kernel
theorem d_Md_multiply_50 : decode b_Md_multiply 50 = .ok (.ior, 1) := by decide +kernel
theorem d_Md_multiply_51 : decode b_Md_multiply 51 = .ok (.istore_n 1, 1) := by decide +kernel
theorem d_Md_multiply_52 : decode b_Md_multiply 52 = .ok (.iconst 2, 1) := by decide +kernel
theorem d_Md_multiply_53 : decode b_Md_multiply 53 = .ok (.iload_n 1, 1) := by decide +kernel
theorem d_Md_multiply_54 : decode b_Md_multiply 54 = .ok (.imul, 1) := by decide +kernel
theorem d_Md_multiply_55 : decode b_Md_multiply 55 = .ok (.aload_n 0, 1) := by decide +kernel
theorem d_Md_multiply_56 : decode b_Md_multiply 56 = .ok (.getfield 161, 3) := by decide +kernel
theorem d_Md_multiply_59 : decode b_Md_multiply 59 = .ok (.ifCond .ge 14, 3) := by decide +kernel
theorem d_Md_multiply_62 : decode b_Md_multiply 62 = .ok (.aload_n 0, 1) := by decide +kernel
theorem d_Md_multiply_63 : decode b_Md_multiply 63 = .ok (.getfield 13, 3) := by decide +kernel
theorem d_Md_multiply_66 : decode b_Md_multiply 66 = .ok (.sipush 129, 3) := by decide +kernel
theorem d_Md_multiply_69 : decode b_Md_multiply 69 = .ok (.saload, 1) := by decide +kernel
theorem d_Md_multiply_70 : decode b_Md_multiply 70 = .ok (.goto 4, 3) := by decide +kernel
theorem d_Md_multiply_73 : decode b_Md_multiply 73 = .ok (.iconst 0, 1) := by decide +kernel
theorem d_Md_multiply_74 : decode b_Md_multiply 74 = .ok (.iadd, 1) := by decide +kernel
theorem d_Md_multiply_75 : decode b_Md_multiply 75 = .ok (.istore_n 1, 1) := by decide +kernel
theorem d_Md_multiply_76 : decode b_Md_multiply 76 = .ok (.aload_n 0, 1) := by decide +kernel
theorem d_Md_multiply_77 : decode b_Md_multiply 77 = .ok (.getfield 13, 3) := by decide +kernel
theorem d_Md_multiply_80 : decode b_Md_multiply 80 = .ok (.sipush 130, 3) := by decide +kernel
theorem d_Md_multiply_83 : decode b_Md_multiply 83 = .ok (.iload_n 1, 1) := by decide +kernel
theorem d_Md_multiply_84 : decode b_Md_multiply 84 = .ok (.i2s, 1) := by decide +kernel
theorem d_Md_multiply_85 : decode b_Md_multiply 85 = .ok (.sastore, 1) := by decide +kernel
theorem d_Md_multiply_86 : decode b_Md_multiply 86 = .ok (.aload_n 0, 1) := by decide +kernel
theorem d_Md_multiply_87 : decode b_Md_multiply 87 = .ok (.getfield 13, 3) := by decide +kernel
theorem d_Md_multiply_90 : decode b_Md_multiply 90 = .ok (.sipush 131, 3) := by decide +kernel
theorem d_Md_multiply_93 : decode b_Md_multiply 93 = .ok (.iload_n 1, 1) := by decide +kernel
theorem d_Md_multiply_94 : decode b_Md_multiply 94 = .ok (.bipush 16, 2) := by decide +kernel
theorem d_Md_multiply_96 : decode b_Md_multiply 96 = .ok (.ishr, 1) := by decide +kernel
theorem d_Md_multiply_97 : decode b_Md_multiply 97 = .ok (.i2s, 1) := by decide +kernel
theorem d_Md_multiply_98 : decode b_Md_multiply 98 = .ok (.sastore, 1) := by decide +kernel
theorem d_Md_multiply_99 : decode b_Md_multiply 99 = .ok (.aload_n 0, 1) := by decide +kernel
theorem d_Md_multiply_100 : decode b_Md_multiply 100 = .ok (.aload_n 0, 1) := by decide +kernel
theorem d_Md_multiply_101 : decode b_Md_multiply 101 = .ok (.getfield 161, 3) := by decide +kernel
theorem d_Md_multiply_104 : decode b_Md_multiply 104 = .ok (.iconst 1, 1) := by decide +kernel
theorem d_Md_multiply_105 : decode b_Md_multiply 105 = .ok (.ishl, 1) := by decide +kernel
theorem d_Md_multiply_106 : decode b_Md_multiply 106 = .ok (.i2s, 1) := by decide +kernel
theorem d_Md_multiply_107 : decode b_Md_multiply 107 = .ok (.putfield 161, 3) := by decide +kernel
theorem d_Md_multiply_110 : decode b_Md_multiply 110 = .ok (.return_, 1) := by decide +kernel
theorem d_Md_run_0 : decode b_Md_run 0 = .ok (.iload_n 1, 1) := by decide +kernel
theorem d_Md_run_1 : decode b_Md_run 1 = .ok (.ifCond .lt 10, 3) := by decide +kernel
theorem d_Md_run_4 : decode b_Md_run 4 = .ok (.iload_n 1, 1) := by decide +kernel
theorem d_Md_run_5 : decode b_Md_run 5 = .ok (.sipush 2000, 3) := by decide +kernel
theorem d_Md_run_8 : decode b_Md_run 8 = .ok (.if_icmp .le 5, 3) := by decide +kernel
theorem d_Md_run_11 : decode b_Md_run 11 = .ok (.iconst (-1), 1) := by decide +kernel
theorem d_Md_run_12 : decode b_Md_run 12 = .ok (.ireturn, 1) := by decide +kernel
theorem d_Md_run_13 : decode b_Md_run 13 = .ok (.iconst 0, 1) := by decide +kernel
theorem d_Md_run_14 : decode b_Md_run 14 = .ok (.istore_n 2, 1) := by decide +kernel
theorem d_Md_run_15 : decode b_Md_run 15 = .ok (.iload_n 2, 1) := by decide +kernel
theorem d_Md_run_16 : decode b_Md_run 16 = .ok (.iload_n 1, 1) := by decide +kernel
theorem d_Md_run_17 : decode b_Md_run 17 = .ok (.if_icmp .ge 20, 3) := by decide +kernel
theorem d_Md_run_20 : decode b_Md_run 20 = .ok (.aload_n 0, 1) := by decide +kernel
theorem d_Md_run_21 : decode b_Md_run 21 = .ok (.getfield 97, 3) := by decide +kernel
theorem d_Md_run_24 : decode b_Md_run 24 = .ok (.ifCond .eq 13, 3) := by decide +kernel
theorem d_Md_run_27 : decode b_Md_run 27 = .ok (.aload_n 0, 1) := by decide +kernel
theorem d_Md_run_28 : decode b_Md_run 28 = .ok (.invokevirtual 199, 3) := by decide +kernel
theorem d_Md_run_31 : decode b_Md_run 31 = .ok (.iinc 2 1, 3) := by decide +kernel
theorem d_Md_run_34 : decode b_Md_run 34 = .ok (.goto (-19), 3) := by decide +kernel
theorem d_Md_run_37 : decode b_Md_run 37 = .ok (.iload_n 2, 1) := by decide +kernel
theorem d_Md_run_38 : decode b_Md_run 38 = .ok (.ireturn, 1) := by decide +kernel
theorem d_Md_look_0 : decode b_Md_look 0 = .ok (.iload_n 1, 1) := by decide +kernel
theorem d_Md_look_1 : decode b_Md_look 1 = .ok (.tableswitch 126 0 8 #[51, 64, 69, 74, 90, 106, 111, 116, 121], 51) := by decide +kernel
theorem d_Md_look_52 : decode b_Md_look 52 = .ok (.aload_n 0, 1) := by decide +kernel
theorem d_Md_look_53 : decode b_Md_look 53 = .ok (.getfield 97, 3) := by decide +kernel
theorem d_Md_look_56 : decode b_Md_look 56 = .ok (.ifCond .eq 7, 3) := by decide +kernel
theorem d_Md_look_59 : decode b_Md_look 59 = .ok (.iconst 1, 1) := by decide +kernel
theorem d_Md_look_60 : decode b_Md_look 60 = .ok (.goto 4, 3) := by decide +kernel
theorem d_Md_look_63 : decode b_Md_look 63 = .ok (.iconst 0, 1) := by decide +kernel
theorem d_Md_look_64 : decode b_Md_look 64 = .ok (.ireturn, 1) := by decide +kernel
theorem d_Md_look_65 : decode b_Md_look 65 = .ok (.aload_n 0, 1) := by decide +kernel
theorem d_Md_look_66 : decode b_Md_look 66 = .ok (.getfield 101, 3) := by decide +kernel
theorem d_Md_look_69 : decode b_Md_look 69 = .ok (.ireturn, 1) := by decide +kernel
theorem d_Md_look_70 : decode b_Md_look 70 = .ok (.aload_n 0, 1) := by decide +kernel
theorem d_Md_look_71 : decode b_Md_look 71 = .ok (.getfield 128, 3) := by decide +kernel
theorem d_Md_look_74 : decode b_Md_look 74 = .ok (.ireturn, 1) := by decide +kernel
theorem d_Md_look_75 : decode b_Md_look 75 = .ok (.aload_n 0, 1) := by decide +kernel
theorem d_Md_look_76 : decode b_Md_look 76 = .ok (.getfield 107, 3) := by decide +kernel
theorem d_Md_look_79 : decode b_Md_look 79 = .ok (.ifCond .ne 7, 3) := by decide +kernel
theorem d_Md_look_82 : decode b_Md_look 82 = .ok (.iconst (-1), 1) := by decide +kernel
theorem d_Md_look_83 : decode b_Md_look 83 = .ok (.goto 7, 3) := by decide +kernel
theorem d_Md_look_86 : decode b_Md_look 86 = .ok (.aload_n 0, 1) := by decide +kernel
theorem d_Md_look_87 : decode b_Md_look 87 = .ok (.getfield 110, 3) := by decide +kernel
theorem d_Md_look_90 : decode b_Md_look 90 = .ok (.ireturn, 1) := by decide +kernel
theorem d_Md_look_91 : decode b_Md_look 91 = .ok (.aload_n 0, 1) := by decide +kernel
theorem d_Md_look_92 : decode b_Md_look 92 = .ok (.getfield 107, 3) := by decide +kernel
theorem d_Md_look_95 : decode b_Md_look 95 = .ok (.ifCond .ne 7, 3) := by decide +kernel
theorem d_Md_look_98 : decode b_Md_look 98 = .ok (.iconst (-1), 1) := by decide +kernel
theorem d_Md_look_99 : decode b_Md_look 99 = .ok (.goto 7, 3) := by decide +kernel
theorem d_Md_look_102 : decode b_Md_look 102 = .ok (.aload_n 0, 1) := by decide +kernel
theorem d_Md_look_103 : decode b_Md_look 103 = .ok (.getfield 113, 3) := by decide +kernel
theorem d_Md_look_106 : decode b_Md_look 106 = .ok (.ireturn, 1) := by decide +kernel
theorem d_Md_look_107 : decode b_Md_look 107 = .ok (.aload_n 0, 1) := by decide +kernel
theorem d_Md_look_108 : decode b_Md_look 108 = .ok (.getfield 107, 3) := by decide +kernel
theorem d_Md_look_111 : decode b_Md_look 111 = .ok (.ireturn, 1) := by decide +kernel
theorem d_Md_look_112 : decode b_Md_look 112 = .ok (.aload_n 0, 1) := by decide +kernel
theorem d_Md_look_113 : decode b_Md_look 113 = .ok (.getfield 94, 3) := by decide +kernel
theorem d_Md_look_116 : decode b_Md_look 116 = .ok (.ireturn, 1) := by decide +kernel
theorem d_Md_look_117 : decode b_Md_look 117 = .ok (.aload_n 0, 1) := by decide +kernel
theorem d_Md_look_118 : decode b_Md_look 118 = .ok (.getfield 178, 3) := by decide +kernel
theorem d_Md_look_121 : decode b_Md_look 121 = .ok (.ireturn, 1) := by decide +kernel
theorem d_Md_look_122 : decode b_Md_look 122 = .ok (.aload_n 0, 1) := by decide +kernel
theorem d_Md_look_123 : decode b_Md_look 123 = .ok (.getfield 104, 3) := by decide +kernel
theorem d_Md_look_126 : decode b_Md_look 126 = .ok (.ireturn, 1) := by decide +kernel
theorem d_Md_look_127 : decode b_Md_look 127 = .ok (.iconst (-1), 1) := by decide +kernel
theorem d_Md_look_128 : decode b_Md_look 128 = .ok (.ireturn, 1) := by decide +kernel
theorem d_Md_peek_0 : decode b_Md_peek 0 = .ok (.iload_n 1, 1) := by decide +kernel
theorem d_Md_peek_1 : decode b_Md_peek 1 = .ok (.iload_n 2, 1) := by decide +kernel
theorem d_Md_peek_2 : decode b_Md_peek 2 = .ok (.invokestatic 87, 3) := by decide +kernel
theorem d_Md_peek_5 : decode b_Md_peek 5 = .ok (.istore_n 3, 1) := by decide +kernel
theorem d_Md_peek_6 : decode b_Md_peek 6 = .ok (.iload_n 3, 1) := by decide +kernel
theorem d_Md_peek_7 : decode b_Md_peek 7 = .ok (.ifCond .ge 7, 3) := by decide +kernel
theorem d_Md_peek_10 : decode b_Md_peek 10 = .ok (.iconst 0, 1) := by decide +kernel
theorem d_Md_peek_11 : decode b_Md_peek 11 = .ok (.goto 9, 3) := by decide +kernel
theorem d_Md_peek_14 : decode b_Md_peek 14 = .ok (.aload_n 0, 1) := by decide +kernel
theorem d_Md_peek_15 : decode b_Md_peek 15 = .ok (.getfield 13, 3) := by decide +kernel
theorem d_Md_peek_18 : decode b_Md_peek 18 = .ok (.iload_n 3, 1) := by decide +kernel
theorem d_Md_peek_19 : decode b_Md_peek 19 = .ok (.saload, 1) := by decide +kernel
theorem d_Md_peek_20 : decode b_Md_peek 20 = .ok (.ireturn, 1) := by decide +kernel
theorem d_Md_read_II_0 : decode b_Md_read_II 0 = .ok (.iload_n 1, 1) := by decide +kernel
theorem d_Md_read_II_1 : decode b_Md_read_II 1 = .ok (.iload_n 2, 1) := by decide +kernel
theorem d_Md_read_II_2 : decode b_Md_read_II 2 = .ok (.invokestatic 82, 3) := by decide +kernel
theorem d_Md_read_II_5 : decode b_Md_read_II 5 = .ok (.ifCond .eq 17, 3) := by decide +kernel
theorem d_Md_read_II_8 : decode b_Md_read_II 8 = .ok (.aload_n 0, 1) := by decide +kernel
theorem d_Md_read_II_9 : decode b_Md_read_II 9 = .ok (.getfield 7, 3) := by decide +kernel
theorem d_Md_read_II_12 : decode b_Md_read_II 12 = .ok (.bipush 32, 2) := by decide +kernel
theorem d_Md_read_II_14 : decode b_Md_read_II 14 = .ok (.iload_n 1, 1) := by decide +kernel
theorem d_Md_read_II_15 : decode b_Md_read_II 15 = .ok (.imul, 1) := by decide +kernel
theorem d_Md_read_II_16 : decode b_Md_read_II 16 = .ok (.iload_n 2, 1) := by decide +kernel
theorem d_Md_read_II_17 : decode b_Md_read_II 17 = .ok (.iadd, 1) := by decide +kernel
theorem d_Md_read_II_18 : decode b_Md_read_II 18 = .ok (.iaload, 1) := by decide +kernel
theorem d_Md_read_II_19 : decode b_Md_read_II 19 = .ok (.goto 4, 3) := by decide +kernel
theorem d_Md_read_II_22 : decode b_Md_read_II 22 = .ok (.iconst (-1), 1) := by decide +kernel
theorem d_Md_read_II_23 : decode b_Md_read_II 23 = .ok (.ireturn, 1) := by decide +kernel
theorem d_Md_punched_0 : decode b_Md_punched 0 = .ok (.iload_n 1, 1) := by decide +kernel
theorem d_Md_punched_1 : decode b_Md_punched 1 = .ok (.ifCond .lt 11, 3) := by decide +kernel
theorem d_Md_punched_4 : decode b_Md_punched 4 = .ok (.iload_n 1, 1) := by decide +kernel
theorem d_Md_punched_5 : decode b_Md_punched 5 = .ok (.aload_n 0, 1) := by decide +kernel
theorem d_Md_punched_6 : decode b_Md_punched 6 = .ok (.getfield 178, 3) := by decide +kernel
theorem d_Md_punched_9 : decode b_Md_punched 9 = .ok (.if_icmp .lt 7, 3) := by decide +kernel
theorem d_Md_punched_12 : decode b_Md_punched 12 = .ok (.iconst 0, 1) := by decide +kernel
theorem d_Md_punched_13 : decode b_Md_punched 13 = .ok (.goto 9, 3) := by decide +kernel
theorem d_Md_punched_16 : decode b_Md_punched 16 = .ok (.aload_n 0, 1) := by decide +kernel
theorem d_Md_punched_17 : decode b_Md_punched 17 = .ok (.getfield 27, 3) := by decide +kernel
theorem d_Md_punched_20 : decode b_Md_punched 20 = .ok (.iload_n 1, 1) := by decide +kernel
theorem d_Md_punched_21 : decode b_Md_punched 21 = .ok (.saload, 1) := by decide +kernel
theorem d_Md_punched_22 : decode b_Md_punched 22 = .ok (.ireturn, 1) := by decide +kernel
theorem d_Md_isVariable_0 : decode b_Md_isVariable 0 = .ok (.iload_n 0, 1) := by decide +kernel
theorem d_Md_isVariable_1 : decode b_Md_isVariable 1 = .ok (.ifCond .lt 13, 3) := by decide +kernel
theorem d_Md_isVariable_4 : decode b_Md_isVariable 4 = .ok (.iload_n 0, 1) := by decide +kernel
theorem d_Md_isVariable_5 : decode b_Md_isVariable 5 = .ok (.bipush 16, 2) := by decide +kernel
theorem d_Md_isVariable_7 : decode b_Md_isVariable 7 = .ok (.if_icmp .ge 7, 3) := by decide +kernel
theorem d_Md_isVariable_10 : decode b_Md_isVariable 10 = .ok (.iconst 1, 1) := by decide +kernel
theorem d_Md_isVariable_11 : decode b_Md_isVariable 11 = .ok (.goto 4, 3) := by decide +kernel
theorem d_Md_isVariable_14 : decode b_Md_isVariable 14 = .ok (.iconst 0, 1) := by decide +kernel
theorem d_Md_isVariable_15 : decode b_Md_isVariable 15 = .ok (.ireturn, 1) := by decide +kernel
theorem d_Md_statement_0 : decode b_Md_statement 0 = .ok (.iload_n 1, 1) := by decide +kernel
theorem d_Md_statement_1 : decode b_Md_statement 1 = .ok (.ifCond .lt 52, 3) := by decide +kernel
theorem d_Md_statement_4 : decode b_Md_statement 4 = .ok (.iload_n 1, 1) := by decide +kernel
theorem d_Md_statement_5 : decode b_Md_statement 5 = .ok (.bipush 6, 2) := by decide +kernel
theorem d_Md_statement_7 : decode b_Md_statement 7 = .ok (.if_icmp .gt 46, 3) := by decide +kernel
theorem d_Md_statement_10 : decode b_Md_statement 10 = .ok (.iload_n 2, 1) := by decide +kernel
theorem d_Md_statement_11 : decode b_Md_statement 11 = .ok (.invokestatic 202, 3) := by decide +kernel
theorem d_Md_statement_14 : decode b_Md_statement 14 = .ok (.ifCond .eq 39, 3) := by decide +kernel
theorem d_Md_statement_17 : decode b_Md_statement 17 = .ok (.iload_n 3, 1) := by decide +kernel
theorem d_Md_statement_18 : decode b_Md_statement 18 = .ok (.invokestatic 202, 3) := by decide +kernel
theorem d_Md_statement_21 : decode b_Md_statement 21 = .ok (.ifCond .eq 32, 3) := by decide +kernel
theorem d_Md_statement_24 : decode b_Md_statement 24 = .ok (.iload 4, 2) := by decide +kernel
theorem d_Md_statement_26 : decode b_Md_statement 26 = .ok (.invokestatic 202, 3) := by decide +kernel
theorem d_Md_statement_29 : decode b_Md_statement 29 = .ok (.ifCond .eq 24, 3) := by decide +kernel
theorem d_Md_statement_32 : decode b_Md_statement 32 = .ok (.iload_n 1, 1) := by decide +kernel
theorem d_Md_statement_33 : decode b_Md_statement 33 = .ok (.iconst 4, 1) := by decide +kernel
theorem d_Md_statement_34 : decode b_Md_statement 34 = .ok (.if_icmp .ne 15, 3) := by decide +kernel
theorem d_Md_statement_37 : decode b_Md_statement 37 = .ok (.iload 5, 2) := by decide +kernel
theorem d_Md_statement_39 : decode b_Md_statement 39 = .ok (.ifCond .lt 14, 3) := by decide +kernel
theorem d_Md_statement_42 : decode b_Md_statement 42 = .ok (.iload 5, 2) := by decide +kernel
theorem d_Md_statement_44 : decode b_Md_statement 44 = .ok (.bipush 11, 2) := by decide +kernel
theorem d_Md_statement_46 : decode b_Md_statement 46 = .ok (.if_icmp .gt 7, 3) := by decide +kernel
theorem d_Md_statement_49 : decode b_Md_statement 49 = .ok (.iconst 1, 1) := by decide +kernel
theorem d_Md_statement_50 : decode b_Md_statement 50 = .ok (.goto 4, 3) := by decide +kernel
theorem d_Md_statement_53 : decode b_Md_statement 53 = .ok (.iconst 0, 1) := by decide +kernel
theorem d_Md_statement_54 : decode b_Md_statement 54 = .ok (.istore 6, 2) := by decide +kernel
theorem d_Md_statement_56 : decode b_Md_statement 56 = .ok (.aload_n 0, 1) := by decide +kernel
theorem d_Md_statement_57 : decode b_Md_statement 57 = .ok (.getfield 206, 3) := by decide +kernel
theorem d_Md_statement_60 : decode b_Md_statement 60 = .ok (.bipush 12, 2) := by decide +kernel
theorem d_Md_statement_62 : decode b_Md_statement 62 = .ok (.if_icmp .eq 8, 3) := by decide +kernel
theorem d_Md_statement_65 : decode b_Md_statement 65 = .ok (.iload 6, 2) := by decide +kernel
theorem d_Md_statement_67 : decode b_Md_statement 67 = .ok (.ifCond .ne 5, 3) := by decide +kernel
theorem d_Md_statement_70 : decode b_Md_statement 70 = .ok (.iconst (-1), 1) := by decide +kernel
theorem d_Md_statement_71 : decode b_Md_statement 71 = .ok (.ireturn, 1) := by decide +kernel
theorem d_Md_statement_72 : decode b_Md_statement 72 = .ok (.aload_n 0, 1) := by decide +kernel
theorem d_Md_statement_73 : decode b_Md_statement 73 = .ok (.getfield 33, 3) := by decide +kernel
theorem d_Md_statement_76 : decode b_Md_statement 76 = .ok (.aload_n 0, 1) := by decide +kernel
theorem d_Md_statement_77 : decode b_Md_statement 77 = .ok (.getfield 206, 3) := by decide +kernel
theorem d_Md_statement_80 : decode b_Md_statement 80 = .ok (.iload_n 1, 1) := by decide +kernel
theorem d_Md_statement_81 : decode b_Md_statement 81 = .ok (.iastore, 1) := by decide +kernel
theorem d_Md_statement_82 : decode b_Md_statement 82 = .ok (.aload_n 0, 1) := by decide +kernel
theorem d_Md_statement_83 : decode b_Md_statement 83 = .ok (.getfield 36, 3) := by decide +kernel
theorem d_Md_statement_86 : decode b_Md_statement 86 = .ok (.aload_n 0, 1) := by decide +kernel
theorem d_Md_statement_87 : decode b_Md_statement 87 = .ok (.getfield 206, 3) := by decide +kernel
theorem d_Md_statement_90 : decode b_Md_statement 90 = .ok (.iload_n 2, 1) := by decide +kernel
theorem d_Md_statement_91 : decode b_Md_statement 91 = .ok (.iastore, 1) := by decide +kernel
theorem d_Md_statement_92 : decode b_Md_statement 92 = .ok (.aload_n 0, 1) := by decide +kernel
theorem d_Md_statement_93 : decode b_Md_statement 93 = .ok (.getfield 39, 3) := by decide +kernel
theorem d_Md_statement_96 : decode b_Md_statement 96 = .ok (.aload_n 0, 1) := by decide +kernel
theorem d_Md_statement_97 : decode b_Md_statement 97 = .ok (.getfield 206, 3) := by decide +kernel
theorem d_Md_statement_100 : decode b_Md_statement 100 = .ok (.iload_n 3, 1) := by decide +kernel
theorem d_Md_statement_101 : decode b_Md_statement 101 = .ok (.iastore, 1) := by decide +kernel
theorem d_Md_statement_102 : decode b_Md_statement 102 = .ok (.aload_n 0, 1) := by decide +kernel
theorem d_Md_statement_103 : decode b_Md_statement 103 = .ok (.getfield 42, 3) := by decide +kernel
theorem d_Md_statement_106 : decode b_Md_statement 106 = .ok (.aload_n 0, 1) := by decide +kernel
theorem d_Md_statement_107 : decode b_Md_statement 107 = .ok (.getfield 206, 3) := by decide +kernel
theorem d_Md_statement_110 : decode b_Md_statement 110 = .ok (.iload 4, 2) := by decide +kernel
theorem d_Md_statement_112 : decode b_Md_statement 112 = .ok (.iastore, 1) := by decide +kernel
theorem d_Md_statement_113 : decode b_Md_statement 113 = .ok (.aload_n 0, 1) := by decide +kernel
theorem d_Md_statement_114 : decode b_Md_statement 114 = .ok (.getfield 45, 3) := by decide +kernel
theorem d_Md_statement_117 : decode b_Md_statement 117 = .ok (.aload_n 0, 1) := by decide +kernel
theorem d_Md_statement_118 : decode b_Md_statement 118 = .ok (.getfield 206, 3) := by decide +kernel
theorem d_Md_statement_121 : decode b_Md_statement 121 = .ok (.iload 5, 2) := by decide +kernel
theorem d_Md_statement_123 : decode b_Md_statement 123 = .ok (.iastore, 1) := by decide +kernel
theorem d_Md_statement_124 : decode b_Md_statement 124 = .ok (.aload_n 0, 1) := by decide +kernel
theorem d_Md_statement_125 : decode b_Md_statement 125 = .ok (.dup, 1) := by decide +kernel
theorem d_Md_statement_126 : decode b_Md_statement 126 = .ok (.getfield 206, 3) := by decide +kernel
theorem d_Md_statement_129 : decode b_Md_statement 129 = .ok (.iconst 1, 1) := by decide +kernel
theorem d_Md_statement_130 : decode b_Md_statement 130 = .ok (.iadd, 1) := by decide +kernel
theorem d_Md_statement_131 : decode b_Md_statement 131 = .ok (.putfield 206, 3) := by decide +kernel
theorem d_Md_statement_134 : decode b_Md_statement 134 = .ok (.aload_n 0, 1) := by decide +kernel
theorem d_Md_statement_135 : decode b_Md_statement 135 = .ok (.getfield 206, 3) := by decide +kernel
theorem d_Md_statement_138 : decode b_Md_statement 138 = .ok (.iconst 1, 1) := by decide +kernel
theorem d_Md_statement_139 : decode b_Md_statement 139 = .ok (.isub, 1) := by decide +kernel
theorem d_Md_statement_140 : decode b_Md_statement 140 = .ok (.ireturn, 1) := by decide +kernel
theorem d_Md_clear_0 : decode b_Md_clear 0 = .ok (.aload_n 0, 1) := by decide +kernel
theorem d_Md_clear_1 : decode b_Md_clear 1 = .ok (.iconst 0, 1) := by decide +kernel
theorem d_Md_clear_2 : decode b_Md_clear 2 = .ok (.putfield 206, 3) := by decide +kernel
theorem d_Md_clear_5 : decode b_Md_clear 5 = .ok (.return_, 1) := by decide +kernel
theorem d_Md_list_0 : decode b_Md_list 0 = .ok (.aload_n 0, 1) := by decide +kernel
theorem d_Md_list_1 : decode b_Md_list 1 = .ok (.getfield 48, 3) := by decide +kernel
theorem d_Md_list_4 : decode b_Md_list 4 = .ok (.aload_n 0, 1) := by decide +kernel
theorem d_Md_list_5 : decode b_Md_list 5 = .ok (.getfield 209, 3) := by decide +kernel
theorem d_Md_list_8 : decode b_Md_list 8 = .ok (.iload_n 1, 1) := by decide +kernel
theorem d_Md_list_9 : decode b_Md_list 9 = .ok (.iastore, 1) := by decide +kernel
theorem d_Md_list_10 : decode b_Md_list 10 = .ok (.aload_n 0, 1) := by decide +kernel
theorem d_Md_list_11 : decode b_Md_list 11 = .ok (.getfield 51, 3) := by decide +kernel
theorem d_Md_list_14 : decode b_Md_list 14 = .ok (.aload_n 0, 1) := by decide +kernel
theorem d_Md_list_15 : decode b_Md_list 15 = .ok (.getfield 209, 3) := by decide +kernel
theorem d_Md_list_18 : decode b_Md_list 18 = .ok (.iload_n 2, 1) := by decide +kernel
theorem d_Md_list_19 : decode b_Md_list 19 = .ok (.iastore, 1) := by decide +kernel
theorem d_Md_list_20 : decode b_Md_list 20 = .ok (.aload_n 0, 1) := by decide +kernel
theorem d_Md_list_21 : decode b_Md_list 21 = .ok (.getfield 54, 3) := by decide +kernel
theorem d_Md_list_24 : decode b_Md_list 24 = .ok (.aload_n 0, 1) := by decide +kernel
theorem d_Md_list_25 : decode b_Md_list 25 = .ok (.getfield 209, 3) := by decide +kernel
theorem d_Md_list_28 : decode b_Md_list 28 = .ok (.iload_n 3, 1) := by decide +kernel
theorem d_Md_list_29 : decode b_Md_list 29 = .ok (.iastore, 1) := by decide +kernel
theorem d_Md_list_30 : decode b_Md_list 30 = .ok (.aload_n 0, 1) := by decide +kernel
theorem d_Md_list_31 : decode b_Md_list 31 = .ok (.getfield 57, 3) := by decide +kernel
theorem d_Md_list_34 : decode b_Md_list 34 = .ok (.aload_n 0, 1) := by decide +kernel
theorem d_Md_list_35 : decode b_Md_list 35 = .ok (.getfield 209, 3) := by decide +kernel
theorem d_Md_list_38 : decode b_Md_list 38 = .ok (.iload 4, 2) := by decide +kernel
theorem d_Md_list_40 : decode b_Md_list 40 = .ok (.iastore, 1) := by decide +kernel
theorem d_Md_list_41 : decode b_Md_list 41 = .ok (.aload_n 0, 1) := by decide +kernel
theorem d_Md_list_42 : decode b_Md_list 42 = .ok (.dup, 1) := by decide +kernel
theorem d_Md_list_43 : decode b_Md_list 43 = .ok (.getfield 209, 3) := by decide +kernel
theorem d_Md_list_46 : decode b_Md_list 46 = .ok (.iconst 1, 1) := by decide +kernel
theorem d_Md_list_47 : decode b_Md_list 47 = .ok (.iadd, 1) := by decide +kernel
theorem d_Md_list_48 : decode b_Md_list 48 = .ok (.putfield 209, 3) := by decide +kernel
theorem d_Md_list_51 : decode b_Md_list 51 = .ok (.return_, 1) := by decide +kernel
theorem d_Md_listAll_0 : decode b_Md_listAll 0 = .ok (.aload_n 0, 1) := by decide +kernel
theorem d_Md_listAll_1 : decode b_Md_listAll 1 = .ok (.iconst 0, 1) := by decide +kernel
theorem d_Md_listAll_2 : decode b_Md_listAll 2 = .ok (.putfield 209, 3) := by decide +kernel
theorem d_Md_listAll_5 : decode b_Md_listAll 5 = .ok (.iconst 0, 1) := by decide +kernel
theorem d_Md_listAll_6 : decode b_Md_listAll 6 = .ok (.istore_n 1, 1) := by decide +kernel
theorem d_Md_listAll_7 : decode b_Md_listAll 7 = .ok (.iload_n 1, 1) := by decide +kernel
theorem d_Md_listAll_8 : decode b_Md_listAll 8 = .ok (.aload_n 0, 1) := by decide +kernel
theorem d_Md_listAll_9 : decode b_Md_listAll 9 = .ok (.getfield 206, 3) := by decide +kernel
theorem d_Md_listAll_12 : decode b_Md_listAll 12 = .ok (.if_icmp .ge 202, 3) := by decide +kernel
theorem d_Md_listAll_15 : decode b_Md_listAll 15 = .ok (.aload_n 0, 1) := by decide +kernel
theorem d_Md_listAll_16 : decode b_Md_listAll 16 = .ok (.getfield 36, 3) := by decide +kernel
theorem d_Md_listAll_19 : decode b_Md_listAll 19 = .ok (.iload_n 1, 1) := by decide +kernel
theorem d_Md_listAll_20 : decode b_Md_listAll 20 = .ok (.iaload, 1) := by decide +kernel
theorem d_Md_listAll_21 : decode b_Md_listAll 21 = .ok (.istore_n 2, 1) := by decide +kernel
theorem d_Md_listAll_22 : decode b_Md_listAll 22 = .ok (.aload_n 0, 1) := by decide +kernel
theorem d_Md_listAll_23 : decode b_Md_listAll 23 = .ok (.getfield 39, 3) := by decide +kernel
theorem d_Md_listAll_26 : decode b_Md_listAll 26 = .ok (.iload_n 1, 1) := by decide +kernel
theorem d_Md_listAll_27 : decode b_Md_listAll 27 = .ok (.iaload, 1) := by decide +kernel
theorem d_Md_listAll_28 : decode b_Md_listAll 28 = .ok (.istore_n 3, 1) := by decide +kernel
theorem d_Md_listAll_29 : decode b_Md_listAll 29 = .ok (.aload_n 0, 1) := by decide +kernel
theorem d_Md_listAll_30 : decode b_Md_listAll 30 = .ok (.getfield 42, 3) := by decide +kernel
theorem d_Md_listAll_33 : decode b_Md_listAll 33 = .ok (.iload_n 1, 1) := by decide +kernel
theorem d_Md_listAll_34 : decode b_Md_listAll 34 = .ok (.iaload, 1) := by decide +kernel
theorem d_Md_listAll_35 : decode b_Md_listAll 35 = .ok (.istore 4, 2) := by decide +kernel
theorem d_Md_listAll_37 : decode b_Md_listAll 37 = .ok (.aload_n 0, 1) := by decide +kernel
theorem d_Md_listAll_38 : decode b_Md_listAll 38 = .ok (.getfield 33, 3) := by decide +kernel
theorem d_Md_listAll_41 : decode b_Md_listAll 41 = .ok (.iload_n 1, 1) := by decide +kernel
theorem d_Md_listAll_42 : decode b_Md_listAll 42 = .ok (.iaload, 1) := by decide +kernel
theorem d_Md_listAll_43 : decode b_Md_listAll 43 = .ok (.tableswitch 157 0 5 #[37, 37, 82, 104, 116, 144], 37) := by decide +kernel
theorem d_Md_listAll_80 : decode b_Md_listAll 80 = .ok (.aload_n 0, 1) := by decide +kernel
theorem d_Md_listAll_81 : decode b_Md_listAll 81 = .ok (.iconst 2, 1) := by decide +kernel
theorem d_Md_listAll_82 : decode b_Md_listAll 82 = .ok (.bipush 6, 2) := by decide +kernel
theorem d_Md_listAll_84 : decode b_Md_listAll 84 = .ok (.iload_n 2, 1) := by decide +kernel
theorem d_Md_listAll_85 : decode b_Md_listAll 85 = .ok (.iload_n 1, 1) := by decide +kernel
theorem d_Md_listAll_86 : decode b_Md_listAll 86 = .ok (.invokevirtual 212, 3) := by decide +kernel
theorem d_Md_listAll_89 : decode b_Md_listAll 89 = .ok (.aload_n 0, 1) := by decide +kernel
theorem d_Md_listAll_90 : decode b_Md_listAll 90 = .ok (.iconst 2, 1) := by decide +kernel
theorem d_Md_listAll_91 : decode b_Md_listAll 91 = .ok (.aload_n 0, 1) := by decide +kernel
theorem d_Md_listAll_92 : decode b_Md_listAll 92 = .ok (.getfield 33, 3) := by decide +kernel
theorem d_Md_listAll_95 : decode b_Md_listAll 95 = .ok (.iload_n 1, 1) := by decide +kernel
theorem d_Md_listAll_96 : decode b_Md_listAll 96 = .ok (.iaload, 1) := by decide +kernel
theorem d_Md_listAll_97 : decode b_Md_listAll 97 = .ok (.ifCond .ne 8, 3) := by decide +kernel
theorem d_Md_listAll_100 : decode b_Md_listAll 100 = .ok (.bipush 9, 2) := by decide +kernel
theorem d_Md_listAll_102 : decode b_Md_listAll 102 = .ok (.goto 5, 3) := by decide +kernel
theorem d_Md_listAll_105 : decode b_Md_listAll 105 = .ok (.bipush 10, 2) := by decide +kernel
theorem d_Md_listAll_107 : decode b_Md_listAll 107 = .ok (.iload_n 3, 1) := by decide +kernel
theorem d_Md_listAll_108 : decode b_Md_listAll 108 = .ok (.iload_n 1, 1) := by decide +kernel
theorem d_Md_listAll_109 : decode b_Md_listAll 109 = .ok (.invokevirtual 212, 3) := by decide +kernel
theorem d_Md_listAll_112 : decode b_Md_listAll 112 = .ok (.aload_n 0, 1) := by decide +kernel
theorem d_Md_listAll_113 : decode b_Md_listAll 113 = .ok (.bipush 6, 2) := by decide +kernel
theorem d_Md_listAll_115 : decode b_Md_listAll 115 = .ok (.iconst 2, 1) := by decide +kernel
theorem d_Md_listAll_116 : decode b_Md_listAll 116 = .ok (.iload 4, 2) := by decide +kernel
theorem d_Md_listAll_118 : decode b_Md_listAll 118 = .ok (.iload_n 1, 1) := by decide +kernel
theorem d_Md_listAll_119 : decode b_Md_listAll 119 = .ok (.invokevirtual 212, 3) := by decide +kernel
theorem d_Md_listAll_122 : decode b_Md_listAll 122 = .ok (.goto 86, 3) := by decide +kernel
theorem d_Md_listAll_125 : decode b_Md_listAll 125 = .ok (.aload_n 0, 1) := by decide +kernel
theorem d_Md_listAll_126 : decode b_Md_listAll 126 = .ok (.iconst 2, 1) := by decide +kernel
theorem d_Md_listAll_127 : decode b_Md_listAll 127 = .ok (.bipush 6, 2) := by decide +kernel
theorem d_Md_listAll_129 : decode b_Md_listAll 129 = .ok (.iload_n 2, 1) := by decide +kernel
theorem d_Md_listAll_130 : decode b_Md_listAll 130 = .ok (.iload_n 1, 1) := by decide +kernel
theorem d_Md_listAll_131 : decode b_Md_listAll 131 = .ok (.invokevirtual 212, 3) := by decide +kernel
theorem d_Md_listAll_134 : decode b_Md_listAll 134 = .ok (.aload_n 0, 1) := by decide +kernel
theorem d_Md_listAll_135 : decode b_Md_listAll 135 = .ok (.bipush 6, 2) := by decide +kernel
theorem d_Md_listAll_137 : decode b_Md_listAll 137 = .ok (.iconst 2, 1) := by decide +kernel
theorem d_Md_listAll_138 : decode b_Md_listAll 138 = .ok (.iload 4, 2) := by decide +kernel
theorem d_Md_listAll_140 : decode b_Md_listAll 140 = .ok (.iload_n 1, 1) := by decide +kernel
theorem d_Md_listAll_141 : decode b_Md_listAll 141 = .ok (.invokevirtual 212, 3) := by decide +kernel
theorem d_Md_listAll_144 : decode b_Md_listAll 144 = .ok (.goto 64, 3) := by decide +kernel
theorem d_Md_listAll_147 : decode b_Md_listAll 147 = .ok (.aload_n 0, 1) := by decide +kernel
theorem d_Md_listAll_148 : decode b_Md_listAll 148 = .ok (.iconst 2, 1) := by decide +kernel
theorem d_Md_listAll_149 : decode b_Md_listAll 149 = .ok (.bipush 15, 2) := by decide +kernel
theorem d_Md_listAll_151 : decode b_Md_listAll 151 = .ok (.iload_n 2, 1) := by decide +kernel
theorem d_Md_listAll_152 : decode b_Md_listAll 152 = .ok (.iload_n 1, 1) := by decide +kernel
theorem d_Md_listAll_153 : decode b_Md_listAll 153 = .ok (.invokevirtual 212, 3) := by decide +kernel
theorem d_Md_listAll_156 : decode b_Md_listAll 156 = .ok (.goto 52, 3) := by decide +kernel
theorem d_Md_listAll_159 : decode b_Md_listAll 159 = .ok (.aload_n 0, 1) := by decide +kernel
theorem d_Md_listAll_160 : decode b_Md_listAll 160 = .ok (.iconst 2, 1) := by decide +kernel
theorem d_Md_listAll_161 : decode b_Md_listAll 161 = .ok (.bipush 11, 2) := by decide +kernel
theorem d_Md_listAll_163 : decode b_Md_listAll 163 = .ok (.iload_n 2, 1) := by decide +kernel
theorem d_Md_listAll_164 : decode b_Md_listAll 164 = .ok (.iload_n 1, 1) := by decide +kernel
theorem d_Md_listAll_165 : decode b_Md_listAll 165 = .ok (.invokevirtual 212, 3) := by decide +kernel
theorem d_Md_listAll_168 : decode b_Md_listAll 168 = .ok (.aload_n 0, 1) := by decide +kernel
theorem d_Md_listAll_169 : decode b_Md_listAll 169 = .ok (.iconst 0, 1) := by decide +kernel
theorem d_Md_listAll_170 : decode b_Md_listAll 170 = .ok (.iconst 0, 1) := by decide +kernel
theorem d_Md_listAll_171 : decode b_Md_listAll 171 = .ok (.iconst (-1), 1) := by decide +kernel
theorem d_Md_listAll_172 : decode b_Md_listAll 172 = .ok (.iload_n 1, 1) := by decide +kernel
theorem d_Md_listAll_173 : decode b_Md_listAll 173 = .ok (.invokevirtual 212, 3) := by decide +kernel
theorem d_Md_listAll_176 : decode b_Md_listAll 176 = .ok (.aload_n 0, 1) := by decide +kernel
theorem d_Md_listAll_177 : decode b_Md_listAll 177 = .ok (.iconst 0, 1) := by decide +kernel
theorem d_Md_listAll_178 : decode b_Md_listAll 178 = .ok (.iconst 0, 1) := by decide +kernel
theorem d_Md_listAll_179 : decode b_Md_listAll 179 = .ok (.iconst (-1), 1) := by decide +kernel
theorem d_Md_listAll_180 : decode b_Md_listAll 180 = .ok (.iload_n 1, 1) := by decide +kernel
theorem d_Md_listAll_181 : decode b_Md_listAll 181 = .ok (.invokevirtual 212, 3) := by decide +kernel
theorem d_Md_listAll_184 : decode b_Md_listAll 184 = .ok (.goto 24, 3) := by decide +kernel
theorem d_Md_listAll_187 : decode b_Md_listAll 187 = .ok (.aload_n 0, 1) := by decide +kernel
end
section
theorem d_Md_listAll_188 : decode b_Md_listAll 188 = .ok (.bipush 13, 2) := by decide +kernel
theorem d_Md_listAll_190 : decode b_Md_listAll 190 = .ok (.iconst 2, 1) := by decide +kernel
theorem d_Md_listAll_191 : decode b_Md_listAll 191 = .ok (.iload 4, 2) := by decide +kernel
theorem d_Md_listAll_193 : decode b_Md_listAll 193 = .ok (.iload_n 1, 1) := by decide +kernel
theorem d_Md_listAll_194 : decode b_Md_listAll 194 = .ok (.invokevirtual 212, 3) := by decide +kernel
theorem d_Md_listAll_197 : decode b_Md_listAll 197 = .ok (.goto 11, 3) := by decide +kernel
theorem d_Md_listAll_200 : decode b_Md_listAll 200 = .ok (.aload_n 0, 1) := by decide +kernel
theorem d_Md_listAll_201 : decode b_Md_listAll 201 = .ok (.iconst 0, 1) := by decide +kernel
theorem d_Md_listAll_202 : decode b_Md_listAll 202 = .ok (.iconst 1, 1) := by decide +kernel
theorem d_Md_listAll_203 : decode b_Md_listAll 203 = .ok (.iconst (-1), 1) := by decide +kernel
theorem d_Md_listAll_204 : decode b_Md_listAll 204 = .ok (.iload_n 1, 1) := by decide +kernel
theorem d_Md_listAll_205 : decode b_Md_listAll 205 = .ok (.invokevirtual 212, 3) := by decide +kernel
theorem d_Md_listAll_208 : decode b_Md_listAll 208 = .ok (.iinc 1 1, 3) := by decide +kernel
theorem d_Md_listAll_211 : decode b_Md_listAll 211 = .ok (.goto (-204), 3) := by decide +kernel
theorem d_Md_listAll_214 : decode b_Md_listAll 214 = .ok (.aload_n 0, 1) := by decide +kernel
theorem d_Md_listAll_215 : decode b_Md_listAll 215 = .ok (.getfield 33, 3) := by decide +kernel
theorem d_Md_listAll_218 : decode b_Md_listAll 218 = .ok (.aload_n 0, 1) := by decide +kernel
theorem d_Md_listAll_219 : decode b_Md_listAll 219 = .ok (.getfield 206, 3) := by decide +kernel
theorem d_Md_listAll_222 : decode b_Md_listAll 222 = .ok (.iconst 1, 1) := by decide +kernel
theorem d_Md_listAll_223 : decode b_Md_listAll 223 = .ok (.isub, 1) := by decide +kernel
theorem d_Md_listAll_224 : decode b_Md_listAll 224 = .ok (.iaload, 1) := by decide +kernel
theorem d_Md_listAll_225 : decode b_Md_listAll 225 = .ok (.bipush 6, 2) := by decide +kernel
theorem d_Md_listAll_227 : decode b_Md_listAll 227 = .ok (.if_icmp .eq 11, 3) := by decide +kernel
theorem d_Md_listAll_230 : decode b_Md_listAll 230 = .ok (.aload_n 0, 1) := by decide +kernel
theorem d_Md_listAll_231 : decode b_Md_listAll 231 = .ok (.iconst 0, 1) := by decide +kernel
theorem d_Md_listAll_232 : decode b_Md_listAll 232 = .ok (.iconst 1, 1) := by decide +kernel
theorem d_Md_listAll_233 : decode b_Md_listAll 233 = .ok (.iconst (-1), 1) := by decide +kernel
theorem d_Md_listAll_234 : decode b_Md_listAll 234 = .ok (.iconst (-1), 1) := by decide +kernel
theorem d_Md_listAll_235 : decode b_Md_listAll 235 = .ok (.invokevirtual 212, 3) := by decide +kernel
theorem d_Md_listAll_238 : decode b_Md_listAll 238 = .ok (.return_, 1) := by decide +kernel
theorem d_Md_free_0 : decode b_Md_free 0 = .ok (.iconst 0, 1) := by decide +kernel
theorem d_Md_free_1 : decode b_Md_free 1 = .ok (.istore_n 3, 1) := by decide +kernel
theorem d_Md_free_2 : decode b_Md_free 2 = .ok (.iload_n 3, 1) := by decide +kernel
theorem d_Md_free_3 : decode b_Md_free 3 = .ok (.iload_n 2, 1) := by decide +kernel
theorem d_Md_free_4 : decode b_Md_free 4 = .ok (.ifCond .eq 8, 3) := by decide +kernel
theorem d_Md_free_7 : decode b_Md_free 7 = .ok (.bipush 31, 2) := by decide +kernel
theorem d_Md_free_9 : decode b_Md_free 9 = .ok (.goto 5, 3) := by decide +kernel
theorem d_Md_free_12 : decode b_Md_free 12 = .ok (.bipush 32, 2) := by decide +kernel
theorem d_Md_free_14 : decode b_Md_free 14 = .ok (.if_icmp .ge 90, 3) := by decide +kernel
theorem d_Md_free_17 : decode b_Md_free 17 = .ok (.iload_n 1, 1) := by decide +kernel
theorem d_Md_free_18 : decode b_Md_free 18 = .ok (.iload_n 3, 1) := by decide +kernel
theorem d_Md_free_19 : decode b_Md_free 19 = .ok (.iadd, 1) := by decide +kernel
theorem d_Md_free_20 : decode b_Md_free 20 = .ok (.bipush 31, 2) := by decide +kernel
theorem d_Md_free_22 : decode b_Md_free 22 = .ok (.iand, 1) := by decide +kernel
theorem d_Md_free_23 : decode b_Md_free 23 = .ok (.istore 4, 2) := by decide +kernel
theorem d_Md_free_25 : decode b_Md_free 25 = .ok (.iload_n 2, 1) := by decide +kernel
theorem d_Md_free_26 : decode b_Md_free 26 = .ok (.ifCond .eq 13, 3) := by decide +kernel
theorem d_Md_free_29 : decode b_Md_free 29 = .ok (.iload 4, 2) := by decide +kernel
theorem d_Md_free_31 : decode b_Md_free 31 = .ok (.iconst 1, 1) := by decide +kernel
theorem d_Md_free_32 : decode b_Md_free 32 = .ok (.iadd, 1) := by decide +kernel
theorem d_Md_free_33 : decode b_Md_free 33 = .ok (.bipush 31, 2) := by decide +kernel
theorem d_Md_free_35 : decode b_Md_free 35 = .ok (.iand, 1) := by decide +kernel
theorem d_Md_free_36 : decode b_Md_free 36 = .ok (.goto 5, 3) := by decide +kernel
theorem d_Md_free_39 : decode b_Md_free 39 = .ok (.iload 4, 2) := by decide +kernel
theorem d_Md_free_41 : decode b_Md_free 41 = .ok (.istore 5, 2) := by decide +kernel
theorem d_Md_free_43 : decode b_Md_free 43 = .ok (.aload_n 0, 1) := by decide +kernel
theorem d_Md_free_44 : decode b_Md_free 44 = .ok (.getfield 66, 3) := by decide +kernel
theorem d_Md_free_47 : decode b_Md_free 47 = .ok (.iload 4, 2) := by decide +kernel
theorem d_Md_free_49 : decode b_Md_free 49 = .ok (.baload, 1) := by decide +kernel
theorem d_Md_free_50 : decode b_Md_free 50 = .ok (.ifCond .ne 16, 3) := by decide +kernel
theorem d_Md_free_53 : decode b_Md_free 53 = .ok (.aload_n 0, 1) := by decide +kernel
theorem d_Md_free_54 : decode b_Md_free 54 = .ok (.getfield 66, 3) := by decide +kernel
theorem d_Md_free_57 : decode b_Md_free 57 = .ok (.iload 5, 2) := by decide +kernel
theorem d_Md_free_59 : decode b_Md_free 59 = .ok (.baload, 1) := by decide +kernel
theorem d_Md_free_60 : decode b_Md_free 60 = .ok (.ifCond .ne 6, 3) := by decide +kernel
theorem d_Md_free_63 : decode b_Md_free 63 = .ok (.iload 4, 2) := by decide +kernel
theorem d_Md_free_65 : decode b_Md_free 65 = .ok (.ireturn, 1) := by decide +kernel
theorem d_Md_free_66 : decode b_Md_free 66 = .ok (.aload_n 0, 1) := by decide +kernel
theorem d_Md_free_67 : decode b_Md_free 67 = .ok (.getfield 66, 3) := by decide +kernel
theorem d_Md_free_70 : decode b_Md_free 70 = .ok (.bipush 32, 2) := by decide +kernel
theorem d_Md_free_72 : decode b_Md_free 72 = .ok (.iload 4, 2) := by decide +kernel
theorem d_Md_free_74 : decode b_Md_free 74 = .ok (.iadd, 1) := by decide +kernel
theorem d_Md_free_75 : decode b_Md_free 75 = .ok (.baload, 1) := by decide +kernel
theorem d_Md_free_76 : decode b_Md_free 76 = .ok (.ifCond .ne 22, 3) := by decide +kernel
theorem d_Md_free_79 : decode b_Md_free 79 = .ok (.aload_n 0, 1) := by decide +kernel
theorem d_Md_free_80 : decode b_Md_free 80 = .ok (.getfield 66, 3) := by decide +kernel
theorem d_Md_free_83 : decode b_Md_free 83 = .ok (.bipush 32, 2) := by decide +kernel
theorem d_Md_free_85 : decode b_Md_free 85 = .ok (.iload 5, 2) := by decide +kernel
theorem d_Md_free_87 : decode b_Md_free 87 = .ok (.iadd, 1) := by decide +kernel
theorem d_Md_free_88 : decode b_Md_free 88 = .ok (.baload, 1) := by decide +kernel
theorem d_Md_free_89 : decode b_Md_free 89 = .ok (.ifCond .ne 9, 3) := by decide +kernel
theorem d_Md_free_92 : decode b_Md_free 92 = .ok (.bipush 32, 2) := by decide +kernel
theorem d_Md_free_94 : decode b_Md_free 94 = .ok (.iload 4, 2) := by decide +kernel
theorem d_Md_free_96 : decode b_Md_free 96 = .ok (.iadd, 1) := by decide +kernel
theorem d_Md_free_97 : decode b_Md_free 97 = .ok (.ireturn, 1) := by decide +kernel
theorem d_Md_free_98 : decode b_Md_free 98 = .ok (.iinc 3 1, 3) := by decide +kernel
theorem d_Md_free_101 : decode b_Md_free 101 = .ok (.goto (-99), 3) := by decide +kernel
theorem d_Md_free_104 : decode b_Md_free 104 = .ok (.iconst (-1), 1) := by decide +kernel
theorem d_Md_free_105 : decode b_Md_free 105 = .ok (.ireturn, 1) := by decide +kernel
theorem d_Md_place_0 : decode b_Md_place 0 = .ok (.iconst 0, 1) := by decide +kernel
theorem d_Md_place_1 : decode b_Md_place 1 = .ok (.istore_n 1, 1) := by decide +kernel
theorem d_Md_place_2 : decode b_Md_place 2 = .ok (.iload_n 1, 1) := by decide +kernel
theorem d_Md_place_3 : decode b_Md_place 3 = .ok (.bipush 64, 2) := by decide +kernel
theorem d_Md_place_5 : decode b_Md_place 5 = .ok (.if_icmp .ge 16, 3) := by decide +kernel
theorem d_Md_place_8 : decode b_Md_place 8 = .ok (.aload_n 0, 1) := by decide +kernel
theorem d_Md_place_9 : decode b_Md_place 9 = .ok (.getfield 66, 3) := by decide +kernel
theorem d_Md_place_12 : decode b_Md_place 12 = .ok (.iload_n 1, 1) := by decide +kernel
theorem d_Md_place_13 : decode b_Md_place 13 = .ok (.iconst 0, 1) := by decide +kernel
theorem d_Md_place_14 : decode b_Md_place 14 = .ok (.bastore, 1) := by decide +kernel
theorem d_Md_place_15 : decode b_Md_place 15 = .ok (.iinc 1 1, 3) := by decide +kernel
theorem d_Md_place_18 : decode b_Md_place 18 = .ok (.goto (-16), 3) := by decide +kernel
theorem d_Md_place_21 : decode b_Md_place 21 = .ok (.iconst 0, 1) := by decide +kernel
theorem d_Md_place_22 : decode b_Md_place 22 = .ok (.istore_n 1, 1) := by decide +kernel
theorem d_Md_place_23 : decode b_Md_place 23 = .ok (.iload_n 1, 1) := by decide +kernel
theorem d_Md_place_24 : decode b_Md_place 24 = .ok (.bipush 32, 2) := by decide +kernel
theorem d_Md_place_26 : decode b_Md_place 26 = .ok (.if_icmp .ge 16, 3) := by decide +kernel
theorem d_Md_place_29 : decode b_Md_place 29 = .ok (.aload_n 0, 1) := by decide +kernel
theorem d_Md_place_30 : decode b_Md_place 30 = .ok (.getfield 70, 3) := by decide +kernel
theorem d_Md_place_33 : decode b_Md_place 33 = .ok (.iload_n 1, 1) := by decide +kernel
theorem d_Md_place_34 : decode b_Md_place 34 = .ok (.iconst 0, 1) := by decide +kernel
theorem d_Md_place_35 : decode b_Md_place 35 = .ok (.bastore, 1) := by decide +kernel
theorem d_Md_place_36 : decode b_Md_place 36 = .ok (.iinc 1 1, 3) := by decide +kernel
theorem d_Md_place_39 : decode b_Md_place 39 = .ok (.goto (-16), 3) := by decide +kernel
theorem d_Md_place_42 : decode b_Md_place 42 = .ok (.iconst 0, 1) := by decide +kernel
theorem d_Md_place_43 : decode b_Md_place 43 = .ok (.istore_n 1, 1) := by decide +kernel
theorem d_Md_place_44 : decode b_Md_place 44 = .ok (.iload_n 1, 1) := by decide +kernel
theorem d_Md_place_45 : decode b_Md_place 45 = .ok (.bipush 16, 2) := by decide +kernel
theorem d_Md_place_47 : decode b_Md_place 47 = .ok (.if_icmp .ge 16, 3) := by decide +kernel
theorem d_Md_place_50 : decode b_Md_place 50 = .ok (.aload_n 0, 1) := by decide +kernel
theorem d_Md_place_51 : decode b_Md_place 51 = .ok (.getfield 73, 3) := by decide +kernel
theorem d_Md_place_54 : decode b_Md_place 54 = .ok (.iload_n 1, 1) := by decide +kernel
theorem d_Md_place_55 : decode b_Md_place 55 = .ok (.iconst (-1), 1) := by decide +kernel
theorem d_Md_place_56 : decode b_Md_place 56 = .ok (.iastore, 1) := by decide +kernel
theorem d_Md_place_57 : decode b_Md_place 57 = .ok (.iinc 1 1, 3) := by decide +kernel
theorem d_Md_place_60 : decode b_Md_place 60 = .ok (.goto (-16), 3) := by decide +kernel
theorem d_Md_place_63 : decode b_Md_place 63 = .ok (.iconst 0, 1) := by decide +kernel
theorem d_Md_place_64 : decode b_Md_place 64 = .ok (.istore_n 1, 1) := by decide +kernel
theorem d_Md_place_65 : decode b_Md_place 65 = .ok (.iconst 0, 1) := by decide +kernel
theorem d_Md_place_66 : decode b_Md_place 66 = .ok (.istore_n 2, 1) := by decide +kernel
theorem d_Md_place_67 : decode b_Md_place 67 = .ok (.iload_n 2, 1) := by decide +kernel
theorem d_Md_place_68 : decode b_Md_place 68 = .ok (.aload_n 0, 1) := by decide +kernel
theorem d_Md_place_69 : decode b_Md_place 69 = .ok (.getfield 209, 3) := by decide +kernel
theorem d_Md_place_72 : decode b_Md_place 72 = .ok (.if_icmp .ge 189, 3) := by decide +kernel
theorem d_Md_place_75 : decode b_Md_place 75 = .ok (.aload_n 0, 1) := by decide +kernel
theorem d_Md_place_76 : decode b_Md_place 76 = .ok (.getfield 48, 3) := by decide +kernel
theorem d_Md_place_79 : decode b_Md_place 79 = .ok (.iload_n 2, 1) := by decide +kernel
theorem d_Md_place_80 : decode b_Md_place 80 = .ok (.iaload, 1) := by decide +kernel
theorem d_Md_place_81 : decode b_Md_place 81 = .ok (.ifCond .ne 16, 3) := by decide +kernel
theorem d_Md_place_84 : decode b_Md_place 84 = .ok (.aload_n 0, 1) := by decide +kernel
theorem d_Md_place_85 : decode b_Md_place 85 = .ok (.getfield 51, 3) := by decide +kernel
theorem d_Md_place_88 : decode b_Md_place 88 = .ok (.iload_n 2, 1) := by decide +kernel
theorem d_Md_place_89 : decode b_Md_place 89 = .ok (.iaload, 1) := by decide +kernel
theorem d_Md_place_90 : decode b_Md_place 90 = .ok (.ifCond .ne 7, 3) := by decide +kernel
theorem d_Md_place_93 : decode b_Md_place 93 = .ok (.iconst 1, 1) := by decide +kernel
theorem d_Md_place_94 : decode b_Md_place 94 = .ok (.goto 4, 3) := by decide +kernel
theorem d_Md_place_97 : decode b_Md_place 97 = .ok (.iconst 0, 1) := by decide +kernel
theorem d_Md_place_98 : decode b_Md_place 98 = .ok (.istore_n 3, 1) := by decide +kernel
theorem d_Md_place_99 : decode b_Md_place 99 = .ok (.aload_n 0, 1) := by decide +kernel
theorem d_Md_place_100 : decode b_Md_place 100 = .ok (.iload_n 3, 1) := by decide +kernel
theorem d_Md_place_101 : decode b_Md_place 101 = .ok (.ifCond .eq 9, 3) := by decide +kernel
theorem d_Md_place_104 : decode b_Md_place 104 = .ok (.iload_n 1, 1) := by decide +kernel
theorem d_Md_place_105 : decode b_Md_place 105 = .ok (.iconst 1, 1) := by decide +kernel
theorem d_Md_place_106 : decode b_Md_place 106 = .ok (.iadd, 1) := by decide +kernel
theorem d_Md_place_107 : decode b_Md_place 107 = .ok (.goto 4, 3) := by decide +kernel
theorem d_Md_place_110 : decode b_Md_place 110 = .ok (.iload_n 1, 1) := by decide +kernel
theorem d_Md_place_111 : decode b_Md_place 111 = .ok (.iload_n 3, 1) := by decide +kernel
theorem d_Md_place_112 : decode b_Md_place 112 = .ok (.invokevirtual 216, 3) := by decide +kernel
theorem d_Md_place_115 : decode b_Md_place 115 = .ok (.istore 4, 2) := by decide +kernel
theorem d_Md_place_117 : decode b_Md_place 117 = .ok (.iload 4, 2) := by decide +kernel
theorem d_Md_place_119 : decode b_Md_place 119 = .ok (.ifCond .ge 5, 3) := by decide +kernel
theorem d_Md_place_122 : decode b_Md_place 122 = .ok (.iconst 0, 1) := by decide +kernel
theorem d_Md_place_123 : decode b_Md_place 123 = .ok (.ireturn, 1) := by decide +kernel
theorem d_Md_place_124 : decode b_Md_place 124 = .ok (.aload_n 0, 1) := by decide +kernel
theorem d_Md_place_125 : decode b_Md_place 125 = .ok (.getfield 66, 3) := by decide +kernel
theorem d_Md_place_128 : decode b_Md_place 128 = .ok (.iload 4, 2) := by decide +kernel
theorem d_Md_place_130 : decode b_Md_place 130 = .ok (.iconst 1, 1) := by decide +kernel
theorem d_Md_place_131 : decode b_Md_place 131 = .ok (.bastore, 1) := by decide +kernel
theorem d_Md_place_132 : decode b_Md_place 132 = .ok (.aload_n 0, 1) := by decide +kernel
theorem d_Md_place_133 : decode b_Md_place 133 = .ok (.getfield 60, 3) := by decide +kernel
theorem d_Md_place_136 : decode b_Md_place 136 = .ok (.iload_n 2, 1) := by decide +kernel
theorem d_Md_place_137 : decode b_Md_place 137 = .ok (.iload 4, 2) := by decide +kernel
theorem d_Md_place_139 : decode b_Md_place 139 = .ok (.iastore, 1) := by decide +kernel
theorem d_Md_place_140 : decode b_Md_place 140 = .ok (.aload_n 0, 1) := by decide +kernel
theorem d_Md_place_141 : decode b_Md_place 141 = .ok (.getfield 63, 3) := by decide +kernel
theorem d_Md_place_144 : decode b_Md_place 144 = .ok (.iload_n 2, 1) := by decide +kernel
theorem d_Md_place_145 : decode b_Md_place 145 = .ok (.iconst 0, 1) := by decide +kernel
theorem d_Md_place_146 : decode b_Md_place 146 = .ok (.iastore, 1) := by decide +kernel
theorem d_Md_place_147 : decode b_Md_place 147 = .ok (.iload_n 3, 1) := by decide +kernel
theorem d_Md_place_148 : decode b_Md_place 148 = .ok (.ifCond .eq 55, 3) := by decide +kernel
theorem d_Md_place_151 : decode b_Md_place 151 = .ok (.iinc 2 1, 3) := by decide +kernel
theorem d_Md_place_154 : decode b_Md_place 154 = .ok (.aload_n 0, 1) := by decide +kernel
theorem d_Md_place_155 : decode b_Md_place 155 = .ok (.getfield 60, 3) := by decide +kernel
theorem d_Md_place_158 : decode b_Md_place 158 = .ok (.iload_n 2, 1) := by decide +kernel
theorem d_Md_place_159 : decode b_Md_place 159 = .ok (.iload 4, 2) := by decide +kernel
theorem d_Md_place_161 : decode b_Md_place 161 = .ok (.bipush 32, 2) := by decide +kernel
theorem d_Md_place_163 : decode b_Md_place 163 = .ok (.iand, 1) := by decide +kernel
theorem d_Md_place_164 : decode b_Md_place 164 = .ok (.iload 4, 2) := by decide +kernel
theorem d_Md_place_166 : decode b_Md_place 166 = .ok (.iconst 1, 1) := by decide +kernel
theorem d_Md_place_167 : decode b_Md_place 167 = .ok (.iadd, 1) := by decide +kernel
theorem d_Md_place_168 : decode b_Md_place 168 = .ok (.bipush 31, 2) := by decide +kernel
theorem d_Md_place_170 : decode b_Md_place 170 = .ok (.iand, 1) := by decide +kernel
theorem d_Md_place_171 : decode b_Md_place 171 = .ok (.ior, 1) := by decide +kernel
theorem d_Md_place_172 : decode b_Md_place 172 = .ok (.iastore, 1) := by decide +kernel
theorem d_Md_place_173 : decode b_Md_place 173 = .ok (.aload_n 0, 1) := by decide +kernel
theorem d_Md_place_174 : decode b_Md_place 174 = .ok (.getfield 66, 3) := by decide +kernel
theorem d_Md_place_177 : decode b_Md_place 177 = .ok (.aload_n 0, 1) := by decide +kernel
theorem d_Md_place_178 : decode b_Md_place 178 = .ok (.getfield 60, 3) := by decide +kernel
theorem d_Md_place_181 : decode b_Md_place 181 = .ok (.iload_n 2, 1) := by decide +kernel
theorem d_Md_place_182 : decode b_Md_place 182 = .ok (.iaload, 1) := by decide +kernel
theorem d_Md_place_183 : decode b_Md_place 183 = .ok (.iconst 1, 1) := by decide +kernel
theorem d_Md_place_184 : decode b_Md_place 184 = .ok (.bastore, 1) := by decide +kernel
theorem d_Md_place_185 : decode b_Md_place 185 = .ok (.aload_n 0, 1) := by decide +kernel
theorem d_Md_place_186 : decode b_Md_place 186 = .ok (.getfield 63, 3) := by decide +kernel
theorem d_Md_place_189 : decode b_Md_place 189 = .ok (.iload_n 2, 1) := by decide +kernel
theorem d_Md_place_190 : decode b_Md_place 190 = .ok (.iconst 0, 1) := by decide +kernel
theorem d_Md_place_191 : decode b_Md_place 191 = .ok (.iastore, 1) := by decide +kernel
theorem d_Md_place_192 : decode b_Md_place 192 = .ok (.iload 4, 2) := by decide +kernel
theorem d_Md_place_194 : decode b_Md_place 194 = .ok (.iconst 2, 1) := by decide +kernel
theorem d_Md_place_195 : decode b_Md_place 195 = .ok (.iadd, 1) := by decide +kernel
theorem d_Md_place_196 : decode b_Md_place 196 = .ok (.bipush 31, 2) := by decide +kernel
theorem d_Md_place_198 : decode b_Md_place 198 = .ok (.iand, 1) := by decide +kernel
theorem d_Md_place_199 : decode b_Md_place 199 = .ok (.istore_n 1, 1) := by decide +kernel
theorem d_Md_place_200 : decode b_Md_place 200 = .ok (.goto 55, 3) := by decide +kernel
theorem d_Md_place_203 : decode b_Md_place 203 = .ok (.aload_n 0, 1) := by decide +kernel
theorem d_Md_place_204 : decode b_Md_place 204 = .ok (.getfield 54, 3) := by decide +kernel
theorem d_Md_place_207 : decode b_Md_place 207 = .ok (.iload_n 2, 1) := by decide +kernel
theorem d_Md_place_208 : decode b_Md_place 208 = .ok (.iaload, 1) := by decide +kernel
theorem d_Md_place_209 : decode b_Md_place 209 = .ok (.istore 5, 2) := by decide +kernel
theorem d_Md_place_211 : decode b_Md_place 211 = .ok (.iload 5, 2) := by decide +kernel
theorem d_Md_place_213 : decode b_Md_place 213 = .ok (.ifCond .lt 27, 3) := by decide +kernel
theorem d_Md_place_216 : decode b_Md_place 216 = .ok (.aload_n 0, 1) := by decide +kernel
theorem d_Md_place_217 : decode b_Md_place 217 = .ok (.getfield 63, 3) := by decide +kernel
theorem d_Md_place_220 : decode b_Md_place 220 = .ok (.iload_n 2, 1) := by decide +kernel
theorem d_Md_place_221 : decode b_Md_place 221 = .ok (.aload_n 0, 1) := by decide +kernel
theorem d_Md_place_222 : decode b_Md_place 222 = .ok (.iload 5, 2) := by decide +kernel
theorem d_Md_place_224 : decode b_Md_place 224 = .ok (.iload 4, 2) := by decide +kernel
theorem d_Md_place_226 : decode b_Md_place 226 = .ok (.iconst 2, 1) := by decide +kernel
theorem d_Md_place_227 : decode b_Md_place 227 = .ok (.iadd, 1) := by decide +kernel
theorem d_Md_place_228 : decode b_Md_place 228 = .ok (.invokevirtual 220, 3) := by decide +kernel
theorem d_Md_place_231 : decode b_Md_place 231 = .ok (.iload 4, 2) := by decide +kernel
theorem d_Md_place_233 : decode b_Md_place 233 = .ok (.isub, 1) := by decide +kernel
theorem d_Md_place_234 : decode b_Md_place 234 = .ok (.iconst 2, 1) := by decide +kernel
theorem d_Md_place_235 : decode b_Md_place 235 = .ok (.isub, 1) := by decide +kernel
theorem d_Md_place_236 : decode b_Md_place 236 = .ok (.bipush 31, 2) := by decide +kernel
theorem d_Md_place_238 : decode b_Md_place 238 = .ok (.iand, 1) := by decide +kernel
theorem d_Md_place_239 : decode b_Md_place 239 = .ok (.iastore, 1) := by decide +kernel
theorem d_Md_place_240 : decode b_Md_place 240 = .ok (.iload 4, 2) := by decide +kernel
theorem d_Md_place_242 : decode b_Md_place 242 = .ok (.iconst 2, 1) := by decide +kernel
theorem d_Md_place_243 : decode b_Md_place 243 = .ok (.iadd, 1) := by decide +kernel
theorem d_Md_place_244 : decode b_Md_place 244 = .ok (.aload_n 0, 1) := by decide +kernel
theorem d_Md_place_245 : decode b_Md_place 245 = .ok (.getfield 63, 3) := by decide +kernel
theorem d_Md_place_248 : decode b_Md_place 248 = .ok (.iload_n 2, 1) := by decide +kernel
theorem d_Md_place_249 : decode b_Md_place 249 = .ok (.iaload, 1) := by decide +kernel
theorem d_Md_place_250 : decode b_Md_place 250 = .ok (.iadd, 1) := by decide +kernel
theorem d_Md_place_251 : decode b_Md_place 251 = .ok (.bipush 31, 2) := by decide +kernel
theorem d_Md_place_253 : decode b_Md_place 253 = .ok (.iand, 1) := by decide +kernel
theorem d_Md_place_254 : decode b_Md_place 254 = .ok (.istore_n 1, 1) := by decide +kernel
theorem d_Md_place_255 : decode b_Md_place 255 = .ok (.iinc 2 1, 3) := by decide +kernel
theorem d_Md_place_258 : decode b_Md_place 258 = .ok (.goto (-191), 3) := by decide +kernel
theorem d_Md_place_261 : decode b_Md_place 261 = .ok (.iconst 1, 1) := by decide +kernel
theorem d_Md_place_262 : decode b_Md_place 262 = .ok (.ireturn, 1) := by decide +kernel
theorem d_Md_variableFrom_0 : decode b_Md_variableFrom 0 = .ok (.iload_n 2, 1) := by decide +kernel
theorem d_Md_variableFrom_1 : decode b_Md_variableFrom 1 = .ok (.bipush 31, 2) := by decide +kernel
theorem d_Md_variableFrom_3 : decode b_Md_variableFrom 3 = .ok (.iand, 1) := by decide +kernel
theorem d_Md_variableFrom_4 : decode b_Md_variableFrom 4 = .ok (.istore_n 3, 1) := by decide +kernel
theorem d_Md_variableFrom_5 : decode b_Md_variableFrom 5 = .ok (.aload_n 0, 1) := by decide +kernel
theorem d_Md_variableFrom_6 : decode b_Md_variableFrom 6 = .ok (.getfield 73, 3) := by decide +kernel
theorem d_Md_variableFrom_9 : decode b_Md_variableFrom 9 = .ok (.iload_n 1, 1) := by decide +kernel
theorem d_Md_variableFrom_10 : decode b_Md_variableFrom 10 = .ok (.iaload, 1) := by decide +kernel
theorem d_Md_variableFrom_11 : decode b_Md_variableFrom 11 = .ok (.ifCond .ge 29, 3) := by decide +kernel
theorem d_Md_variableFrom_14 : decode b_Md_variableFrom 14 = .ok (.aload_n 0, 1) := by decide +kernel
theorem d_Md_variableFrom_15 : decode b_Md_variableFrom 15 = .ok (.getfield 70, 3) := by decide +kernel
theorem d_Md_variableFrom_18 : decode b_Md_variableFrom 18 = .ok (.iload_n 3, 1) := by decide +kernel
theorem d_Md_variableFrom_19 : decode b_Md_variableFrom 19 = .ok (.baload, 1) := by decide +kernel
theorem d_Md_variableFrom_20 : decode b_Md_variableFrom 20 = .ok (.ifCond .ne 10, 3) := by decide +kernel
theorem d_Md_variableFrom_23 : decode b_Md_variableFrom 23 = .ok (.aload_n 0, 1) := by decide +kernel
theorem d_Md_variableFrom_24 : decode b_Md_variableFrom 24 = .ok (.getfield 73, 3) := by decide +kernel
theorem d_Md_variableFrom_27 : decode b_Md_variableFrom 27 = .ok (.iload_n 1, 1) := by decide +kernel
theorem d_Md_variableFrom_28 : decode b_Md_variableFrom 28 = .ok (.iload_n 3, 1) := by decide +kernel
theorem d_Md_variableFrom_29 : decode b_Md_variableFrom 29 = .ok (.iastore, 1) := by decide +kernel
theorem d_Md_variableFrom_30 : decode b_Md_variableFrom 30 = .ok (.iload_n 3, 1) := by decide +kernel
theorem d_Md_variableFrom_31 : decode b_Md_variableFrom 31 = .ok (.iconst 1, 1) := by decide +kernel
theorem d_Md_variableFrom_32 : decode b_Md_variableFrom 32 = .ok (.iadd, 1) := by decide +kernel
theorem d_Md_variableFrom_33 : decode b_Md_variableFrom 33 = .ok (.bipush 31, 2) := by decide +kernel
theorem d_Md_variableFrom_35 : decode b_Md_variableFrom 35 = .ok (.iand, 1) := by decide +kernel
theorem d_Md_variableFrom_36 : decode b_Md_variableFrom 36 = .ok (.istore_n 3, 1) := by decide +kernel
theorem d_Md_variableFrom_37 : decode b_Md_variableFrom 37 = .ok (.goto (-32), 3) := by decide +kernel
theorem d_Md_variableFrom_40 : decode b_Md_variableFrom 40 = .ok (.aload_n 0, 1) := by decide +kernel
theorem d_Md_variableFrom_41 : decode b_Md_variableFrom 41 = .ok (.getfield 70, 3) := by decide +kernel
theorem d_Md_variableFrom_44 : decode b_Md_variableFrom 44 = .ok (.aload_n 0, 1) := by decide +kernel
theorem d_Md_variableFrom_45 : decode b_Md_variableFrom 45 = .ok (.getfield 73, 3) := by decide +kernel
theorem d_Md_variableFrom_48 : decode b_Md_variableFrom 48 = .ok (.iload_n 1, 1) := by decide +kernel
theorem d_Md_variableFrom_49 : decode b_Md_variableFrom 49 = .ok (.iaload, 1) := by decide +kernel
theorem d_Md_variableFrom_50 : decode b_Md_variableFrom 50 = .ok (.iconst 1, 1) := by decide +kernel
theorem d_Md_variableFrom_51 : decode b_Md_variableFrom 51 = .ok (.bastore, 1) := by decide +kernel
theorem d_Md_variableFrom_52 : decode b_Md_variableFrom 52 = .ok (.aload_n 0, 1) := by decide +kernel
theorem d_Md_variableFrom_53 : decode b_Md_variableFrom 53 = .ok (.getfield 73, 3) := by decide +kernel
theorem d_Md_variableFrom_56 : decode b_Md_variableFrom 56 = .ok (.iload_n 1, 1) := by decide +kernel
theorem d_Md_variableFrom_57 : decode b_Md_variableFrom 57 = .ok (.iaload, 1) := by decide +kernel
theorem d_Md_variableFrom_58 : decode b_Md_variableFrom 58 = .ok (.ireturn, 1) := by decide +kernel
theorem d_Md_firstOf_0 : decode b_Md_firstOf 0 = .ok (.iconst 0, 1) := by decide +kernel
theorem d_Md_firstOf_1 : decode b_Md_firstOf 1 = .ok (.istore_n 2, 1) := by decide +kernel
theorem d_Md_firstOf_2 : decode b_Md_firstOf 2 = .ok (.aload_n 0, 1) := by decide +kernel
theorem d_Md_firstOf_3 : decode b_Md_firstOf 3 = .ok (.getfield 57, 3) := by decide +kernel
theorem d_Md_firstOf_6 : decode b_Md_firstOf 6 = .ok (.iload_n 2, 1) := by decide +kernel
theorem d_Md_firstOf_7 : decode b_Md_firstOf 7 = .ok (.iaload, 1) := by decide +kernel
theorem d_Md_firstOf_8 : decode b_Md_firstOf 8 = .ok (.iload_n 1, 1) := by decide +kernel
theorem d_Md_firstOf_9 : decode b_Md_firstOf 9 = .ok (.if_icmp .eq 9, 3) := by decide +kernel
theorem d_Md_firstOf_12 : decode b_Md_firstOf 12 = .ok (.iinc 2 1, 3) := by decide +kernel
theorem d_Md_firstOf_15 : decode b_Md_firstOf 15 = .ok (.goto (-13), 3) := by decide +kernel
theorem d_Md_firstOf_18 : decode b_Md_firstOf 18 = .ok (.iload_n 2, 1) := by decide +kernel
theorem d_Md_firstOf_19 : decode b_Md_firstOf 19 = .ok (.ireturn, 1) := by decide +kernel
theorem d_Md_write_0 : decode b_Md_write 0 = .ok (.aload_n 0, 1) := by decide +kernel
theorem d_Md_write_1 : decode b_Md_write 1 = .ok (.getfield 60, 3) := by decide +kernel
theorem d_Md_write_4 : decode b_Md_write 4 = .ok (.iload_n 1, 1) := by decide +kernel
theorem d_Md_write_5 : decode b_Md_write 5 = .ok (.iaload, 1) := by decide +kernel
theorem d_Md_write_6 : decode b_Md_write 6 = .ok (.istore_n 2, 1) := by decide +kernel
theorem d_Md_write_7 : decode b_Md_write 7 = .ok (.aload_n 0, 1) := by decide +kernel
theorem d_Md_write_8 : decode b_Md_write 8 = .ok (.getfield 48, 3) := by decide +kernel
theorem d_Md_write_11 : decode b_Md_write 11 = .ok (.iload_n 1, 1) := by decide +kernel
theorem d_Md_write_12 : decode b_Md_write 12 = .ok (.iaload, 1) := by decide +kernel
theorem d_Md_write_13 : decode b_Md_write 13 = .ok (.aload_n 0, 1) := by decide +kernel
theorem d_Md_write_14 : decode b_Md_write 14 = .ok (.getfield 51, 3) := by decide +kernel
theorem d_Md_write_17 : decode b_Md_write 17 = .ok (.iload_n 1, 1) := by decide +kernel
theorem d_Md_write_18 : decode b_Md_write 18 = .ok (.iaload, 1) := by decide +kernel
theorem d_Md_write_19 : decode b_Md_write 19 = .ok (.iconst 4, 1) := by decide +kernel
theorem d_Md_write_20 : decode b_Md_write 20 = .ok (.ishl, 1) := by decide +kernel
theorem d_Md_write_21 : decode b_Md_write 21 = .ok (.ior, 1) := by decide +kernel
theorem d_Md_write_22 : decode b_Md_write 22 = .ok (.aload_n 0, 1) := by decide +kernel
theorem d_Md_write_23 : decode b_Md_write 23 = .ok (.getfield 63, 3) := by decide +kernel
theorem d_Md_write_26 : decode b_Md_write 26 = .ok (.iload_n 1, 1) := by decide +kernel
theorem d_Md_write_27 : decode b_Md_write 27 = .ok (.iaload, 1) := by decide +kernel
theorem d_Md_write_28 : decode b_Md_write 28 = .ok (.bipush 10, 2) := by decide +kernel
theorem d_Md_write_30 : decode b_Md_write 30 = .ok (.ishl, 1) := by decide +kernel
theorem d_Md_write_31 : decode b_Md_write 31 = .ok (.ior, 1) := by decide +kernel
theorem d_Md_write_32 : decode b_Md_write 32 = .ok (.istore_n 3, 1) := by decide +kernel
theorem d_Md_write_33 : decode b_Md_write 33 = .ok (.aload_n 0, 1) := by decide +kernel
theorem d_Md_write_34 : decode b_Md_write 34 = .ok (.getfield 48, 3) := by decide +kernel
theorem d_Md_write_37 : decode b_Md_write 37 = .ok (.iload_n 1, 1) := by decide +kernel
theorem d_Md_write_38 : decode b_Md_write 38 = .ok (.iaload, 1) := by decide +kernel
theorem d_Md_write_39 : decode b_Md_write 39 = .ok (.ifCond .ne 16, 3) := by decide +kernel
theorem d_Md_write_42 : decode b_Md_write 42 = .ok (.aload_n 0, 1) := by decide +kernel
theorem d_Md_write_43 : decode b_Md_write 43 = .ok (.getfield 51, 3) := by decide +kernel
theorem d_Md_write_46 : decode b_Md_write 46 = .ok (.iload_n 1, 1) := by decide +kernel
theorem d_Md_write_47 : decode b_Md_write 47 = .ok (.iaload, 1) := by decide +kernel
theorem d_Md_write_48 : decode b_Md_write 48 = .ok (.ifCond .ne 7, 3) := by decide +kernel
theorem d_Md_write_51 : decode b_Md_write 51 = .ok (.iconst 1, 1) := by decide +kernel
theorem d_Md_write_52 : decode b_Md_write 52 = .ok (.goto 4, 3) := by decide +kernel
theorem d_Md_write_55 : decode b_Md_write 55 = .ok (.iconst 0, 1) := by decide +kernel
theorem d_Md_write_56 : decode b_Md_write 56 = .ok (.istore 4, 2) := by decide +kernel
theorem d_Md_write_58 : decode b_Md_write 58 = .ok (.iload 4, 2) := by decide +kernel
theorem d_Md_write_60 : decode b_Md_write 60 = .ok (.ifCond .eq 41, 3) := by decide +kernel
theorem d_Md_write_63 : decode b_Md_write 63 = .ok (.iload_n 1, 1) := by decide +kernel
theorem d_Md_write_64 : decode b_Md_write 64 = .ok (.ifCond .le 37, 3) := by decide +kernel
theorem d_Md_write_67 : decode b_Md_write 67 = .ok (.aload_n 0, 1) := by decide +kernel
theorem d_Md_write_68 : decode b_Md_write 68 = .ok (.getfield 51, 3) := by decide +kernel
theorem d_Md_write_71 : decode b_Md_write 71 = .ok (.iload_n 1, 1) := by decide +kernel
theorem d_Md_write_72 : decode b_Md_write 72 = .ok (.iconst 1, 1) := by decide +kernel
theorem d_Md_write_73 : decode b_Md_write 73 = .ok (.isub, 1) := by decide +kernel
theorem d_Md_write_74 : decode b_Md_write 74 = .ok (.iaload, 1) := by decide +kernel
theorem d_Md_write_75 : decode b_Md_write 75 = .ok (.ifCond .ne 26, 3) := by decide +kernel
theorem d_Md_write_78 : decode b_Md_write 78 = .ok (.aload_n 0, 1) := by decide +kernel
theorem d_Md_write_79 : decode b_Md_write 79 = .ok (.getfield 48, 3) := by decide +kernel
theorem d_Md_write_82 : decode b_Md_write 82 = .ok (.iload_n 1, 1) := by decide +kernel
theorem d_Md_write_83 : decode b_Md_write 83 = .ok (.iconst 1, 1) := by decide +kernel
theorem d_Md_write_84 : decode b_Md_write 84 = .ok (.isub, 1) := by decide +kernel
theorem d_Md_write_85 : decode b_Md_write 85 = .ok (.iaload, 1) := by decide +kernel
theorem d_Md_write_86 : decode b_Md_write 86 = .ok (.ifCond .ne 15, 3) := by decide +kernel
theorem d_Md_write_89 : decode b_Md_write 89 = .ok (.aload_n 0, 1) := by decide +kernel
theorem d_Md_write_90 : decode b_Md_write 90 = .ok (.iload_n 1, 1) := by decide +kernel
theorem d_Md_write_91 : decode b_Md_write 91 = .ok (.invokevirtual 223, 3) := by decide +kernel
theorem d_Md_write_94 : decode b_Md_write 94 = .ok (.ifCond .eq 7, 3) := by decide +kernel
theorem d_Md_write_97 : decode b_Md_write 97 = .ok (.iconst 1, 1) := by decide +kernel
theorem d_Md_write_98 : decode b_Md_write 98 = .ok (.goto 4, 3) := by decide +kernel
theorem d_Md_write_101 : decode b_Md_write 101 = .ok (.iconst 0, 1) := by decide +kernel
theorem d_Md_write_102 : decode b_Md_write 102 = .ok (.istore 5, 2) := by decide +kernel
theorem d_Md_write_104 : decode b_Md_write 104 = .ok (.iload 4, 2) := by decide +kernel
theorem d_Md_write_106 : decode b_Md_write 106 = .ok (.ifCond .eq 42, 3) := by decide +kernel
theorem d_Md_write_109 : decode b_Md_write 109 = .ok (.iload 5, 2) := by decide +kernel
theorem d_Md_write_111 : decode b_Md_write 111 = .ok (.ifCond .eq 26, 3) := by decide +kernel
theorem d_Md_write_114 : decode b_Md_write 114 = .ok (.aload_n 0, 1) := by decide +kernel
theorem d_Md_write_115 : decode b_Md_write 115 = .ok (.getfield 60, 3) := by decide +kernel
theorem d_Md_write_118 : decode b_Md_write 118 = .ok (.aload_n 0, 1) := by decide +kernel
theorem d_Md_write_119 : decode b_Md_write 119 = .ok (.aload_n 0, 1) := by decide +kernel
theorem d_Md_write_120 : decode b_Md_write 120 = .ok (.getfield 45, 3) := by decide +kernel
theorem d_Md_write_123 : decode b_Md_write 123 = .ok (.aload_n 0, 1) := by decide +kernel
theorem d_Md_write_124 : decode b_Md_write 124 = .ok (.getfield 57, 3) := by decide +kernel
theorem d_Md_write_127 : decode b_Md_write 127 = .ok (.iload_n 1, 1) := by decide +kernel
theorem d_Md_write_128 : decode b_Md_write 128 = .ok (.iaload, 1) := by decide +kernel
theorem d_Md_write_129 : decode b_Md_write 129 = .ok (.iaload, 1) := by decide +kernel
theorem d_Md_write_130 : decode b_Md_write 130 = .ok (.invokevirtual 226, 3) := by decide +kernel
theorem d_Md_write_133 : decode b_Md_write 133 = .ok (.iaload, 1) := by decide +kernel
theorem d_Md_write_134 : decode b_Md_write 134 = .ok (.goto 36, 3) := by decide +kernel
theorem d_Md_write_137 : decode b_Md_write 137 = .ok (.aload_n 0, 1) := by decide +kernel
theorem d_Md_write_138 : decode b_Md_write 138 = .ok (.getfield 60, 3) := by decide +kernel
theorem d_Md_write_141 : decode b_Md_write 141 = .ok (.iload_n 1, 1) := by decide +kernel
theorem d_Md_write_142 : decode b_Md_write 142 = .ok (.iconst 2, 1) := by decide +kernel
theorem d_Md_write_143 : decode b_Md_write 143 = .ok (.iadd, 1) := by decide +kernel
theorem d_Md_write_144 : decode b_Md_write 144 = .ok (.iaload, 1) := by decide +kernel
theorem d_Md_write_145 : decode b_Md_write 145 = .ok (.goto 25, 3) := by decide +kernel
theorem d_Md_write_148 : decode b_Md_write 148 = .ok (.iload_n 1, 1) := by decide +kernel
theorem d_Md_write_149 : decode b_Md_write 149 = .ok (.iconst 1, 1) := by decide +kernel
theorem d_Md_write_150 : decode b_Md_write 150 = .ok (.iadd, 1) := by decide +kernel
theorem d_Md_write_151 : decode b_Md_write 151 = .ok (.aload_n 0, 1) := by decide +kernel
theorem d_Md_write_152 : decode b_Md_write 152 = .ok (.getfield 209, 3) := by decide +kernel
theorem d_Md_write_155 : decode b_Md_write 155 = .ok (.if_icmp .ge 14, 3) := by decide +kernel
theorem d_Md_write_158 : decode b_Md_write 158 = .ok (.aload_n 0, 1) := by decide +kernel
theorem d_Md_write_159 : decode b_Md_write 159 = .ok (.getfield 60, 3) := by decide +kernel
theorem d_Md_write_162 : decode b_Md_write 162 = .ok (.iload_n 1, 1) := by decide +kernel
theorem d_Md_write_163 : decode b_Md_write 163 = .ok (.iconst 1, 1) := by decide +kernel
theorem d_Md_write_164 : decode b_Md_write 164 = .ok (.iadd, 1) := by decide +kernel
theorem d_Md_write_165 : decode b_Md_write 165 = .ok (.iaload, 1) := by decide +kernel
theorem d_Md_write_166 : decode b_Md_write 166 = .ok (.goto 4, 3) := by decide +kernel
theorem d_Md_write_169 : decode b_Md_write 169 = .ok (.iconst 0, 1) := by decide +kernel
theorem d_Md_write_170 : decode b_Md_write 170 = .ok (.istore 6, 2) := by decide +kernel
theorem d_Md_write_172 : decode b_Md_write 172 = .ok (.aload_n 0, 1) := by decide +kernel
theorem d_Md_write_173 : decode b_Md_write 173 = .ok (.getfield 51, 3) := by decide +kernel
theorem d_Md_write_176 : decode b_Md_write 176 = .ok (.iload_n 1, 1) := by decide +kernel
theorem d_Md_write_177 : decode b_Md_write 177 = .ok (.iaload, 1) := by decide +kernel
theorem d_Md_write_178 : decode b_Md_write 178 = .ok (.iconst 1, 1) := by decide +kernel
theorem d_Md_write_179 : decode b_Md_write 179 = .ok (.if_icmp .ne 14, 3) := by decide +kernel
theorem d_Md_write_182 : decode b_Md_write 182 = .ok (.aload_n 0, 1) := by decide +kernel
theorem d_Md_write_183 : decode b_Md_write 183 = .ok (.getfield 7, 3) := by decide +kernel
theorem d_Md_write_186 : decode b_Md_write 186 = .ok (.iload_n 2, 1) := by decide +kernel
theorem d_Md_write_187 : decode b_Md_write 187 = .ok (.ldc 229, 2) := by decide +kernel
theorem d_Md_write_189 : decode b_Md_write 189 = .ok (.iastore, 1) := by decide +kernel
theorem d_Md_write_190 : decode b_Md_write 190 = .ok (.goto 31, 3) := by decide +kernel
theorem d_Md_write_193 : decode b_Md_write 193 = .ok (.aload_n 0, 1) := by decide +kernel
theorem d_Md_write_194 : decode b_Md_write 194 = .ok (.getfield 7, 3) := by decide +kernel
theorem d_Md_write_197 : decode b_Md_write 197 = .ok (.iload_n 2, 1) := by decide +kernel
theorem d_Md_write_198 : decode b_Md_write 198 = .ok (.iload_n 3, 1) := by decide +kernel
theorem d_Md_write_199 : decode b_Md_write 199 = .ok (.iload 6, 2) := by decide +kernel
theorem d_Md_write_201 : decode b_Md_write 201 = .ok (.iload_n 2, 1) := by decide +kernel
theorem d_Md_write_202 : decode b_Md_write 202 = .ok (.isub, 1) := by decide +kernel
theorem d_Md_write_203 : decode b_Md_write 203 = .ok (.iconst 2, 1) := by decide +kernel
theorem d_Md_write_204 : decode b_Md_write 204 = .ok (.isub, 1) := by decide +kernel
theorem d_Md_write_205 : decode b_Md_write 205 = .ok (.bipush 31, 2) := by decide +kernel
theorem d_Md_write_207 : decode b_Md_write 207 = .ok (.iand, 1) := by decide +kernel
theorem d_Md_write_208 : decode b_Md_write 208 = .ok (.bipush 15, 2) := by decide +kernel
theorem d_Md_write_210 : decode b_Md_write 210 = .ok (.ishl, 1) := by decide +kernel
theorem d_Md_write_211 : decode b_Md_write 211 = .ok (.ior, 1) := by decide +kernel
theorem d_Md_write_212 : decode b_Md_write 212 = .ok (.iload 6, 2) := by decide +kernel
theorem d_Md_write_214 : decode b_Md_write 214 = .ok (.iconst 5, 1) := by decide +kernel
theorem d_Md_write_215 : decode b_Md_write 215 = .ok (.ishr, 1) := by decide +kernel
theorem d_Md_write_216 : decode b_Md_write 216 = .ok (.bipush 20, 2) := by decide +kernel
theorem d_Md_write_218 : decode b_Md_write 218 = .ok (.ishl, 1) := by decide +kernel
theorem d_Md_write_219 : decode b_Md_write 219 = .ok (.ior, 1) := by decide +kernel
theorem d_Md_write_220 : decode b_Md_write 220 = .ok (.iastore, 1) := by decide +kernel
theorem d_Md_write_221 : decode b_Md_write 221 = .ok (.return_, 1) := by decide +kernel
theorem d_Md_isSecond_0 : decode b_Md_isSecond 0 = .ok (.aload_n 0, 1) := by decide +kernel
theorem d_Md_isSecond_1 : decode b_Md_isSecond 1 = .ok (.getfield 57, 3) := by decide +kernel
theorem d_Md_isSecond_4 : decode b_Md_isSecond 4 = .ok (.iload_n 1, 1) := by decide +kernel
theorem d_Md_isSecond_5 : decode b_Md_isSecond 5 = .ok (.iaload, 1) := by decide +kernel
theorem d_Md_isSecond_6 : decode b_Md_isSecond 6 = .ok (.aload_n 0, 1) := by decide +kernel
theorem d_Md_isSecond_7 : decode b_Md_isSecond 7 = .ok (.getfield 57, 3) := by decide +kernel
theorem d_Md_isSecond_10 : decode b_Md_isSecond 10 = .ok (.iload_n 1, 1) := by decide +kernel
theorem d_Md_isSecond_11 : decode b_Md_isSecond 11 = .ok (.iconst 2, 1) := by decide +kernel
theorem d_Md_isSecond_12 : decode b_Md_isSecond 12 = .ok (.isub, 1) := by decide +kernel
theorem d_Md_isSecond_13 : decode b_Md_isSecond 13 = .ok (.iaload, 1) := by decide +kernel
theorem d_Md_isSecond_14 : decode b_Md_isSecond 14 = .ok (.if_icmp .ne 20, 3) := by decide +kernel
theorem d_Md_isSecond_17 : decode b_Md_isSecond 17 = .ok (.aload_n 0, 1) := by decide +kernel
theorem d_Md_isSecond_18 : decode b_Md_isSecond 18 = .ok (.getfield 51, 3) := by decide +kernel
theorem d_Md_isSecond_21 : decode b_Md_isSecond 21 = .ok (.iload_n 1, 1) := by decide +kernel
theorem d_Md_isSecond_22 : decode b_Md_isSecond 22 = .ok (.iconst 2, 1) := by decide +kernel
theorem d_Md_isSecond_23 : decode b_Md_isSecond 23 = .ok (.isub, 1) := by decide +kernel
theorem d_Md_isSecond_24 : decode b_Md_isSecond 24 = .ok (.iaload, 1) := by decide +kernel
theorem d_Md_isSecond_25 : decode b_Md_isSecond 25 = .ok (.bipush 11, 2) := by decide +kernel
theorem d_Md_isSecond_27 : decode b_Md_isSecond 27 = .ok (.if_icmp .ne 7, 3) := by decide +kernel
theorem d_Md_isSecond_30 : decode b_Md_isSecond 30 = .ok (.iconst 1, 1) := by decide +kernel
theorem d_Md_isSecond_31 : decode b_Md_isSecond 31 = .ok (.goto 4, 3) := by decide +kernel
theorem d_Md_isSecond_34 : decode b_Md_isSecond 34 = .ok (.iconst 0, 1) := by decide +kernel
theorem d_Md_isSecond_35 : decode b_Md_isSecond 35 = .ok (.ireturn, 1) := by decide +kernel
theorem d_Md_assemble_0 : decode b_Md_assemble 0 = .ok (.aload_n 0, 1) := by decide +kernel
theorem d_Md_assemble_1 : decode b_Md_assemble 1 = .ok (.getfield 206, 3) := by decide +kernel
theorem d_Md_assemble_4 : decode b_Md_assemble 4 = .ok (.ifCond .le 14, 3) := by decide +kernel
theorem d_Md_assemble_7 : decode b_Md_assemble 7 = .ok (.aload_n 0, 1) := by decide +kernel
theorem d_Md_assemble_8 : decode b_Md_assemble 8 = .ok (.getfield 97, 3) := by decide +kernel
theorem d_Md_assemble_11 : decode b_Md_assemble 11 = .ok (.ifCond .ne 7, 3) := by decide +kernel
theorem d_Md_assemble_14 : decode b_Md_assemble 14 = .ok (.iconst 1, 1) := by decide +kernel
theorem d_Md_assemble_15 : decode b_Md_assemble 15 = .ok (.goto 4, 3) := by decide +kernel
theorem d_Md_assemble_18 : decode b_Md_assemble 18 = .ok (.iconst 0, 1) := by decide +kernel
theorem d_Md_assemble_19 : decode b_Md_assemble 19 = .ok (.istore_n 1, 1) := by decide +kernel
theorem d_Md_assemble_20 : decode b_Md_assemble 20 = .ok (.iconst 0, 1) := by decide +kernel
theorem d_Md_assemble_21 : decode b_Md_assemble 21 = .ok (.istore_n 2, 1) := by decide +kernel
theorem d_Md_assemble_22 : decode b_Md_assemble 22 = .ok (.iload_n 2, 1) := by decide +kernel
theorem d_Md_assemble_23 : decode b_Md_assemble 23 = .ok (.aload_n 0, 1) := by decide +kernel
theorem d_Md_assemble_24 : decode b_Md_assemble 24 = .ok (.getfield 206, 3) := by decide +kernel
theorem d_Md_assemble_27 : decode b_Md_assemble 27 = .ok (.if_icmp .ge 42, 3) := by decide +kernel
theorem d_Md_assemble_30 : decode b_Md_assemble 30 = .ok (.iload_n 1, 1) := by decide +kernel
theorem d_Md_assemble_31 : decode b_Md_assemble 31 = .ok (.ifCond .eq 30, 3) := by decide +kernel
theorem d_Md_assemble_34 : decode b_Md_assemble 34 = .ok (.aload_n 0, 1) := by decide +kernel
theorem d_Md_assemble_35 : decode b_Md_assemble 35 = .ok (.getfield 33, 3) := by decide +kernel
theorem d_Md_assemble_38 : decode b_Md_assemble 38 = .ok (.iload_n 2, 1) := by decide +kernel
theorem d_Md_assemble_39 : decode b_Md_assemble 39 = .ok (.iaload, 1) := by decide +kernel
theorem d_Md_assemble_40 : decode b_Md_assemble 40 = .ok (.iconst 4, 1) := by decide +kernel
theorem d_Md_assemble_41 : decode b_Md_assemble 41 = .ok (.if_icmp .ne 16, 3) := by decide +kernel
theorem d_Md_assemble_44 : decode b_Md_assemble 44 = .ok (.aload_n 0, 1) := by decide +kernel
theorem d_Md_assemble_45 : decode b_Md_assemble 45 = .ok (.getfield 45, 3) := by decide +kernel
theorem d_Md_assemble_48 : decode b_Md_assemble 48 = .ok (.iload_n 2, 1) := by decide +kernel
theorem d_Md_assemble_49 : decode b_Md_assemble 49 = .ok (.iaload, 1) := by decide +kernel
theorem d_Md_assemble_50 : decode b_Md_assemble 50 = .ok (.aload_n 0, 1) := by decide +kernel
theorem d_Md_assemble_51 : decode b_Md_assemble 51 = .ok (.getfield 206, 3) := by decide +kernel
theorem d_Md_assemble_54 : decode b_Md_assemble 54 = .ok (.if_icmp .ge 7, 3) := by decide +kernel
theorem d_Md_assemble_57 : decode b_Md_assemble 57 = .ok (.iconst 1, 1) := by decide +kernel
theorem d_Md_assemble_58 : decode b_Md_assemble 58 = .ok (.goto 4, 3) := by decide +kernel
theorem d_Md_assemble_61 : decode b_Md_assemble 61 = .ok (.iconst 0, 1) := by decide +kernel
theorem d_Md_assemble_62 : decode b_Md_assemble 62 = .ok (.istore_n 1, 1) := by decide +kernel
theorem d_Md_assemble_63 : decode b_Md_assemble 63 = .ok (.iinc 2 1, 3) := by decide +kernel
theorem d_Md_assemble_66 : decode b_Md_assemble 66 = .ok (.goto (-44), 3) := by decide +kernel
theorem d_Md_assemble_69 : decode b_Md_assemble 69 = .ok (.iload_n 1, 1) := by decide +kernel
theorem d_Md_assemble_70 : decode b_Md_assemble 70 = .ok (.ifCond .ne 5, 3) := by decide +kernel
theorem d_Md_assemble_73 : decode b_Md_assemble 73 = .ok (.iconst (-1), 1) := by decide +kernel
theorem d_Md_assemble_74 : decode b_Md_assemble 74 = .ok (.ireturn, 1) := by decide +kernel
theorem d_Md_assemble_75 : decode b_Md_assemble 75 = .ok (.aload_n 0, 1) := by decide +kernel
theorem d_Md_assemble_76 : decode b_Md_assemble 76 = .ok (.invokevirtual 230, 3) := by decide +kernel
theorem d_Md_assemble_79 : decode b_Md_assemble 79 = .ok (.aload_n 0, 1) := by decide +kernel
theorem d_Md_assemble_80 : decode b_Md_assemble 80 = .ok (.getfield 209, 3) := by decide +kernel
theorem d_Md_assemble_83 : decode b_Md_assemble 83 = .ok (.bipush 64, 2) := by decide +kernel
theorem d_Md_assemble_85 : decode b_Md_assemble 85 = .ok (.if_icmp .gt 10, 3) := by decide +kernel
theorem d_Md_assemble_88 : decode b_Md_assemble 88 = .ok (.aload_n 0, 1) := by decide +kernel
theorem d_Md_assemble_89 : decode b_Md_assemble 89 = .ok (.invokevirtual 233, 3) := by decide +kernel
theorem d_Md_assemble_92 : decode b_Md_assemble 92 = .ok (.ifCond .ne 5, 3) := by decide +kernel
theorem d_Md_assemble_95 : decode b_Md_assemble 95 = .ok (.iconst (-1), 1) := by decide +kernel
theorem d_Md_assemble_96 : decode b_Md_assemble 96 = .ok (.ireturn, 1) := by decide +kernel
theorem d_Md_assemble_97 : decode b_Md_assemble 97 = .ok (.iconst 0, 1) := by decide +kernel
theorem d_Md_assemble_98 : decode b_Md_assemble 98 = .ok (.istore_n 2, 1) := by decide +kernel
theorem d_Md_assemble_99 : decode b_Md_assemble 99 = .ok (.iload_n 2, 1) := by decide +kernel
theorem d_Md_assemble_100 : decode b_Md_assemble 100 = .ok (.bipush 64, 2) := by decide +kernel
theorem d_Md_assemble_102 : decode b_Md_assemble 102 = .ok (.if_icmp .ge 17, 3) := by decide +kernel
theorem d_Md_assemble_105 : decode b_Md_assemble 105 = .ok (.aload_n 0, 1) := by decide +kernel
theorem d_Md_assemble_106 : decode b_Md_assemble 106 = .ok (.getfield 7, 3) := by decide +kernel
theorem d_Md_assemble_109 : decode b_Md_assemble 109 = .ok (.iload_n 2, 1) := by decide +kernel
theorem d_Md_assemble_110 : decode b_Md_assemble 110 = .ok (.ldc 229, 2) := by decide +kernel
theorem d_Md_assemble_112 : decode b_Md_assemble 112 = .ok (.iastore, 1) := by decide +kernel
theorem d_Md_assemble_113 : decode b_Md_assemble 113 = .ok (.iinc 2 1, 3) := by decide +kernel
theorem d_Md_assemble_116 : decode b_Md_assemble 116 = .ok (.goto (-17), 3) := by decide +kernel
theorem d_Md_assemble_119 : decode b_Md_assemble 119 = .ok (.iconst 0, 1) := by decide +kernel
theorem d_Md_assemble_120 : decode b_Md_assemble 120 = .ok (.istore_n 2, 1) := by decide +kernel
theorem d_Md_assemble_121 : decode b_Md_assemble 121 = .ok (.iload_n 2, 1) := by decide +kernel
theorem d_Md_assemble_122 : decode b_Md_assemble 122 = .ok (.aload_n 0, 1) := by decide +kernel
theorem d_Md_assemble_123 : decode b_Md_assemble 123 = .ok (.getfield 209, 3) := by decide +kernel
theorem d_Md_assemble_126 : decode b_Md_assemble 126 = .ok (.if_icmp .ge 14, 3) := by decide +kernel
theorem d_Md_assemble_129 : decode b_Md_assemble 129 = .ok (.aload_n 0, 1) := by decide +kernel
theorem d_Md_assemble_130 : decode b_Md_assemble 130 = .ok (.iload_n 2, 1) := by decide +kernel
theorem d_Md_assemble_131 : decode b_Md_assemble 131 = .ok (.invokevirtual 236, 3) := by decide +kernel
theorem d_Md_assemble_134 : decode b_Md_assemble 134 = .ok (.iinc 2 1, 3) := by decide +kernel
theorem d_Md_assemble_137 : decode b_Md_assemble 137 = .ok (.goto (-16), 3) := by decide +kernel
theorem d_Md_assemble_140 : decode b_Md_assemble 140 = .ok (.aload_n 0, 1) := by decide +kernel
theorem d_Md_assemble_141 : decode b_Md_assemble 141 = .ok (.aload_n 0, 1) := by decide +kernel
theorem d_Md_assemble_142 : decode b_Md_assemble 142 = .ok (.getfield 206, 3) := by decide +kernel
theorem d_Md_assemble_145 : decode b_Md_assemble 145 = .ok (.putfield 239, 3) := by decide +kernel
theorem d_Md_assemble_148 : decode b_Md_assemble 148 = .ok (.iconst 0, 1) := by decide +kernel
theorem d_Md_assemble_149 : decode b_Md_assemble 149 = .ok (.istore_n 2, 1) := by decide +kernel
theorem d_Md_assemble_150 : decode b_Md_assemble 150 = .ok (.iload_n 2, 1) := by decide +kernel
theorem d_Md_assemble_151 : decode b_Md_assemble 151 = .ok (.aload_n 0, 1) := by decide +kernel
theorem d_Md_assemble_152 : decode b_Md_assemble 152 = .ok (.getfield 206, 3) := by decide +kernel
theorem d_Md_assemble_155 : decode b_Md_assemble 155 = .ok (.if_icmp .ge 25, 3) := by decide +kernel
theorem d_Md_assemble_158 : decode b_Md_assemble 158 = .ok (.aload_n 0, 1) := by decide +kernel
theorem d_Md_assemble_159 : decode b_Md_assemble 159 = .ok (.getfield 76, 3) := by decide +kernel
theorem d_Md_assemble_162 : decode b_Md_assemble 162 = .ok (.iload_n 2, 1) := by decide +kernel
theorem d_Md_assemble_163 : decode b_Md_assemble 163 = .ok (.aload_n 0, 1) := by decide +kernel
theorem d_Md_assemble_164 : decode b_Md_assemble 164 = .ok (.getfield 60, 3) := by decide +kernel
theorem d_Md_assemble_167 : decode b_Md_assemble 167 = .ok (.aload_n 0, 1) := by decide +kernel
theorem d_Md_assemble_168 : decode b_Md_assemble 168 = .ok (.iload_n 2, 1) := by decide +kernel
theorem d_Md_assemble_169 : decode b_Md_assemble 169 = .ok (.invokevirtual 226, 3) := by decide +kernel
theorem d_Md_assemble_172 : decode b_Md_assemble 172 = .ok (.iaload, 1) := by decide +kernel
theorem d_Md_assemble_173 : decode b_Md_assemble 173 = .ok (.iastore, 1) := by decide +kernel
theorem d_Md_assemble_174 : decode b_Md_assemble 174 = .ok (.iinc 2 1, 3) := by decide +kernel
theorem d_Md_assemble_177 : decode b_Md_assemble 177 = .ok (.goto (-27), 3) := by decide +kernel
theorem d_Md_assemble_180 : decode b_Md_assemble 180 = .ok (.iconst 0, 1) := by decide +kernel
theorem d_Md_assemble_181 : decode b_Md_assemble 181 = .ok (.istore_n 2, 1) := by decide +kernel
theorem d_Md_assemble_182 : decode b_Md_assemble 182 = .ok (.iload_n 2, 1) := by decide +kernel
theorem d_Md_assemble_183 : decode b_Md_assemble 183 = .ok (.bipush 16, 2) := by decide +kernel
theorem d_Md_assemble_185 : decode b_Md_assemble 185 = .ok (.if_icmp .ge 21, 3) := by decide +kernel
theorem d_Md_assemble_188 : decode b_Md_assemble 188 = .ok (.aload_n 0, 1) := by decide +kernel
theorem d_Md_assemble_189 : decode b_Md_assemble 189 = .ok (.getfield 79, 3) := by decide +kernel
theorem d_Md_assemble_192 : decode b_Md_assemble 192 = .ok (.iload_n 2, 1) := by decide +kernel
theorem d_Md_assemble_193 : decode b_Md_assemble 193 = .ok (.aload_n 0, 1) := by decide +kernel
theorem d_Md_assemble_194 : decode b_Md_assemble 194 = .ok (.getfield 73, 3) := by decide +kernel
theorem d_Md_assemble_197 : decode b_Md_assemble 197 = .ok (.iload_n 2, 1) := by decide +kernel
theorem d_Md_assemble_198 : decode b_Md_assemble 198 = .ok (.iaload, 1) := by decide +kernel
theorem d_Md_assemble_199 : decode b_Md_assemble 199 = .ok (.iastore, 1) := by decide +kernel
theorem d_Md_assemble_200 : decode b_Md_assemble 200 = .ok (.iinc 2 1, 3) := by decide +kernel
theorem d_Md_assemble_203 : decode b_Md_assemble 203 = .ok (.goto (-21), 3) := by decide +kernel
theorem d_Md_assemble_206 : decode b_Md_assemble 206 = .ok (.aload_n 0, 1) := by decide +kernel
theorem d_Md_assemble_207 : decode b_Md_assemble 207 = .ok (.getfield 209, 3) := by decide +kernel
theorem d_Md_assemble_210 : decode b_Md_assemble 210 = .ok (.ireturn, 1) := by decide +kernel
theorem d_Md_placed_0 : decode b_Md_placed 0 = .ok (.iload_n 1, 1) := by decide +kernel
theorem d_Md_placed_1 : decode b_Md_placed 1 = .ok (.ifCond .lt 11, 3) := by decide +kernel
theorem d_Md_placed_4 : decode b_Md_placed 4 = .ok (.iload_n 1, 1) := by decide +kernel
theorem d_Md_placed_5 : decode b_Md_placed 5 = .ok (.aload_n 0, 1) := by decide +kernel
theorem d_Md_placed_6 : decode b_Md_placed 6 = .ok (.getfield 239, 3) := by decide +kernel
theorem d_Md_placed_9 : decode b_Md_placed 9 = .ok (.if_icmp .lt 7, 3) := by decide +kernel
theorem d_Md_placed_12 : decode b_Md_placed 12 = .ok (.iconst (-1), 1) := by decide +kernel
theorem d_Md_placed_13 : decode b_Md_placed 13 = .ok (.goto 9, 3) := by decide +kernel
theorem d_Md_placed_16 : decode b_Md_placed 16 = .ok (.aload_n 0, 1) := by decide +kernel
theorem d_Md_placed_17 : decode b_Md_placed 17 = .ok (.getfield 76, 3) := by decide +kernel
theorem d_Md_placed_20 : decode b_Md_placed 20 = .ok (.iload_n 1, 1) := by decide +kernel
theorem d_Md_placed_21 : decode b_Md_placed 21 = .ok (.iaload, 1) := by decide +kernel
theorem d_Md_placed_22 : decode b_Md_placed 22 = .ok (.ireturn, 1) := by decide +kernel
theorem d_Md_variable_0 : decode b_Md_variable 0 = .ok (.iload_n 1, 1) := by decide +kernel
theorem d_Md_variable_1 : decode b_Md_variable 1 = .ok (.ifCond .lt 9, 3) := by decide +kernel
theorem d_Md_variable_4 : decode b_Md_variable 4 = .ok (.iload_n 1, 1) := by decide +kernel
theorem d_Md_variable_5 : decode b_Md_variable 5 = .ok (.bipush 15, 2) := by decide +kernel
theorem d_Md_variable_7 : decode b_Md_variable 7 = .ok (.if_icmp .le 7, 3) := by decide +kernel
theorem d_Md_variable_10 : decode b_Md_variable 10 = .ok (.iconst (-1), 1) := by decide +kernel
theorem d_Md_variable_11 : decode b_Md_variable 11 = .ok (.goto 9, 3) := by decide +kernel
theorem d_Md_variable_14 : decode b_Md_variable 14 = .ok (.aload_n 0, 1) := by decide +kernel
theorem d_Md_variable_15 : decode b_Md_variable 15 = .ok (.getfield 79, 3) := by decide +kernel
theorem d_Md_variable_18 : decode b_Md_variable 18 = .ok (.iload_n 1, 1) := by decide +kernel
theorem d_Md_variable_19 : decode b_Md_variable 19 = .ok (.iaload, 1) := by decide +kernel
theorem d_Md_variable_20 : decode b_Md_variable 20 = .ok (.ireturn, 1) := by decide +kernel
theorem d_Mc_init_0 : decode b_Mc_init 0 = .ok (.aload_n 0, 1) := by decide +kernel
theorem d_Mc_init_1 : decode b_Mc_init 1 = .ok (.invokespecial 3, 3) := by decide +kernel
theorem d_Mc_init_4 : decode b_Mc_init 4 = .ok (.aload_n 0, 1) := by decide +kernel
theorem d_Mc_init_5 : decode b_Mc_init 5 = .ok (.aload_n 1, 1) := by decide +kernel
theorem d_Mc_init_6 : decode b_Mc_init 6 = .ok (.putfield 9, 3) := by decide +kernel
theorem d_Mc_init_9 : decode b_Mc_init 9 = .ok (.aload_n 0, 1) := by decide +kernel
theorem d_Mc_init_10 : decode b_Mc_init 10 = .ok (.aload_n 2, 1) := by decide +kernel
theorem d_Mc_init_11 : decode b_Mc_init 11 = .ok (.putfield 15, 3) := by decide +kernel
theorem d_Mc_init_14 : decode b_Mc_init 14 = .ok (.aload_n 0, 1) := by decide +kernel
theorem d_Mc_init_15 : decode b_Mc_init 15 = .ok (.aload_n 3, 1) := by decide +kernel
theorem d_Mc_init_16 : decode b_Mc_init 16 = .ok (.putfield 19, 3) := by decide +kernel
theorem d_Mc_init_19 : decode b_Mc_init 19 = .ok (.aload_n 0, 1) := by decide +kernel
theorem d_Mc_init_20 : decode b_Mc_init 20 = .ok (.new 23, 3) := by decide +kernel
theorem d_Mc_init_23 : decode b_Mc_init 23 = .ok (.dup, 1) := by decide +kernel
theorem d_Mc_init_24 : decode b_Mc_init 24 = .ok (.invokespecial 25, 3) := by decide +kernel
theorem d_Mc_init_27 : decode b_Mc_init 27 = .ok (.putfield 26, 3) := by decide +kernel
theorem d_Mc_init_30 : decode b_Mc_init 30 = .ok (.aload_n 0, 1) := by decide +kernel
theorem d_Mc_init_31 : decode b_Mc_init 31 = .ok (.new 30, 3) := by decide +kernel
theorem d_Mc_init_34 : decode b_Mc_init 34 = .ok (.dup, 1) := by decide +kernel
theorem d_Mc_init_35 : decode b_Mc_init 35 = .ok (.invokespecial 32, 3) := by decide +kernel
theorem d_Mc_init_38 : decode b_Mc_init 38 = .ok (.putfield 33, 3) := by decide +kernel
theorem d_Mc_init_41 : decode b_Mc_init 41 = .ok (.aload_n 0, 1) := by decide +kernel
theorem d_Mc_init_42 : decode b_Mc_init 42 = .ok (.new 30, 3) := by decide +kernel
theorem d_Mc_init_45 : decode b_Mc_init 45 = .ok (.dup, 1) := by decide +kernel
theorem d_Mc_init_46 : decode b_Mc_init 46 = .ok (.invokespecial 32, 3) := by decide +kernel
theorem d_Mc_init_49 : decode b_Mc_init 49 = .ok (.putfield 37, 3) := by decide +kernel
theorem d_Mc_init_52 : decode b_Mc_init 52 = .ok (.aload_n 0, 1) := by decide +kernel
theorem d_Mc_init_53 : decode b_Mc_init 53 = .ok (.iconst (-1), 1) := by decide +kernel
theorem d_Mc_init_54 : decode b_Mc_init 54 = .ok (.putfield 40, 3) := by decide +kernel
theorem d_Mc_init_57 : decode b_Mc_init 57 = .ok (.aload_n 0, 1) := by decide +kernel
theorem d_Mc_init_58 : decode b_Mc_init 58 = .ok (.iconst (-1), 1) := by decide +kernel
theorem d_Mc_init_59 : decode b_Mc_init 59 = .ok (.putfield 44, 3) := by decide +kernel
theorem d_Mc_init_62 : decode b_Mc_init 62 = .ok (.return_, 1) := by decide +kernel
theorem d_Mc_begin_0 : decode b_Mc_begin 0 = .ok (.aload_n 0, 1) := by decide +kernel
theorem d_Mc_begin_1 : decode b_Mc_begin 1 = .ok (.iconst 1, 1) := by decide +kernel
theorem d_Mc_begin_2 : decode b_Mc_begin 2 = .ok (.putfield 47, 3) := by decide +kernel
theorem d_Mc_begin_5 : decode b_Mc_begin 5 = .ok (.aload_n 0, 1) := by decide +kernel
theorem d_Mc_begin_6 : decode b_Mc_begin 6 = .ok (.iconst 0, 1) := by decide +kernel
theorem d_Mc_begin_7 : decode b_Mc_begin 7 = .ok (.putfield 51, 3) := by decide +kernel
theorem d_Mc_begin_10 : decode b_Mc_begin 10 = .ok (.aload_n 0, 1) := by decide +kernel
theorem d_Mc_begin_11 : decode b_Mc_begin 11 = .ok (.iload_n 1, 1) := by decide +kernel
theorem d_Mc_begin_12 : decode b_Mc_begin 12 = .ok (.putfield 54, 3) := by decide +kernel
theorem d_Mc_begin_15 : decode b_Mc_begin 15 = .ok (.aload_n 0, 1) := by decide +kernel
theorem d_Mc_begin_16 : decode b_Mc_begin 16 = .ok (.aload_n 0, 1) := by decide +kernel
theorem d_Mc_begin_17 : decode b_Mc_begin 17 = .ok (.getfield 57, 3) := by decide +kernel
theorem d_Mc_begin_20 : decode b_Mc_begin 20 = .ok (.iload_n 2, 1) := by decide +kernel
theorem d_Mc_begin_21 : decode b_Mc_begin 21 = .ok (.aload_n 0, 1) := by decide +kernel
theorem d_Mc_begin_22 : decode b_Mc_begin 22 = .ok (.getfield 57, 3) := by decide +kernel
theorem d_Mc_begin_25 : decode b_Mc_begin 25 = .ok (.isub, 1) := by decide +kernel
theorem d_Mc_begin_26 : decode b_Mc_begin 26 = .ok (.bipush 31, 2) := by decide +kernel
theorem d_Mc_begin_28 : decode b_Mc_begin 28 = .ok (.iand, 1) := by decide +kernel
theorem d_Mc_begin_29 : decode b_Mc_begin 29 = .ok (.iadd, 1) := by decide +kernel
theorem d_Mc_begin_30 : decode b_Mc_begin 30 = .ok (.putfield 60, 3) := by decide +kernel
theorem d_Mc_begin_33 : decode b_Mc_begin 33 = .ok (.aload_n 0, 1) := by decide +kernel
theorem d_Mc_begin_34 : decode b_Mc_begin 34 = .ok (.iconst (-1), 1) := by decide +kernel
theorem d_Mc_begin_35 : decode b_Mc_begin 35 = .ok (.putfield 40, 3) := by decide +kernel
theorem d_Mc_begin_38 : decode b_Mc_begin 38 = .ok (.aload_n 0, 1) := by decide +kernel
theorem d_Mc_begin_39 : decode b_Mc_begin 39 = .ok (.iconst (-1), 1) := by decide +kernel
theorem d_Mc_begin_40 : decode b_Mc_begin 40 = .ok (.putfield 44, 3) := by decide +kernel
theorem d_Mc_begin_43 : decode b_Mc_begin 43 = .ok (.aload_n 0, 1) := by decide +kernel
theorem d_Mc_begin_44 : decode b_Mc_begin 44 = .ok (.iconst 0, 1) := by decide +kernel
theorem d_Mc_begin_45 : decode b_Mc_begin 45 = .ok (.putfield 63, 3) := by decide +kernel
theorem d_Mc_begin_48 : decode b_Mc_begin 48 = .ok (.aload_n 0, 1) := by decide +kernel
theorem d_Mc_begin_49 : decode b_Mc_begin 49 = .ok (.getfield 33, 3) := by decide +kernel
theorem d_Mc_begin_52 : decode b_Mc_begin 52 = .ok (.invokevirtual 66, 3) := by decide +kernel
theorem d_Mc_begin_55 : decode b_Mc_begin 55 = .ok (.aload_n 0, 1) := by decide +kernel
theorem d_Mc_begin_56 : decode b_Mc_begin 56 = .ok (.getfield 37, 3) := by decide +kernel
theorem d_Mc_begin_59 : decode b_Mc_begin 59 = .ok (.invokevirtual 66, 3) := by decide +kernel
theorem d_Mc_begin_62 : decode b_Mc_begin 62 = .ok (.aload_n 0, 1) := by decide +kernel
theorem d_Mc_begin_63 : decode b_Mc_begin 63 = .ok (.getfield 26, 3) := by decide +kernel
theorem d_Mc_begin_66 : decode b_Mc_begin 66 = .ok (.invokevirtual 69, 3) := by decide +kernel
theorem d_Mc_begin_69 : decode b_Mc_begin 69 = .ok (.aload_n 0, 1) := by decide +kernel
theorem d_Mc_begin_70 : decode b_Mc_begin 70 = .ok (.getfield 15, 3) := by decide +kernel
theorem d_Mc_begin_73 : decode b_Mc_begin 73 = .ok (.invokevirtual 72, 3) := by decide +kernel
theorem d_Mc_begin_76 : decode b_Mc_begin 76 = .ok (.return_, 1) := by decide +kernel
theorem d_Mc_goThroughCycle_0 : decode b_Mc_goThroughCycle 0 = .ok (.aload_n 0, 1) := by decide +kernel
theorem d_Mc_goThroughCycle_1 : decode b_Mc_goThroughCycle 1 = .ok (.getfield 57, 3) := by decide +kernel
theorem d_Mc_goThroughCycle_4 : decode b_Mc_goThroughCycle 4 = .ok (.aload_n 0, 1) := by decide +kernel
theorem d_Mc_goThroughCycle_5 : decode b_Mc_goThroughCycle 5 = .ok (.getfield 60, 3) := by decide +kernel
theorem d_Mc_goThroughCycle_8 : decode b_Mc_goThroughCycle 8 = .ok (.if_icmp .ne 7, 3) := by decide +kernel
theorem d_Mc_goThroughCycle_11 : decode b_Mc_goThroughCycle 11 = .ok (.aload_n 0, 1) := by decide +kernel
theorem d_Mc_goThroughCycle_12 : decode b_Mc_goThroughCycle 12 = .ok (.invokevirtual 75, 3) := by decide +kernel
theorem d_Mc_goThroughCycle_15 : decode b_Mc_goThroughCycle 15 = .ok (.aload_n 0, 1) := by decide +kernel
theorem d_Mc_goThroughCycle_16 : decode b_Mc_goThroughCycle 16 = .ok (.getfield 37, 3) := by decide +kernel
theorem d_Mc_goThroughCycle_19 : decode b_Mc_goThroughCycle 19 = .ok (.aload_n 0, 1) := by decide +kernel
theorem d_Mc_goThroughCycle_20 : decode b_Mc_goThroughCycle 20 = .ok (.getfield 57, 3) := by decide +kernel
theorem d_Mc_goThroughCycle_23 : decode b_Mc_goThroughCycle 23 = .ok (.invokevirtual 78, 3) := by decide +kernel
theorem d_Mc_goThroughCycle_26 : decode b_Mc_goThroughCycle 26 = .ok (.ifCond .eq 14, 3) := by decide +kernel
theorem d_Mc_goThroughCycle_29 : decode b_Mc_goThroughCycle 29 = .ok (.aload_n 0, 1) := by decide +kernel
theorem d_Mc_goThroughCycle_30 : decode b_Mc_goThroughCycle 30 = .ok (.aload_n 0, 1) := by decide +kernel
theorem d_Mc_goThroughCycle_31 : decode b_Mc_goThroughCycle 31 = .ok (.getfield 37, 3) := by decide +kernel
theorem d_Mc_goThroughCycle_34 : decode b_Mc_goThroughCycle 34 = .ok (.invokevirtual 82, 3) := by decide +kernel
theorem d_Mc_goThroughCycle_37 : decode b_Mc_goThroughCycle 37 = .ok (.goto 25, 3) := by decide +kernel
theorem d_Mc_goThroughCycle_40 : decode b_Mc_goThroughCycle 40 = .ok (.aload_n 0, 1) := by decide +kernel
theorem d_Mc_goThroughCycle_41 : decode b_Mc_goThroughCycle 41 = .ok (.getfield 33, 3) := by decide +kernel
theorem d_Mc_goThroughCycle_44 : decode b_Mc_goThroughCycle 44 = .ok (.aload_n 0, 1) := by decide +kernel
theorem d_Mc_goThroughCycle_45 : decode b_Mc_goThroughCycle 45 = .ok (.getfield 57, 3) := by decide +kernel
theorem d_Mc_goThroughCycle_48 : decode b_Mc_goThroughCycle 48 = .ok (.invokevirtual 78, 3) := by decide +kernel
theorem d_Mc_goThroughCycle_51 : decode b_Mc_goThroughCycle 51 = .ok (.ifCond .eq 11, 3) := by decide +kernel
theorem d_Mc_goThroughCycle_54 : decode b_Mc_goThroughCycle 54 = .ok (.aload_n 0, 1) := by decide +kernel
theorem d_Mc_goThroughCycle_55 : decode b_Mc_goThroughCycle 55 = .ok (.aload_n 0, 1) := by decide +kernel
theorem d_Mc_goThroughCycle_56 : decode b_Mc_goThroughCycle 56 = .ok (.getfield 33, 3) := by decide +kernel
theorem d_Mc_goThroughCycle_59 : decode b_Mc_goThroughCycle 59 = .ok (.invokevirtual 82, 3) := by decide +kernel
theorem d_Mc_goThroughCycle_62 : decode b_Mc_goThroughCycle 62 = .ok (.aload_n 0, 1) := by decide +kernel
theorem d_Mc_goThroughCycle_63 : decode b_Mc_goThroughCycle 63 = .ok (.getfield 26, 3) := by decide +kernel
theorem d_Mc_goThroughCycle_66 : decode b_Mc_goThroughCycle 66 = .ok (.aload_n 0, 1) := by decide +kernel
theorem d_Mc_goThroughCycle_67 : decode b_Mc_goThroughCycle 67 = .ok (.getfield 9, 3) := by decide +kernel
theorem d_Mc_goThroughCycle_70 : decode b_Mc_goThroughCycle 70 = .ok (.invokevirtual 86, 3) := by decide +kernel
theorem d_Mc_goThroughCycle_73 : decode b_Mc_goThroughCycle 73 = .ok (.aload_n 0, 1) := by decide +kernel
theorem d_Mc_goThroughCycle_74 : decode b_Mc_goThroughCycle 74 = .ok (.getfield 15, 3) := by decide +kernel
theorem d_Mc_goThroughCycle_77 : decode b_Mc_goThroughCycle 77 = .ok (.aload_n 0, 1) := by decide +kernel
theorem d_Mc_goThroughCycle_78 : decode b_Mc_goThroughCycle 78 = .ok (.getfield 57, 3) := by decide +kernel
theorem d_Mc_goThroughCycle_81 : decode b_Mc_goThroughCycle 81 = .ok (.invokevirtual 90, 3) := by decide +kernel
theorem d_Mc_goThroughCycle_84 : decode b_Mc_goThroughCycle 84 = .ok (.ifCond .eq 8, 3) := by decide +kernel
theorem d_Mc_goThroughCycle_87 : decode b_Mc_goThroughCycle 87 = .ok (.aload_n 0, 1) := by decide +kernel
theorem d_Mc_goThroughCycle_88 : decode b_Mc_goThroughCycle 88 = .ok (.iconst 1, 1) := by decide +kernel
theorem d_Mc_goThroughCycle_89 : decode b_Mc_goThroughCycle 89 = .ok (.invokevirtual 92, 3) := by decide +kernel
theorem d_Mc_goThroughCycle_92 : decode b_Mc_goThroughCycle 92 = .ok (.aload_n 0, 1) := by decide +kernel
theorem d_Mc_goThroughCycle_93 : decode b_Mc_goThroughCycle 93 = .ok (.dup, 1) := by decide +kernel
theorem d_Mc_goThroughCycle_94 : decode b_Mc_goThroughCycle 94 = .ok (.getfield 57, 3) := by decide +kernel
theorem d_Mc_goThroughCycle_97 : decode b_Mc_goThroughCycle 97 = .ok (.iconst 1, 1) := by decide +kernel
theorem d_Mc_goThroughCycle_98 : decode b_Mc_goThroughCycle 98 = .ok (.iadd, 1) := by decide +kernel
theorem d_Mc_goThroughCycle_99 : decode b_Mc_goThroughCycle 99 = .ok (.putfield 57, 3) := by decide +kernel
theorem d_Mc_goThroughCycle_102 : decode b_Mc_goThroughCycle 102 = .ok (.return_, 1) := by decide +kernel
theorem d_Mc_takeOrder_0 : decode b_Mc_takeOrder 0 = .ok (.aload_n 0, 1) := by decide +kernel
theorem d_Mc_takeOrder_1 : decode b_Mc_takeOrder 1 = .ok (.aload_n 0, 1) := by decide +kernel
theorem d_Mc_takeOrder_2 : decode b_Mc_takeOrder 2 = .ok (.getfield 54, 3) := by decide +kernel
theorem d_Mc_takeOrder_5 : decode b_Mc_takeOrder 5 = .ok (.putfield 40, 3) := by decide +kernel
theorem d_Mc_takeOrder_8 : decode b_Mc_takeOrder 8 = .ok (.aload_n 0, 1) := by decide +kernel
theorem d_Mc_takeOrder_9 : decode b_Mc_takeOrder 9 = .ok (.aload_n 0, 1) := by decide +kernel
theorem d_Mc_takeOrder_10 : decode b_Mc_takeOrder 10 = .ok (.getfield 57, 3) := by decide +kernel
theorem d_Mc_takeOrder_13 : decode b_Mc_takeOrder 13 = .ok (.bipush 31, 2) := by decide +kernel
theorem d_Mc_takeOrder_15 : decode b_Mc_takeOrder 15 = .ok (.iand, 1) := by decide +kernel
theorem d_Mc_takeOrder_16 : decode b_Mc_takeOrder 16 = .ok (.putfield 44, 3) := by decide +kernel
theorem d_Mc_takeOrder_19 : decode b_Mc_takeOrder 19 = .ok (.aload_n 0, 1) := by decide +kernel
theorem d_Mc_takeOrder_20 : decode b_Mc_takeOrder 20 = .ok (.dup, 1) := by decide +kernel
theorem d_Mc_takeOrder_21 : decode b_Mc_takeOrder 21 = .ok (.getfield 63, 3) := by decide +kernel
theorem d_Mc_takeOrder_24 : decode b_Mc_takeOrder 24 = .ok (.iconst 1, 1) := by decide +kernel
theorem d_Mc_takeOrder_25 : decode b_Mc_takeOrder 25 = .ok (.iadd, 1) := by decide +kernel
theorem d_Mc_takeOrder_26 : decode b_Mc_takeOrder 26 = .ok (.putfield 63, 3) := by decide +kernel
theorem d_Mc_takeOrder_29 : decode b_Mc_takeOrder 29 = .ok (.aload_n 0, 1) := by decide +kernel
theorem d_Mc_takeOrder_30 : decode b_Mc_takeOrder 30 = .ok (.getfield 9, 3) := by decide +kernel
theorem d_Mc_takeOrder_33 : decode b_Mc_takeOrder 33 = .ok (.getfield 96, 3) := by decide +kernel
theorem d_Mc_takeOrder_36 : decode b_Mc_takeOrder 36 = .ok (.aload_n 0, 1) := by decide +kernel
theorem d_Mc_takeOrder_37 : decode b_Mc_takeOrder 37 = .ok (.getfield 40, 3) := by decide +kernel
theorem d_Mc_takeOrder_40 : decode b_Mc_takeOrder 40 = .ok (.bipush 32, 2) := by decide +kernel
theorem d_Mc_takeOrder_42 : decode b_Mc_takeOrder 42 = .ok (.imul, 1) := by decide +kernel
theorem d_Mc_takeOrder_43 : decode b_Mc_takeOrder 43 = .ok (.aload_n 0, 1) := by decide +kernel
theorem d_Mc_takeOrder_44 : decode b_Mc_takeOrder 44 = .ok (.getfield 44, 3) := by decide +kernel
theorem d_Mc_takeOrder_47 : decode b_Mc_takeOrder 47 = .ok (.iadd, 1) := by decide +kernel
theorem d_Mc_takeOrder_48 : decode b_Mc_takeOrder 48 = .ok (.iaload, 1) := by decide +kernel
theorem d_Mc_takeOrder_49 : decode b_Mc_takeOrder 49 = .ok (.istore_n 1, 1) := by decide +kernel
theorem d_Mc_takeOrder_50 : decode b_Mc_takeOrder 50 = .ok (.aload_n 0, 1) := by decide +kernel
theorem d_Mc_takeOrder_51 : decode b_Mc_takeOrder 51 = .ok (.getfield 37, 3) := by decide +kernel
theorem d_Mc_takeOrder_54 : decode b_Mc_takeOrder 54 = .ok (.astore_n 2, 1) := by decide +kernel
theorem d_Mc_takeOrder_55 : decode b_Mc_takeOrder 55 = .ok (.aload_n 0, 1) := by decide +kernel
theorem d_Mc_takeOrder_56 : decode b_Mc_takeOrder 56 = .ok (.aload_n 0, 1) := by decide +kernel
theorem d_Mc_takeOrder_57 : decode b_Mc_takeOrder 57 = .ok (.getfield 33, 3) := by decide +kernel
theorem d_Mc_takeOrder_60 : decode b_Mc_takeOrder 60 = .ok (.putfield 37, 3) := by decide +kernel
theorem d_Mc_takeOrder_63 : decode b_Mc_takeOrder 63 = .ok (.aload_n 0, 1) := by decide +kernel
theorem d_Mc_takeOrder_64 : decode b_Mc_takeOrder 64 = .ok (.aload_n 2, 1) := by decide +kernel
theorem d_Mc_takeOrder_65 : decode b_Mc_takeOrder 65 = .ok (.putfield 33, 3) := by decide +kernel
theorem d_Mc_takeOrder_68 : decode b_Mc_takeOrder 68 = .ok (.aload_n 0, 1) := by decide +kernel
theorem d_Mc_takeOrder_69 : decode b_Mc_takeOrder 69 = .ok (.getfield 33, 3) := by decide +kernel
theorem d_Mc_takeOrder_72 : decode b_Mc_takeOrder 72 = .ok (.iload_n 1, 1) := by decide +kernel
theorem d_Mc_takeOrder_73 : decode b_Mc_takeOrder 73 = .ok (.aload_n 0, 1) := by decide +kernel
theorem d_Mc_takeOrder_74 : decode b_Mc_takeOrder 74 = .ok (.getfield 57, 3) := by decide +kernel
theorem d_Mc_takeOrder_77 : decode b_Mc_takeOrder 77 = .ok (.invokevirtual 102, 3) := by decide +kernel
theorem d_Mc_takeOrder_80 : decode b_Mc_takeOrder 80 = .ok (.aload_n 0, 1) := by decide +kernel
theorem d_Mc_takeOrder_81 : decode b_Mc_takeOrder 81 = .ok (.iload_n 1, 1) := by decide +kernel
theorem d_Mc_takeOrder_82 : decode b_Mc_takeOrder 82 = .ok (.bipush 20, 2) := by decide +kernel
theorem d_Mc_takeOrder_84 : decode b_Mc_takeOrder 84 = .ok (.ishr, 1) := by decide +kernel
theorem d_Mc_takeOrder_85 : decode b_Mc_takeOrder 85 = .ok (.iconst 1, 1) := by decide +kernel
theorem d_Mc_takeOrder_86 : decode b_Mc_takeOrder 86 = .ok (.iand, 1) := by decide +kernel
theorem d_Mc_takeOrder_87 : decode b_Mc_takeOrder 87 = .ok (.putfield 54, 3) := by decide +kernel
theorem d_Mc_takeOrder_90 : decode b_Mc_takeOrder 90 = .ok (.aload_n 0, 1) := by decide +kernel
theorem d_Mc_takeOrder_91 : decode b_Mc_takeOrder 91 = .ok (.aload_n 0, 1) := by decide +kernel
theorem d_Mc_takeOrder_92 : decode b_Mc_takeOrder 92 = .ok (.getfield 33, 3) := by decide +kernel
theorem d_Mc_takeOrder_95 : decode b_Mc_takeOrder 95 = .ok (.getfield 106, 3) := by decide +kernel
theorem d_Mc_takeOrder_98 : decode b_Mc_takeOrder 98 = .ok (.putfield 60, 3) := by decide +kernel
theorem d_Mc_takeOrder_101 : decode b_Mc_takeOrder 101 = .ok (.return_, 1) := by decide +kernel
theorem d_Mc_stopBy_0 : decode b_Mc_stopBy 0 = .ok (.aload_n 0, 1) := by decide +kernel
theorem d_Mc_stopBy_1 : decode b_Mc_stopBy 1 = .ok (.iconst 0, 1) := by decide +kernel
theorem d_Mc_stopBy_2 : decode b_Mc_stopBy 2 = .ok (.putfield 47, 3) := by decide +kernel
theorem d_Mc_stopBy_5 : decode b_Mc_stopBy 5 = .ok (.aload_n 0, 1) := by decide +kernel
theorem d_Mc_stopBy_6 : decode b_Mc_stopBy 6 = .ok (.getfield 51, 3) := by decide +kernel
theorem d_Mc_stopBy_9 : decode b_Mc_stopBy 9 = .ok (.ifCond .ne 8, 3) := by decide +kernel
theorem d_Mc_stopBy_12 : decode b_Mc_stopBy 12 = .ok (.aload_n 0, 1) := by decide +kernel
theorem d_Mc_stopBy_13 : decode b_Mc_stopBy 13 = .ok (.iload_n 1, 1) := by decide +kernel
theorem d_Mc_stopBy_14 : decode b_Mc_stopBy 14 = .ok (.putfield 51, 3) := by decide +kernel
theorem d_Mc_stopBy_17 : decode b_Mc_stopBy 17 = .ok (.return_, 1) := by decide +kernel
theorem d_Mc_move_0 : decode b_Mc_move 0 = .ok (.aload_n 0, 1) := by decide +kernel
theorem d_Mc_move_1 : decode b_Mc_move 1 = .ok (.aload_n 1, 1) := by decide +kernel
theorem d_Mc_move_2 : decode b_Mc_move 2 = .ok (.getfield 109, 3) := by decide +kernel
theorem d_Mc_move_5 : decode b_Mc_move 5 = .ok (.invokevirtual 112, 3) := by decide +kernel
theorem d_Mc_move_8 : decode b_Mc_move 8 = .ok (.istore_n 2, 1) := by decide +kernel
theorem d_Mc_move_9 : decode b_Mc_move 9 = .ok (.aload_n 1, 1) := by decide +kernel
theorem d_Mc_move_10 : decode b_Mc_move 10 = .ok (.getfield 116, 3) := by decide +kernel
end
section
theorem d_Mc_move_13 : decode b_Mc_move 13 = .ok (.lookupswitch 61 #[(11, 27), (12, 44)], 27) := by decide +kernel
theorem d_Mc_move_40 : decode b_Mc_move 40 = .ok (.aload_n 0, 1) := by decide +kernel
theorem d_Mc_move_41 : decode b_Mc_move 41 = .ok (.aload_n 1, 1) := by decide +kernel
theorem d_Mc_move_42 : decode b_Mc_move 42 = .ok (.iload_n 2, 1) := by decide +kernel
theorem d_Mc_move_43 : decode b_Mc_move 43 = .ok (.ifCond .ge 7, 3) := by decide +kernel
theorem d_Mc_move_46 : decode b_Mc_move 46 = .ok (.iconst 1, 1) := by decide +kernel
theorem d_Mc_move_47 : decode b_Mc_move 47 = .ok (.goto 4, 3) := by decide +kernel
theorem d_Mc_move_50 : decode b_Mc_move 50 = .ok (.iconst 0, 1) := by decide +kernel
theorem d_Mc_move_51 : decode b_Mc_move 51 = .ok (.invokevirtual 119, 3) := by decide +kernel
theorem d_Mc_move_54 : decode b_Mc_move 54 = .ok (.goto 29, 3) := by decide +kernel
theorem d_Mc_move_57 : decode b_Mc_move 57 = .ok (.aload_n 0, 1) := by decide +kernel
theorem d_Mc_move_58 : decode b_Mc_move 58 = .ok (.aload_n 1, 1) := by decide +kernel
theorem d_Mc_move_59 : decode b_Mc_move 59 = .ok (.iload_n 2, 1) := by decide +kernel
theorem d_Mc_move_60 : decode b_Mc_move 60 = .ok (.ifCond .eq 7, 3) := by decide +kernel
theorem d_Mc_move_63 : decode b_Mc_move 63 = .ok (.iconst 1, 1) := by decide +kernel
theorem d_Mc_move_64 : decode b_Mc_move 64 = .ok (.goto 4, 3) := by decide +kernel
theorem d_Mc_move_67 : decode b_Mc_move 67 = .ok (.iconst 0, 1) := by decide +kernel
theorem d_Mc_move_68 : decode b_Mc_move 68 = .ok (.invokevirtual 119, 3) := by decide +kernel
theorem d_Mc_move_71 : decode b_Mc_move 71 = .ok (.goto 12, 3) := by decide +kernel
theorem d_Mc_move_74 : decode b_Mc_move 74 = .ok (.aload_n 0, 1) := by decide +kernel
theorem d_Mc_move_75 : decode b_Mc_move 75 = .ok (.iload_n 2, 1) := by decide +kernel
theorem d_Mc_move_76 : decode b_Mc_move 76 = .ok (.aload_n 1, 1) := by decide +kernel
theorem d_Mc_move_77 : decode b_Mc_move 77 = .ok (.getfield 116, 3) := by decide +kernel
theorem d_Mc_move_80 : decode b_Mc_move 80 = .ok (.invokevirtual 123, 3) := by decide +kernel
theorem d_Mc_move_83 : decode b_Mc_move 83 = .ok (.return_, 1) := by decide +kernel
theorem d_Mc_discriminate_0 : decode b_Mc_discriminate 0 = .ok (.iload_n 2, 1) := by decide +kernel
theorem d_Mc_discriminate_1 : decode b_Mc_discriminate 1 = .ok (.ifCond .eq 21, 3) := by decide +kernel
theorem d_Mc_discriminate_4 : decode b_Mc_discriminate 4 = .ok (.aload_n 1, 1) := by decide +kernel
theorem d_Mc_discriminate_5 : decode b_Mc_discriminate 5 = .ok (.aload_n 0, 1) := by decide +kernel
theorem d_Mc_discriminate_6 : decode b_Mc_discriminate 6 = .ok (.getfield 33, 3) := by decide +kernel
theorem d_Mc_discriminate_9 : decode b_Mc_discriminate 9 = .ok (.if_acmp .ne 13, 3) := by decide +kernel
theorem d_Mc_discriminate_12 : decode b_Mc_discriminate 12 = .ok (.aload_n 0, 1) := by decide +kernel
theorem d_Mc_discriminate_13 : decode b_Mc_discriminate 13 = .ok (.aload_n 1, 1) := by decide +kernel
theorem d_Mc_discriminate_14 : decode b_Mc_discriminate 14 = .ok (.getfield 106, 3) := by decide +kernel
theorem d_Mc_discriminate_17 : decode b_Mc_discriminate 17 = .ok (.iconst 1, 1) := by decide +kernel
theorem d_Mc_discriminate_18 : decode b_Mc_discriminate 18 = .ok (.iadd, 1) := by decide +kernel
theorem d_Mc_discriminate_19 : decode b_Mc_discriminate 19 = .ok (.putfield 60, 3) := by decide +kernel
theorem d_Mc_discriminate_22 : decode b_Mc_discriminate 22 = .ok (.return_, 1) := by decide +kernel
theorem d_Mc_sourceWord_0 : decode b_Mc_sourceWord 0 = .ok (.aload_n 0, 1) := by decide +kernel
theorem d_Mc_sourceWord_1 : decode b_Mc_sourceWord 1 = .ok (.getfield 9, 3) := by decide +kernel
theorem d_Mc_sourceWord_4 : decode b_Mc_sourceWord 4 = .ok (.getfield 127, 3) := by decide +kernel
theorem d_Mc_sourceWord_7 : decode b_Mc_sourceWord 7 = .ok (.sipush 128, 3) := by decide +kernel
theorem d_Mc_sourceWord_10 : decode b_Mc_sourceWord 10 = .ok (.saload, 1) := by decide +kernel
theorem d_Mc_sourceWord_11 : decode b_Mc_sourceWord 11 = .ok (.istore_n 2, 1) := by decide +kernel
theorem d_Mc_sourceWord_12 : decode b_Mc_sourceWord 12 = .ok (.aload_n 0, 1) := by decide +kernel
theorem d_Mc_sourceWord_13 : decode b_Mc_sourceWord 13 = .ok (.getfield 9, 3) := by decide +kernel
theorem d_Mc_sourceWord_16 : decode b_Mc_sourceWord 16 = .ok (.getfield 127, 3) := by decide +kernel
theorem d_Mc_sourceWord_19 : decode b_Mc_sourceWord 19 = .ok (.sipush 129, 3) := by decide +kernel
theorem d_Mc_sourceWord_22 : decode b_Mc_sourceWord 22 = .ok (.saload, 1) := by decide +kernel
theorem d_Mc_sourceWord_23 : decode b_Mc_sourceWord 23 = .ok (.istore_n 3, 1) := by decide +kernel
theorem d_Mc_sourceWord_24 : decode b_Mc_sourceWord 24 = .ok (.iload_n 1, 1) := by decide +kernel
theorem d_Mc_sourceWord_25 : decode b_Mc_sourceWord 25 = .ok (.tableswitch 123 0 15 #[79, 81, 123, 123, 123, 123, 123, 123, 123, 83, 88, 93, 95, 100, 112, 117], 79) := by decide +kernel
theorem d_Mc_sourceWord_104 : decode b_Mc_sourceWord 104 = .ok (.iconst 0, 1) := by decide +kernel
theorem d_Mc_sourceWord_105 : decode b_Mc_sourceWord 105 = .ok (.ireturn, 1) := by decide +kernel
theorem d_Mc_sourceWord_106 : decode b_Mc_sourceWord 106 = .ok (.iconst 1, 1) := by decide +kernel
theorem d_Mc_sourceWord_107 : decode b_Mc_sourceWord 107 = .ok (.ireturn, 1) := by decide +kernel
theorem d_Mc_sourceWord_108 : decode b_Mc_sourceWord 108 = .ok (.iload_n 2, 1) := by decide +kernel
theorem d_Mc_sourceWord_109 : decode b_Mc_sourceWord 109 = .ok (.iload_n 3, 1) := by decide +kernel
theorem d_Mc_sourceWord_110 : decode b_Mc_sourceWord 110 = .ok (.iand, 1) := by decide +kernel
theorem d_Mc_sourceWord_111 : decode b_Mc_sourceWord 111 = .ok (.i2s, 1) := by decide +kernel
theorem d_Mc_sourceWord_112 : decode b_Mc_sourceWord 112 = .ok (.ireturn, 1) := by decide +kernel
theorem d_Mc_sourceWord_113 : decode b_Mc_sourceWord 113 = .ok (.iload_n 2, 1) := by decide +kernel
theorem d_Mc_sourceWord_114 : decode b_Mc_sourceWord 114 = .ok (.iload_n 3, 1) := by decide +kernel
theorem d_Mc_sourceWord_115 : decode b_Mc_sourceWord 115 = .ok (.ixor, 1) := by decide +kernel
theorem d_Mc_sourceWord_116 : decode b_Mc_sourceWord 116 = .ok (.i2s, 1) := by decide +kernel
theorem d_Mc_sourceWord_117 : decode b_Mc_sourceWord 117 = .ok (.ireturn, 1) := by decide +kernel
theorem d_Mc_sourceWord_118 : decode b_Mc_sourceWord 118 = .ok (.iconst (-1), 1) := by decide +kernel
theorem d_Mc_sourceWord_119 : decode b_Mc_sourceWord 119 = .ok (.ireturn, 1) := by decide +kernel
theorem d_Mc_sourceWord_120 : decode b_Mc_sourceWord 120 = .ok (.iload_n 2, 1) := by decide +kernel
theorem d_Mc_sourceWord_121 : decode b_Mc_sourceWord 121 = .ok (.iconst 1, 1) := by decide +kernel
theorem d_Mc_sourceWord_122 : decode b_Mc_sourceWord 122 = .ok (.ishr, 1) := by decide +kernel
theorem d_Mc_sourceWord_123 : decode b_Mc_sourceWord 123 = .ok (.i2s, 1) := by decide +kernel
theorem d_Mc_sourceWord_124 : decode b_Mc_sourceWord 124 = .ok (.ireturn, 1) := by decide +kernel
theorem d_Mc_sourceWord_125 : decode b_Mc_sourceWord 125 = .ok (.aload_n 0, 1) := by decide +kernel
theorem d_Mc_sourceWord_126 : decode b_Mc_sourceWord 126 = .ok (.getfield 15, 3) := by decide +kernel
theorem d_Mc_sourceWord_129 : decode b_Mc_sourceWord 129 = .ok (.aload_n 0, 1) := by decide +kernel
theorem d_Mc_sourceWord_130 : decode b_Mc_sourceWord 130 = .ok (.getfield 57, 3) := by decide +kernel
theorem d_Mc_sourceWord_133 : decode b_Mc_sourceWord 133 = .ok (.invokevirtual 131, 3) := by decide +kernel
theorem d_Mc_sourceWord_136 : decode b_Mc_sourceWord 136 = .ok (.ireturn, 1) := by decide +kernel
theorem d_Mc_sourceWord_137 : decode b_Mc_sourceWord 137 = .ok (.iload_n 2, 1) := by decide +kernel
theorem d_Mc_sourceWord_138 : decode b_Mc_sourceWord 138 = .ok (.iconst (-1), 1) := by decide +kernel
theorem d_Mc_sourceWord_139 : decode b_Mc_sourceWord 139 = .ok (.ixor, 1) := by decide +kernel
theorem d_Mc_sourceWord_140 : decode b_Mc_sourceWord 140 = .ok (.i2s, 1) := by decide +kernel
theorem d_Mc_sourceWord_141 : decode b_Mc_sourceWord 141 = .ok (.ireturn, 1) := by decide +kernel
theorem d_Mc_sourceWord_142 : decode b_Mc_sourceWord 142 = .ok (.aload_n 0, 1) := by decide +kernel
theorem d_Mc_sourceWord_143 : decode b_Mc_sourceWord 143 = .ok (.getfield 57, 3) := by decide +kernel
theorem d_Mc_sourceWord_146 : decode b_Mc_sourceWord 146 = .ok (.i2s, 1) := by decide +kernel
theorem d_Mc_sourceWord_147 : decode b_Mc_sourceWord 147 = .ok (.ireturn, 1) := by decide +kernel
theorem d_Mc_sourceWord_148 : decode b_Mc_sourceWord 148 = .ok (.aload_n 0, 1) := by decide +kernel
theorem d_Mc_sourceWord_149 : decode b_Mc_sourceWord 149 = .ok (.getfield 9, 3) := by decide +kernel
theorem d_Mc_sourceWord_152 : decode b_Mc_sourceWord 152 = .ok (.getfield 127, 3) := by decide +kernel
theorem d_Mc_sourceWord_155 : decode b_Mc_sourceWord 155 = .ok (.iload_n 1, 1) := by decide +kernel
theorem d_Mc_sourceWord_156 : decode b_Mc_sourceWord 156 = .ok (.aload_n 0, 1) := by decide +kernel
theorem d_Mc_sourceWord_157 : decode b_Mc_sourceWord 157 = .ok (.getfield 57, 3) := by decide +kernel
theorem d_Mc_sourceWord_160 : decode b_Mc_sourceWord 160 = .ok (.invokestatic 134, 3) := by decide +kernel
theorem d_Mc_sourceWord_163 : decode b_Mc_sourceWord 163 = .ok (.saload, 1) := by decide +kernel
theorem d_Mc_sourceWord_164 : decode b_Mc_sourceWord 164 = .ok (.ireturn, 1) := by decide +kernel
theorem d_Mc_deliver_0 : decode b_Mc_deliver 0 = .ok (.iload_n 2, 1) := by decide +kernel
theorem d_Mc_deliver_1 : decode b_Mc_deliver 1 = .ok (.tableswitch 188 0 15 #[79, 82, 188, 188, 188, 188, 188, 188, 188, 90, 109, 188, 188, 128, 143, 165], 79) := by decide +kernel
theorem d_Mc_deliver_80 : decode b_Mc_deliver 80 = .ok (.goto 126, 3) := by decide +kernel
theorem d_Mc_deliver_83 : decode b_Mc_deliver 83 = .ok (.aload_n 0, 1) := by decide +kernel
theorem d_Mc_deliver_84 : decode b_Mc_deliver 84 = .ok (.iconst 0, 1) := by decide +kernel
theorem d_Mc_deliver_85 : decode b_Mc_deliver 85 = .ok (.putfield 47, 3) := by decide +kernel
theorem d_Mc_deliver_88 : decode b_Mc_deliver 88 = .ok (.goto 118, 3) := by decide +kernel
theorem d_Mc_deliver_91 : decode b_Mc_deliver 91 = .ok (.aload_n 0, 1) := by decide +kernel
theorem d_Mc_deliver_92 : decode b_Mc_deliver 92 = .ok (.getfield 9, 3) := by decide +kernel
theorem d_Mc_deliver_95 : decode b_Mc_deliver 95 = .ok (.getfield 127, 3) := by decide +kernel
theorem d_Mc_deliver_98 : decode b_Mc_deliver 98 = .ok (.sipush 128, 3) := by decide +kernel
theorem d_Mc_deliver_101 : decode b_Mc_deliver 101 = .ok (.dup2, 1) := by decide +kernel
theorem d_Mc_deliver_102 : decode b_Mc_deliver 102 = .ok (.saload, 1) := by decide +kernel
theorem d_Mc_deliver_103 : decode b_Mc_deliver 103 = .ok (.iload_n 1, 1) := by decide +kernel
theorem d_Mc_deliver_104 : decode b_Mc_deliver 104 = .ok (.iadd, 1) := by decide +kernel
theorem d_Mc_deliver_105 : decode b_Mc_deliver 105 = .ok (.i2s, 1) := by decide +kernel
theorem d_Mc_deliver_106 : decode b_Mc_deliver 106 = .ok (.sastore, 1) := by decide +kernel
theorem d_Mc_deliver_107 : decode b_Mc_deliver 107 = .ok (.goto 99, 3) := by decide +kernel
theorem d_Mc_deliver_110 : decode b_Mc_deliver 110 = .ok (.aload_n 0, 1) := by decide +kernel
theorem d_Mc_deliver_111 : decode b_Mc_deliver 111 = .ok (.getfield 9, 3) := by decide +kernel
theorem d_Mc_deliver_114 : decode b_Mc_deliver 114 = .ok (.getfield 127, 3) := by decide +kernel
theorem d_Mc_deliver_117 : decode b_Mc_deliver 117 = .ok (.sipush 128, 3) := by decide +kernel
theorem d_Mc_deliver_120 : decode b_Mc_deliver 120 = .ok (.dup2, 1) := by decide +kernel
theorem d_Mc_deliver_121 : decode b_Mc_deliver 121 = .ok (.saload, 1) := by decide +kernel
theorem d_Mc_deliver_122 : decode b_Mc_deliver 122 = .ok (.iload_n 1, 1) := by decide +kernel
theorem d_Mc_deliver_123 : decode b_Mc_deliver 123 = .ok (.isub, 1) := by decide +kernel
theorem d_Mc_deliver_124 : decode b_Mc_deliver 124 = .ok (.i2s, 1) := by decide +kernel
theorem d_Mc_deliver_125 : decode b_Mc_deliver 125 = .ok (.sastore, 1) := by decide +kernel
theorem d_Mc_deliver_126 : decode b_Mc_deliver 126 = .ok (.goto 80, 3) := by decide +kernel
theorem d_Mc_deliver_129 : decode b_Mc_deliver 129 = .ok (.aload_n 0, 1) := by decide +kernel
theorem d_Mc_deliver_130 : decode b_Mc_deliver 130 = .ok (.getfield 26, 3) := by decide +kernel
theorem d_Mc_deliver_133 : decode b_Mc_deliver 133 = .ok (.iload_n 1, 1) := by decide +kernel
theorem d_Mc_deliver_134 : decode b_Mc_deliver 134 = .ok (.aload_n 0, 1) := by decide +kernel
theorem d_Mc_deliver_135 : decode b_Mc_deliver 135 = .ok (.getfield 9, 3) := by decide +kernel
theorem d_Mc_deliver_138 : decode b_Mc_deliver 138 = .ok (.invokevirtual 138, 3) := by decide +kernel
theorem d_Mc_deliver_141 : decode b_Mc_deliver 141 = .ok (.goto 65, 3) := by decide +kernel
theorem d_Mc_deliver_144 : decode b_Mc_deliver 144 = .ok (.aload_n 0, 1) := by decide +kernel
theorem d_Mc_deliver_145 : decode b_Mc_deliver 145 = .ok (.getfield 15, 3) := by decide +kernel
theorem d_Mc_deliver_148 : decode b_Mc_deliver 148 = .ok (.aload_n 0, 1) := by decide +kernel
theorem d_Mc_deliver_149 : decode b_Mc_deliver 149 = .ok (.getfield 57, 3) := by decide +kernel
theorem d_Mc_deliver_152 : decode b_Mc_deliver 152 = .ok (.invokevirtual 142, 3) := by decide +kernel
theorem d_Mc_deliver_155 : decode b_Mc_deliver 155 = .ok (.ifCond .ne 51, 3) := by decide +kernel
theorem d_Mc_deliver_158 : decode b_Mc_deliver 158 = .ok (.aload_n 0, 1) := by decide +kernel
theorem d_Mc_deliver_159 : decode b_Mc_deliver 159 = .ok (.iconst 2, 1) := by decide +kernel
theorem d_Mc_deliver_160 : decode b_Mc_deliver 160 = .ok (.invokevirtual 92, 3) := by decide +kernel
theorem d_Mc_deliver_163 : decode b_Mc_deliver 163 = .ok (.goto 43, 3) := by decide +kernel
theorem d_Mc_deliver_166 : decode b_Mc_deliver 166 = .ok (.aload_n 0, 1) := by decide +kernel
theorem d_Mc_deliver_167 : decode b_Mc_deliver 167 = .ok (.getfield 19, 3) := by decide +kernel
theorem d_Mc_deliver_170 : decode b_Mc_deliver 170 = .ok (.iload_n 1, 1) := by decide +kernel
theorem d_Mc_deliver_171 : decode b_Mc_deliver 171 = .ok (.aload_n 0, 1) := by decide +kernel
theorem d_Mc_deliver_172 : decode b_Mc_deliver 172 = .ok (.getfield 57, 3) := by decide +kernel
theorem d_Mc_deliver_175 : decode b_Mc_deliver 175 = .ok (.invokevirtual 145, 3) := by decide +kernel
theorem d_Mc_deliver_178 : decode b_Mc_deliver 178 = .ok (.ifCond .ne 28, 3) := by decide +kernel
theorem d_Mc_deliver_181 : decode b_Mc_deliver 181 = .ok (.aload_n 0, 1) := by decide +kernel
theorem d_Mc_deliver_182 : decode b_Mc_deliver 182 = .ok (.iconst 3, 1) := by decide +kernel
theorem d_Mc_deliver_183 : decode b_Mc_deliver 183 = .ok (.invokevirtual 92, 3) := by decide +kernel
theorem d_Mc_deliver_186 : decode b_Mc_deliver 186 = .ok (.goto 20, 3) := by decide +kernel
theorem d_Mc_deliver_189 : decode b_Mc_deliver 189 = .ok (.aload_n 0, 1) := by decide +kernel
theorem d_Mc_deliver_190 : decode b_Mc_deliver 190 = .ok (.getfield 9, 3) := by decide +kernel
theorem d_Mc_deliver_193 : decode b_Mc_deliver 193 = .ok (.getfield 127, 3) := by decide +kernel
theorem d_Mc_deliver_196 : decode b_Mc_deliver 196 = .ok (.iload_n 2, 1) := by decide +kernel
theorem d_Mc_deliver_197 : decode b_Mc_deliver 197 = .ok (.aload_n 0, 1) := by decide +kernel
theorem d_Mc_deliver_198 : decode b_Mc_deliver 198 = .ok (.getfield 57, 3) := by decide +kernel
theorem d_Mc_deliver_201 : decode b_Mc_deliver 201 = .ok (.invokestatic 134, 3) := by decide +kernel
theorem d_Mc_deliver_204 : decode b_Mc_deliver 204 = .ok (.iload_n 1, 1) := by decide +kernel
theorem d_Mc_deliver_205 : decode b_Mc_deliver 205 = .ok (.sastore, 1) := by decide +kernel
theorem d_Mc_deliver_206 : decode b_Mc_deliver 206 = .ok (.return_, 1) := by decide +kernel
theorem d_Mu_init_0 : decode b_Mu_init 0 = .ok (.aload_n 0, 1) := by decide +kernel
theorem d_Mu_init_1 : decode b_Mu_init 1 = .ok (.invokespecial 1, 3) := by decide +kernel
theorem d_Mu_init_4 : decode b_Mu_init 4 = .ok (.return_, 1) := by decide +kernel
theorem d_Mu_rest_0 : decode b_Mu_rest 0 = .ok (.aload_n 0, 1) := by decide +kernel
theorem d_Mu_rest_1 : decode b_Mu_rest 1 = .ok (.iconst 0, 1) := by decide +kernel
theorem d_Mu_rest_2 : decode b_Mu_rest 2 = .ok (.putfield 7, 3) := by decide +kernel
theorem d_Mu_rest_5 : decode b_Mu_rest 5 = .ok (.return_, 1) := by decide +kernel
theorem d_Mu_begin_0 : decode b_Mu_begin 0 = .ok (.aload_n 0, 1) := by decide +kernel
theorem d_Mu_begin_1 : decode b_Mu_begin 1 = .ok (.iload_n 1, 1) := by decide +kernel
theorem d_Mu_begin_2 : decode b_Mu_begin 2 = .ok (.putfield 13, 3) := by decide +kernel
theorem d_Mu_begin_5 : decode b_Mu_begin 5 = .ok (.aload_n 0, 1) := by decide +kernel
theorem d_Mu_begin_6 : decode b_Mu_begin 6 = .ok (.bipush 16, 2) := by decide +kernel
theorem d_Mu_begin_8 : decode b_Mu_begin 8 = .ok (.putfield 7, 3) := by decide +kernel
theorem d_Mu_begin_11 : decode b_Mu_begin 11 = .ok (.aload_n 0, 1) := by decide +kernel
theorem d_Mu_begin_12 : decode b_Mu_begin 12 = .ok (.iconst 1, 1) := by decide +kernel
theorem d_Mu_begin_13 : decode b_Mu_begin 13 = .ok (.putfield 16, 3) := by decide +kernel
theorem d_Mu_begin_16 : decode b_Mu_begin 16 = .ok (.aload_n 2, 1) := by decide +kernel
theorem d_Mu_begin_17 : decode b_Mu_begin 17 = .ok (.iconst 0, 1) := by decide +kernel
theorem d_Mu_begin_18 : decode b_Mu_begin 18 = .ok (.invokevirtual 20, 3) := by decide +kernel
theorem d_Mu_begin_21 : decode b_Mu_begin 21 = .ok (.return_, 1) := by decide +kernel
theorem d_Mu_endCycle_0 : decode b_Mu_endCycle 0 = .ok (.aload_n 0, 1) := by decide +kernel
theorem d_Mu_endCycle_1 : decode b_Mu_endCycle 1 = .ok (.getfield 16, 3) := by decide +kernel
theorem d_Mu_endCycle_4 : decode b_Mu_endCycle 4 = .ok (.ifCond .eq 9, 3) := by decide +kernel
theorem d_Mu_endCycle_7 : decode b_Mu_endCycle 7 = .ok (.aload_n 0, 1) := by decide +kernel
theorem d_Mu_endCycle_8 : decode b_Mu_endCycle 8 = .ok (.iconst 0, 1) := by decide +kernel
theorem d_Mu_endCycle_9 : decode b_Mu_endCycle 9 = .ok (.putfield 16, 3) := by decide +kernel
theorem d_Mu_endCycle_12 : decode b_Mu_endCycle 12 = .ok (.return_, 1) := by decide +kernel
theorem d_Mu_endCycle_13 : decode b_Mu_endCycle 13 = .ok (.aload_n 0, 1) := by decide +kernel
theorem d_Mu_endCycle_14 : decode b_Mu_endCycle 14 = .ok (.getfield 7, 3) := by decide +kernel
theorem d_Mu_endCycle_17 : decode b_Mu_endCycle 17 = .ok (.ifCond .ne 4, 3) := by decide +kernel
theorem d_Mu_endCycle_20 : decode b_Mu_endCycle 20 = .ok (.return_, 1) := by decide +kernel
theorem d_Mu_endCycle_21 : decode b_Mu_endCycle 21 = .ok (.aload_n 0, 1) := by decide +kernel
theorem d_Mu_endCycle_22 : decode b_Mu_endCycle 22 = .ok (.getfield 13, 3) := by decide +kernel
theorem d_Mu_endCycle_25 : decode b_Mu_endCycle 25 = .ok (.ldc 26, 2) := by decide +kernel
theorem d_Mu_endCycle_27 : decode b_Mu_endCycle 27 = .ok (.iand, 1) := by decide +kernel
theorem d_Mu_endCycle_28 : decode b_Mu_endCycle 28 = .ok (.ifCond .eq 7, 3) := by decide +kernel
theorem d_Mu_endCycle_31 : decode b_Mu_endCycle 31 = .ok (.iconst 1, 1) := by decide +kernel
theorem d_Mu_endCycle_32 : decode b_Mu_endCycle 32 = .ok (.goto 4, 3) := by decide +kernel
theorem d_Mu_endCycle_35 : decode b_Mu_endCycle 35 = .ok (.iconst 0, 1) := by decide +kernel
theorem d_Mu_endCycle_36 : decode b_Mu_endCycle 36 = .ok (.istore_n 2, 1) := by decide +kernel
theorem d_Mu_endCycle_37 : decode b_Mu_endCycle 37 = .ok (.aload_n 1, 1) := by decide +kernel
theorem d_Mu_endCycle_38 : decode b_Mu_endCycle 38 = .ok (.iconst 2, 1) := by decide +kernel
theorem d_Mu_endCycle_39 : decode b_Mu_endCycle 39 = .ok (.aload_n 1, 1) := by decide +kernel
theorem d_Mu_endCycle_40 : decode b_Mu_endCycle 40 = .ok (.invokevirtual 27, 3) := by decide +kernel
theorem d_Mu_endCycle_43 : decode b_Mu_endCycle 43 = .ok (.imul, 1) := by decide +kernel
theorem d_Mu_endCycle_44 : decode b_Mu_endCycle 44 = .ok (.iload_n 2, 1) := by decide +kernel
theorem d_Mu_endCycle_45 : decode b_Mu_endCycle 45 = .ok (.ifCond .eq 14, 3) := by decide +kernel
theorem d_Mu_endCycle_48 : decode b_Mu_endCycle 48 = .ok (.aload_n 1, 1) := by decide +kernel
theorem d_Mu_endCycle_49 : decode b_Mu_endCycle 49 = .ok (.getfield 31, 3) := by decide +kernel
theorem d_Mu_endCycle_52 : decode b_Mu_endCycle 52 = .ok (.sipush 129, 3) := by decide +kernel
theorem d_Mu_endCycle_55 : decode b_Mu_endCycle 55 = .ok (.saload, 1) := by decide +kernel
theorem d_Mu_endCycle_56 : decode b_Mu_endCycle 56 = .ok (.goto 4, 3) := by decide +kernel
theorem d_Mu_endCycle_59 : decode b_Mu_endCycle 59 = .ok (.iconst 0, 1) := by decide +kernel
theorem d_Mu_endCycle_60 : decode b_Mu_endCycle 60 = .ok (.iadd, 1) := by decide +kernel
theorem d_Mu_endCycle_61 : decode b_Mu_endCycle 61 = .ok (.invokevirtual 20, 3) := by decide +kernel
theorem d_Mu_endCycle_64 : decode b_Mu_endCycle 64 = .ok (.aload_n 0, 1) := by decide +kernel
theorem d_Mu_endCycle_65 : decode b_Mu_endCycle 65 = .ok (.aload_n 0, 1) := by decide +kernel
theorem d_Mu_endCycle_66 : decode b_Mu_endCycle 66 = .ok (.getfield 13, 3) := by decide +kernel
theorem d_Mu_endCycle_69 : decode b_Mu_endCycle 69 = .ok (.iconst 1, 1) := by decide +kernel
theorem d_Mu_endCycle_70 : decode b_Mu_endCycle 70 = .ok (.ishl, 1) := by decide +kernel
theorem d_Mu_endCycle_71 : decode b_Mu_endCycle 71 = .ok (.putfield 13, 3) := by decide +kernel
theorem d_Mu_endCycle_74 : decode b_Mu_endCycle 74 = .ok (.aload_n 0, 1) := by decide +kernel
theorem d_Mu_endCycle_75 : decode b_Mu_endCycle 75 = .ok (.dup, 1) := by decide +kernel
theorem d_Mu_endCycle_76 : decode b_Mu_endCycle 76 = .ok (.getfield 7, 3) := by decide +kernel
theorem d_Mu_endCycle_79 : decode b_Mu_endCycle 79 = .ok (.iconst 1, 1) := by decide +kernel
theorem d_Mu_endCycle_80 : decode b_Mu_endCycle 80 = .ok (.isub, 1) := by decide +kernel
theorem d_Mu_endCycle_81 : decode b_Mu_endCycle 81 = .ok (.putfield 7, 3) := by decide +kernel
theorem d_Mu_endCycle_84 : decode b_Mu_endCycle 84 = .ok (.return_, 1) := by decide +kernel
theorem d_Pl_init_0 : decode b_Pl_init 0 = .ok (.aload_n 0, 1) := by decide +kernel
theorem d_Pl_init_1 : decode b_Pl_init 1 = .ok (.invokespecial 3, 3) := by decide +kernel
theorem d_Pl_init_4 : decode b_Pl_init 4 = .ok (.aload_n 0, 1) := by decide +kernel
theorem d_Pl_init_5 : decode b_Pl_init 5 = .ok (.bipush 64, 2) := by decide +kernel
theorem d_Pl_init_7 : decode b_Pl_init 7 = .ok (.newarray .int, 2) := by decide +kernel
theorem d_Pl_init_9 : decode b_Pl_init 9 = .ok (.putfield 9, 3) := by decide +kernel
theorem d_Pl_init_12 : decode b_Pl_init 12 = .ok (.aload_n 0, 1) := by decide +kernel
theorem d_Pl_init_13 : decode b_Pl_init 13 = .ok (.bipush 32, 2) := by decide +kernel
theorem d_Pl_init_15 : decode b_Pl_init 15 = .ok (.newarray .int, 2) := by decide +kernel
theorem d_Pl_init_17 : decode b_Pl_init 17 = .ok (.putfield 15, 3) := by decide +kernel
theorem d_Pl_init_20 : decode b_Pl_init 20 = .ok (.aload_n 0, 1) := by decide +kernel
theorem d_Pl_init_21 : decode b_Pl_init 21 = .ok (.bipush 16, 2) := by decide +kernel
theorem d_Pl_init_23 : decode b_Pl_init 23 = .ok (.newarray .int, 2) := by decide +kernel
theorem d_Pl_init_25 : decode b_Pl_init 25 = .ok (.putfield 18, 3) := by decide +kernel
theorem d_Pl_init_28 : decode b_Pl_init 28 = .ok (.aload_n 0, 1) := by decide +kernel
theorem d_Pl_init_29 : decode b_Pl_init 29 = .ok (.bipush 12, 2) := by decide +kernel
theorem d_Pl_init_31 : decode b_Pl_init 31 = .ok (.newarray .int, 2) := by decide +kernel
theorem d_Pl_init_33 : decode b_Pl_init 33 = .ok (.putfield 21, 3) := by decide +kernel
theorem d_Pl_init_36 : decode b_Pl_init 36 = .ok (.aload_n 0, 1) := by decide +kernel
theorem d_Pl_init_37 : decode b_Pl_init 37 = .ok (.bipush 12, 2) := by decide +kernel
theorem d_Pl_init_39 : decode b_Pl_init 39 = .ok (.newarray .int, 2) := by decide +kernel
theorem d_Pl_init_41 : decode b_Pl_init 41 = .ok (.putfield 24, 3) := by decide +kernel
theorem d_Pl_init_44 : decode b_Pl_init 44 = .ok (.aload_n 0, 1) := by decide +kernel
theorem d_Pl_init_45 : decode b_Pl_init 45 = .ok (.getfield 18, 3) := by decide +kernel
theorem d_Pl_init_48 : decode b_Pl_init 48 = .ok (.iconst (-1), 1) := by decide +kernel
theorem d_Pl_init_49 : decode b_Pl_init 49 = .ok (.invokestatic 27, 3) := by decide +kernel
theorem d_Pl_init_52 : decode b_Pl_init 52 = .ok (.aload_n 0, 1) := by decide +kernel
theorem d_Pl_init_53 : decode b_Pl_init 53 = .ok (.getfield 21, 3) := by decide +kernel
theorem d_Pl_init_56 : decode b_Pl_init 56 = .ok (.iconst (-1), 1) := by decide +kernel
theorem d_Pl_init_57 : decode b_Pl_init 57 = .ok (.invokestatic 27, 3) := by decide +kernel
theorem d_Pl_init_60 : decode b_Pl_init 60 = .ok (.return_, 1) := by decide +kernel
theorem d_Pl_placeAll_0 : decode b_Pl_placeAll 0 = .ok (.aload_n 0, 1) := by decide +kernel
theorem d_Pl_placeAll_1 : decode b_Pl_placeAll 1 = .ok (.invokevirtual 33, 3) := by decide +kernel
theorem d_Pl_placeAll_4 : decode b_Pl_placeAll 4 = .ok (.iconst 0, 1) := by decide +kernel
theorem d_Pl_placeAll_5 : decode b_Pl_placeAll 5 = .ok (.istore_n 2, 1) := by decide +kernel
theorem d_Pl_placeAll_6 : decode b_Pl_placeAll 6 = .ok (.iload_n 2, 1) := by decide +kernel
theorem d_Pl_placeAll_7 : decode b_Pl_placeAll 7 = .ok (.aload_n 1, 1) := by decide +kernel
theorem d_Pl_placeAll_8 : decode b_Pl_placeAll 8 = .ok (.getfield 36, 3) := by decide +kernel
theorem d_Pl_placeAll_11 : decode b_Pl_placeAll 11 = .ok (.if_icmp .ge 25, 3) := by decide +kernel
theorem d_Pl_placeAll_14 : decode b_Pl_placeAll 14 = .ok (.aload_n 0, 1) := by decide +kernel
theorem d_Pl_placeAll_15 : decode b_Pl_placeAll 15 = .ok (.getfield 21, 3) := by decide +kernel
theorem d_Pl_placeAll_18 : decode b_Pl_placeAll 18 = .ok (.iload_n 2, 1) := by decide +kernel
theorem d_Pl_placeAll_19 : decode b_Pl_placeAll 19 = .ok (.aload_n 0, 1) := by decide +kernel
theorem d_Pl_placeAll_20 : decode b_Pl_placeAll 20 = .ok (.invokevirtual 42, 3) := by decide +kernel
theorem d_Pl_placeAll_23 : decode b_Pl_placeAll 23 = .ok (.iastore, 1) := by decide +kernel
theorem d_Pl_placeAll_24 : decode b_Pl_placeAll 24 = .ok (.aload_n 0, 1) := by decide +kernel
theorem d_Pl_placeAll_25 : decode b_Pl_placeAll 25 = .ok (.aload_n 1, 1) := by decide +kernel
theorem d_Pl_placeAll_26 : decode b_Pl_placeAll 26 = .ok (.iload_n 2, 1) := by decide +kernel
theorem d_Pl_placeAll_27 : decode b_Pl_placeAll 27 = .ok (.invokevirtual 46, 3) := by decide +kernel
theorem d_Pl_placeAll_30 : decode b_Pl_placeAll 30 = .ok (.iinc 2 1, 3) := by decide +kernel
theorem d_Pl_placeAll_33 : decode b_Pl_placeAll 33 = .ok (.goto (-27), 3) := by decide +kernel
theorem d_Pl_placeAll_36 : decode b_Pl_placeAll 36 = .ok (.aload_n 1, 1) := by decide +kernel
theorem d_Pl_placeAll_37 : decode b_Pl_placeAll 37 = .ok (.invokevirtual 50, 3) := by decide +kernel
theorem d_Pl_placeAll_40 : decode b_Pl_placeAll 40 = .ok (.ifCond .ne 7, 3) := by decide +kernel
theorem d_Pl_placeAll_43 : decode b_Pl_placeAll 43 = .ok (.aload_n 0, 1) := by decide +kernel
theorem d_Pl_placeAll_44 : decode b_Pl_placeAll 44 = .ok (.invokevirtual 54, 3) := by decide +kernel
theorem d_Pl_placeAll_47 : decode b_Pl_placeAll 47 = .ok (.aload_n 0, 1) := by decide +kernel
theorem d_Pl_placeAll_48 : decode b_Pl_placeAll 48 = .ok (.getfield 57, 3) := by decide +kernel
theorem d_Pl_placeAll_51 : decode b_Pl_placeAll 51 = .ok (.ifCond .eq 12, 3) := by decide +kernel
theorem d_Pl_placeAll_54 : decode b_Pl_placeAll 54 = .ok (.aload_n 0, 1) := by decide +kernel
theorem d_Pl_placeAll_55 : decode b_Pl_placeAll 55 = .ok (.aload_n 1, 1) := by decide +kernel
theorem d_Pl_placeAll_56 : decode b_Pl_placeAll 56 = .ok (.invokevirtual 61, 3) := by decide +kernel
theorem d_Pl_placeAll_59 : decode b_Pl_placeAll 59 = .ok (.aload_n 0, 1) := by decide +kernel
theorem d_Pl_placeAll_60 : decode b_Pl_placeAll 60 = .ok (.invokevirtual 65, 3) := by decide +kernel
theorem d_Pl_placeAll_63 : decode b_Pl_placeAll 63 = .ok (.aload_n 0, 1) := by decide +kernel
theorem d_Pl_placeAll_64 : decode b_Pl_placeAll 64 = .ok (.getfield 57, 3) := by decide +kernel
theorem d_Pl_placeAll_67 : decode b_Pl_placeAll 67 = .ok (.ireturn, 1) := by decide +kernel
theorem d_Pl_forget_0 : decode b_Pl_forget 0 = .ok (.aload_n 0, 1) := by decide +kernel
theorem d_Pl_forget_1 : decode b_Pl_forget 1 = .ok (.getfield 9, 3) := by decide +kernel
theorem d_Pl_forget_4 : decode b_Pl_forget 4 = .ok (.iconst (-1), 1) := by decide +kernel
theorem d_Pl_forget_5 : decode b_Pl_forget 5 = .ok (.invokestatic 27, 3) := by decide +kernel
theorem d_Pl_forget_8 : decode b_Pl_forget 8 = .ok (.aload_n 0, 1) := by decide +kernel
theorem d_Pl_forget_9 : decode b_Pl_forget 9 = .ok (.getfield 15, 3) := by decide +kernel
theorem d_Pl_forget_12 : decode b_Pl_forget 12 = .ok (.iconst (-1), 1) := by decide +kernel
theorem d_Pl_forget_13 : decode b_Pl_forget 13 = .ok (.invokestatic 27, 3) := by decide +kernel
theorem d_Pl_forget_16 : decode b_Pl_forget 16 = .ok (.aload_n 0, 1) := by decide +kernel
theorem d_Pl_forget_17 : decode b_Pl_forget 17 = .ok (.getfield 18, 3) := by decide +kernel
theorem d_Pl_forget_20 : decode b_Pl_forget 20 = .ok (.iconst (-1), 1) := by decide +kernel
theorem d_Pl_forget_21 : decode b_Pl_forget 21 = .ok (.invokestatic 27, 3) := by decide +kernel
theorem d_Pl_forget_24 : decode b_Pl_forget 24 = .ok (.aload_n 0, 1) := by decide +kernel
theorem d_Pl_forget_25 : decode b_Pl_forget 25 = .ok (.getfield 21, 3) := by decide +kernel
theorem d_Pl_forget_28 : decode b_Pl_forget 28 = .ok (.iconst (-1), 1) := by decide +kernel
theorem d_Pl_forget_29 : decode b_Pl_forget 29 = .ok (.invokestatic 27, 3) := by decide +kernel
theorem d_Pl_forget_32 : decode b_Pl_forget 32 = .ok (.aload_n 0, 1) := by decide +kernel
theorem d_Pl_forget_33 : decode b_Pl_forget 33 = .ok (.getfield 24, 3) := by decide +kernel
theorem d_Pl_forget_36 : decode b_Pl_forget 36 = .ok (.iconst (-1), 1) := by decide +kernel
theorem d_Pl_forget_37 : decode b_Pl_forget 37 = .ok (.invokestatic 27, 3) := by decide +kernel
theorem d_Pl_forget_40 : decode b_Pl_forget 40 = .ok (.aload_n 0, 1) := by decide +kernel
theorem d_Pl_forget_41 : decode b_Pl_forget 41 = .ok (.iconst 0, 1) := by decide +kernel
theorem d_Pl_forget_42 : decode b_Pl_forget 42 = .ok (.putfield 68, 3) := by decide +kernel
theorem d_Pl_forget_45 : decode b_Pl_forget 45 = .ok (.aload_n 0, 1) := by decide +kernel
theorem d_Pl_forget_46 : decode b_Pl_forget 46 = .ok (.iconst (-1), 1) := by decide +kernel
theorem d_Pl_forget_47 : decode b_Pl_forget 47 = .ok (.putfield 71, 3) := by decide +kernel
theorem d_Pl_forget_50 : decode b_Pl_forget 50 = .ok (.aload_n 0, 1) := by decide +kernel
theorem d_Pl_forget_51 : decode b_Pl_forget 51 = .ok (.iconst 0, 1) := by decide +kernel
theorem d_Pl_forget_52 : decode b_Pl_forget 52 = .ok (.putfield 74, 3) := by decide +kernel
theorem d_Pl_forget_55 : decode b_Pl_forget 55 = .ok (.aload_n 0, 1) := by decide +kernel
theorem d_Pl_forget_56 : decode b_Pl_forget 56 = .ok (.iconst 1, 1) := by decide +kernel
theorem d_Pl_forget_57 : decode b_Pl_forget 57 = .ok (.putfield 57, 3) := by decide +kernel
theorem d_Pl_forget_60 : decode b_Pl_forget 60 = .ok (.return_, 1) := by decide +kernel
theorem d_Pl_placeStatement_0 : decode b_Pl_placeStatement 0 = .ok (.aload_n 1, 1) := by decide +kernel
theorem d_Pl_placeStatement_1 : decode b_Pl_placeStatement 1 = .ok (.getfield 75, 3) := by decide +kernel
theorem d_Pl_placeStatement_4 : decode b_Pl_placeStatement 4 = .ok (.iload_n 2, 1) := by decide +kernel
theorem d_Pl_placeStatement_5 : decode b_Pl_placeStatement 5 = .ok (.iaload, 1) := by decide +kernel
theorem d_Pl_placeStatement_6 : decode b_Pl_placeStatement 6 = .ok (.istore_n 3, 1) := by decide +kernel
theorem d_Pl_placeStatement_7 : decode b_Pl_placeStatement 7 = .ok (.aload_n 1, 1) := by decide +kernel
theorem d_Pl_placeStatement_8 : decode b_Pl_placeStatement 8 = .ok (.getfield 78, 3) := by decide +kernel
theorem d_Pl_placeStatement_11 : decode b_Pl_placeStatement 11 = .ok (.iload_n 2, 1) := by decide +kernel
theorem d_Pl_placeStatement_12 : decode b_Pl_placeStatement 12 = .ok (.iaload, 1) := by decide +kernel
theorem d_Pl_placeStatement_13 : decode b_Pl_placeStatement 13 = .ok (.istore 4, 2) := by decide +kernel
theorem d_Pl_placeStatement_15 : decode b_Pl_placeStatement 15 = .ok (.aload_n 1, 1) := by decide +kernel
theorem d_Pl_placeStatement_16 : decode b_Pl_placeStatement 16 = .ok (.getfield 81, 3) := by decide +kernel
theorem d_Pl_placeStatement_19 : decode b_Pl_placeStatement 19 = .ok (.iload_n 2, 1) := by decide +kernel
theorem d_Pl_placeStatement_20 : decode b_Pl_placeStatement 20 = .ok (.iaload, 1) := by decide +kernel
theorem d_Pl_placeStatement_21 : decode b_Pl_placeStatement 21 = .ok (.tableswitch 164 0 5 #[39, 72, 105, 125, 136, 152], 39) := by decide +kernel
theorem d_Pl_placeStatement_60 : decode b_Pl_placeStatement 60 = .ok (.aload_n 0, 1) := by decide +kernel
theorem d_Pl_placeStatement_61 : decode b_Pl_placeStatement 61 = .ok (.iconst 2, 1) := by decide +kernel
theorem d_Pl_placeStatement_62 : decode b_Pl_placeStatement 62 = .ok (.bipush 6, 2) := by decide +kernel
theorem d_Pl_placeStatement_64 : decode b_Pl_placeStatement 64 = .ok (.iload_n 3, 1) := by decide +kernel
theorem d_Pl_placeStatement_65 : decode b_Pl_placeStatement 65 = .ok (.invokevirtual 84, 3) := by decide +kernel
theorem d_Pl_placeStatement_68 : decode b_Pl_placeStatement 68 = .ok (.aload_n 0, 1) := by decide +kernel
theorem d_Pl_placeStatement_69 : decode b_Pl_placeStatement 69 = .ok (.iconst 2, 1) := by decide +kernel
theorem d_Pl_placeStatement_70 : decode b_Pl_placeStatement 70 = .ok (.bipush 9, 2) := by decide +kernel
theorem d_Pl_placeStatement_72 : decode b_Pl_placeStatement 72 = .ok (.aload_n 1, 1) := by decide +kernel
theorem d_Pl_placeStatement_73 : decode b_Pl_placeStatement 73 = .ok (.getfield 88, 3) := by decide +kernel
theorem d_Pl_placeStatement_76 : decode b_Pl_placeStatement 76 = .ok (.iload_n 2, 1) := by decide +kernel
theorem d_Pl_placeStatement_77 : decode b_Pl_placeStatement 77 = .ok (.iaload, 1) := by decide +kernel
theorem d_Pl_placeStatement_78 : decode b_Pl_placeStatement 78 = .ok (.invokevirtual 84, 3) := by decide +kernel
theorem d_Pl_placeStatement_81 : decode b_Pl_placeStatement 81 = .ok (.aload_n 0, 1) := by decide +kernel
theorem d_Pl_placeStatement_82 : decode b_Pl_placeStatement 82 = .ok (.bipush 6, 2) := by decide +kernel
theorem d_Pl_placeStatement_84 : decode b_Pl_placeStatement 84 = .ok (.iconst 2, 1) := by decide +kernel
theorem d_Pl_placeStatement_85 : decode b_Pl_placeStatement 85 = .ok (.iload 4, 2) := by decide +kernel
theorem d_Pl_placeStatement_87 : decode b_Pl_placeStatement 87 = .ok (.invokevirtual 84, 3) := by decide +kernel
theorem d_Pl_placeStatement_90 : decode b_Pl_placeStatement 90 = .ok (.goto 99, 3) := by decide +kernel
theorem d_Pl_placeStatement_93 : decode b_Pl_placeStatement 93 = .ok (.aload_n 0, 1) := by decide +kernel
theorem d_Pl_placeStatement_94 : decode b_Pl_placeStatement 94 = .ok (.iconst 2, 1) := by decide +kernel
theorem d_Pl_placeStatement_95 : decode b_Pl_placeStatement 95 = .ok (.bipush 6, 2) := by decide +kernel
theorem d_Pl_placeStatement_97 : decode b_Pl_placeStatement 97 = .ok (.iload_n 3, 1) := by decide +kernel
theorem d_Pl_placeStatement_98 : decode b_Pl_placeStatement 98 = .ok (.invokevirtual 84, 3) := by decide +kernel
theorem d_Pl_placeStatement_101 : decode b_Pl_placeStatement 101 = .ok (.aload_n 0, 1) := by decide +kernel
theorem d_Pl_placeStatement_102 : decode b_Pl_placeStatement 102 = .ok (.iconst 2, 1) := by decide +kernel
theorem d_Pl_placeStatement_103 : decode b_Pl_placeStatement 103 = .ok (.bipush 10, 2) := by decide +kernel
theorem d_Pl_placeStatement_105 : decode b_Pl_placeStatement 105 = .ok (.aload_n 1, 1) := by decide +kernel
theorem d_Pl_placeStatement_106 : decode b_Pl_placeStatement 106 = .ok (.getfield 88, 3) := by decide +kernel
theorem d_Pl_placeStatement_109 : decode b_Pl_placeStatement 109 = .ok (.iload_n 2, 1) := by decide +kernel
theorem d_Pl_placeStatement_110 : decode b_Pl_placeStatement 110 = .ok (.iaload, 1) := by decide +kernel
theorem d_Pl_placeStatement_111 : decode b_Pl_placeStatement 111 = .ok (.invokevirtual 84, 3) := by decide +kernel
theorem d_Pl_placeStatement_114 : decode b_Pl_placeStatement 114 = .ok (.aload_n 0, 1) := by decide +kernel
theorem d_Pl_placeStatement_115 : decode b_Pl_placeStatement 115 = .ok (.bipush 6, 2) := by decide +kernel
theorem d_Pl_placeStatement_117 : decode b_Pl_placeStatement 117 = .ok (.iconst 2, 1) := by decide +kernel
theorem d_Pl_placeStatement_118 : decode b_Pl_placeStatement 118 = .ok (.iload 4, 2) := by decide +kernel
theorem d_Pl_placeStatement_120 : decode b_Pl_placeStatement 120 = .ok (.invokevirtual 84, 3) := by decide +kernel
theorem d_Pl_placeStatement_123 : decode b_Pl_placeStatement 123 = .ok (.goto 66, 3) := by decide +kernel
theorem d_Pl_placeStatement_126 : decode b_Pl_placeStatement 126 = .ok (.aload_n 0, 1) := by decide +kernel
theorem d_Pl_placeStatement_127 : decode b_Pl_placeStatement 127 = .ok (.iconst 2, 1) := by decide +kernel
theorem d_Pl_placeStatement_128 : decode b_Pl_placeStatement 128 = .ok (.bipush 6, 2) := by decide +kernel
theorem d_Pl_placeStatement_130 : decode b_Pl_placeStatement 130 = .ok (.iload_n 3, 1) := by decide +kernel
theorem d_Pl_placeStatement_131 : decode b_Pl_placeStatement 131 = .ok (.invokevirtual 84, 3) := by decide +kernel
theorem d_Pl_placeStatement_134 : decode b_Pl_placeStatement 134 = .ok (.aload_n 0, 1) := by decide +kernel
theorem d_Pl_placeStatement_135 : decode b_Pl_placeStatement 135 = .ok (.bipush 6, 2) := by decide +kernel
theorem d_Pl_placeStatement_137 : decode b_Pl_placeStatement 137 = .ok (.iconst 2, 1) := by decide +kernel
theorem d_Pl_placeStatement_138 : decode b_Pl_placeStatement 138 = .ok (.iload 4, 2) := by decide +kernel
theorem d_Pl_placeStatement_140 : decode b_Pl_placeStatement 140 = .ok (.invokevirtual 84, 3) := by decide +kernel
theorem d_Pl_placeStatement_143 : decode b_Pl_placeStatement 143 = .ok (.goto 46, 3) := by decide +kernel
theorem d_Pl_placeStatement_146 : decode b_Pl_placeStatement 146 = .ok (.aload_n 0, 1) := by decide +kernel
theorem d_Pl_placeStatement_147 : decode b_Pl_placeStatement 147 = .ok (.iconst 2, 1) := by decide +kernel
theorem d_Pl_placeStatement_148 : decode b_Pl_placeStatement 148 = .ok (.bipush 15, 2) := by decide +kernel
theorem d_Pl_placeStatement_150 : decode b_Pl_placeStatement 150 = .ok (.iload_n 3, 1) := by decide +kernel
theorem d_Pl_placeStatement_151 : decode b_Pl_placeStatement 151 = .ok (.invokevirtual 84, 3) := by decide +kernel
theorem d_Pl_placeStatement_154 : decode b_Pl_placeStatement 154 = .ok (.goto 35, 3) := by decide +kernel
theorem d_Pl_placeStatement_157 : decode b_Pl_placeStatement 157 = .ok (.aload_n 0, 1) := by decide +kernel
theorem d_Pl_placeStatement_158 : decode b_Pl_placeStatement 158 = .ok (.iconst 2, 1) := by decide +kernel
theorem d_Pl_placeStatement_159 : decode b_Pl_placeStatement 159 = .ok (.bipush 11, 2) := by decide +kernel
theorem d_Pl_placeStatement_161 : decode b_Pl_placeStatement 161 = .ok (.iload_n 3, 1) := by decide +kernel
theorem d_Pl_placeStatement_162 : decode b_Pl_placeStatement 162 = .ok (.invokevirtual 84, 3) := by decide +kernel
theorem d_Pl_placeStatement_165 : decode b_Pl_placeStatement 165 = .ok (.aload_n 0, 1) := by decide +kernel
theorem d_Pl_placeStatement_166 : decode b_Pl_placeStatement 166 = .ok (.iload_n 2, 1) := by decide +kernel
theorem d_Pl_placeStatement_167 : decode b_Pl_placeStatement 167 = .ok (.invokevirtual 91, 3) := by decide +kernel
theorem d_Pl_placeStatement_170 : decode b_Pl_placeStatement 170 = .ok (.goto 19, 3) := by decide +kernel
theorem d_Pl_placeStatement_173 : decode b_Pl_placeStatement 173 = .ok (.aload_n 0, 1) := by decide +kernel
theorem d_Pl_placeStatement_174 : decode b_Pl_placeStatement 174 = .ok (.bipush 13, 2) := by decide +kernel
theorem d_Pl_placeStatement_176 : decode b_Pl_placeStatement 176 = .ok (.iconst 2, 1) := by decide +kernel
theorem d_Pl_placeStatement_177 : decode b_Pl_placeStatement 177 = .ok (.iload 4, 2) := by decide +kernel
theorem d_Pl_placeStatement_179 : decode b_Pl_placeStatement 179 = .ok (.invokevirtual 84, 3) := by decide +kernel
theorem d_Pl_placeStatement_182 : decode b_Pl_placeStatement 182 = .ok (.goto 7, 3) := by decide +kernel
theorem d_Pl_placeStatement_185 : decode b_Pl_placeStatement 185 = .ok (.aload_n 0, 1) := by decide +kernel
theorem d_Pl_placeStatement_186 : decode b_Pl_placeStatement 186 = .ok (.invokevirtual 54, 3) := by decide +kernel
theorem d_Pl_placeStatement_189 : decode b_Pl_placeStatement 189 = .ok (.return_, 1) := by decide +kernel
theorem d_Pl_placeOrder_0 : decode b_Pl_placeOrder 0 = .ok (.aload_n 0, 1) := by decide +kernel
theorem d_Pl_placeOrder_1 : decode b_Pl_placeOrder 1 = .ok (.invokevirtual 42, 3) := by decide +kernel
theorem d_Pl_placeOrder_4 : decode b_Pl_placeOrder 4 = .ok (.istore 4, 2) := by decide +kernel
theorem d_Pl_placeOrder_6 : decode b_Pl_placeOrder 6 = .ok (.aload_n 0, 1) := by decide +kernel
theorem d_Pl_placeOrder_7 : decode b_Pl_placeOrder 7 = .ok (.getfield 57, 3) := by decide +kernel
theorem d_Pl_placeOrder_10 : decode b_Pl_placeOrder 10 = .ok (.ifCond .eq 8, 3) := by decide +kernel
theorem d_Pl_placeOrder_13 : decode b_Pl_placeOrder 13 = .ok (.iload 4, 2) := by decide +kernel
theorem d_Pl_placeOrder_15 : decode b_Pl_placeOrder 15 = .ok (.ifCond .ge 9, 3) := by decide +kernel
theorem d_Pl_placeOrder_18 : decode b_Pl_placeOrder 18 = .ok (.aload_n 0, 1) := by decide +kernel
theorem d_Pl_placeOrder_19 : decode b_Pl_placeOrder 19 = .ok (.iconst 0, 1) := by decide +kernel
theorem d_Pl_placeOrder_20 : decode b_Pl_placeOrder 20 = .ok (.putfield 57, 3) := by decide +kernel
theorem d_Pl_placeOrder_23 : decode b_Pl_placeOrder 23 = .ok (.return_, 1) := by decide +kernel
theorem d_Pl_placeOrder_24 : decode b_Pl_placeOrder 24 = .ok (.iload 4, 2) := by decide +kernel
theorem d_Pl_placeOrder_26 : decode b_Pl_placeOrder 26 = .ok (.iconst 2, 1) := by decide +kernel
theorem d_Pl_placeOrder_27 : decode b_Pl_placeOrder 27 = .ok (.iadd, 1) := by decide +kernel
theorem d_Pl_placeOrder_28 : decode b_Pl_placeOrder 28 = .ok (.bipush 31, 2) := by decide +kernel
theorem d_Pl_placeOrder_30 : decode b_Pl_placeOrder 30 = .ok (.iand, 1) := by decide +kernel
theorem d_Pl_placeOrder_31 : decode b_Pl_placeOrder 31 = .ok (.istore 5, 2) := by decide +kernel
theorem d_Pl_placeOrder_33 : decode b_Pl_placeOrder 33 = .ok (.iload_n 3, 1) := by decide +kernel
theorem d_Pl_placeOrder_34 : decode b_Pl_placeOrder 34 = .ok (.iconst (-1), 1) := by decide +kernel
theorem d_Pl_placeOrder_35 : decode b_Pl_placeOrder 35 = .ok (.if_icmp .ne 7, 3) := by decide +kernel
theorem d_Pl_placeOrder_38 : decode b_Pl_placeOrder 38 = .ok (.iconst 0, 1) := by decide +kernel
theorem d_Pl_placeOrder_39 : decode b_Pl_placeOrder 39 = .ok (.goto 16, 3) := by decide +kernel
theorem d_Pl_placeOrder_42 : decode b_Pl_placeOrder 42 = .ok (.aload_n 0, 1) := by decide +kernel
theorem d_Pl_placeOrder_43 : decode b_Pl_placeOrder 43 = .ok (.iload_n 3, 1) := by decide +kernel
theorem d_Pl_placeOrder_44 : decode b_Pl_placeOrder 44 = .ok (.iload 5, 2) := by decide +kernel
theorem d_Pl_placeOrder_46 : decode b_Pl_placeOrder 46 = .ok (.invokevirtual 95, 3) := by decide +kernel
theorem d_Pl_placeOrder_49 : decode b_Pl_placeOrder 49 = .ok (.iload 5, 2) := by decide +kernel
theorem d_Pl_placeOrder_51 : decode b_Pl_placeOrder 51 = .ok (.isub, 1) := by decide +kernel
theorem d_Pl_placeOrder_52 : decode b_Pl_placeOrder 52 = .ok (.bipush 31, 2) := by decide +kernel
theorem d_Pl_placeOrder_54 : decode b_Pl_placeOrder 54 = .ok (.iand, 1) := by decide +kernel
theorem d_Pl_placeOrder_55 : decode b_Pl_placeOrder 55 = .ok (.istore 6, 2) := by decide +kernel
theorem d_Pl_placeOrder_57 : decode b_Pl_placeOrder 57 = .ok (.aload_n 0, 1) := by decide +kernel
theorem d_Pl_placeOrder_58 : decode b_Pl_placeOrder 58 = .ok (.iload 4, 2) := by decide +kernel
theorem d_Pl_placeOrder_60 : decode b_Pl_placeOrder 60 = .ok (.iload_n 1, 1) := by decide +kernel
theorem d_Pl_placeOrder_61 : decode b_Pl_placeOrder 61 = .ok (.iload_n 2, 1) := by decide +kernel
theorem d_Pl_placeOrder_62 : decode b_Pl_placeOrder 62 = .ok (.iconst 4, 1) := by decide +kernel
theorem d_Pl_placeOrder_63 : decode b_Pl_placeOrder 63 = .ok (.ishl, 1) := by decide +kernel
theorem d_Pl_placeOrder_64 : decode b_Pl_placeOrder 64 = .ok (.ior, 1) := by decide +kernel
theorem d_Pl_placeOrder_65 : decode b_Pl_placeOrder 65 = .ok (.iload 6, 2) := by decide +kernel
theorem d_Pl_placeOrder_67 : decode b_Pl_placeOrder 67 = .ok (.bipush 10, 2) := by decide +kernel
theorem d_Pl_placeOrder_69 : decode b_Pl_placeOrder 69 = .ok (.ishl, 1) := by decide +kernel
theorem d_Pl_placeOrder_70 : decode b_Pl_placeOrder 70 = .ok (.ior, 1) := by decide +kernel
theorem d_Pl_placeOrder_71 : decode b_Pl_placeOrder 71 = .ok (.invokevirtual 99, 3) := by decide +kernel
theorem d_Pl_placeOrder_74 : decode b_Pl_placeOrder 74 = .ok (.aload_n 0, 1) := by decide +kernel
theorem d_Pl_placeOrder_75 : decode b_Pl_placeOrder 75 = .ok (.iload 5, 2) := by decide +kernel
theorem d_Pl_placeOrder_77 : decode b_Pl_placeOrder 77 = .ok (.iload 6, 2) := by decide +kernel
theorem d_Pl_placeOrder_79 : decode b_Pl_placeOrder 79 = .ok (.iadd, 1) := by decide +kernel
theorem d_Pl_placeOrder_80 : decode b_Pl_placeOrder 80 = .ok (.bipush 31, 2) := by decide +kernel
theorem d_Pl_placeOrder_82 : decode b_Pl_placeOrder 82 = .ok (.iand, 1) := by decide +kernel
theorem d_Pl_placeOrder_83 : decode b_Pl_placeOrder 83 = .ok (.putfield 68, 3) := by decide +kernel
theorem d_Pl_placeOrder_86 : decode b_Pl_placeOrder 86 = .ok (.return_, 1) := by decide +kernel
theorem d_Pl_placeStop_0 : decode b_Pl_placeStop 0 = .ok (.aload_n 0, 1) := by decide +kernel
theorem d_Pl_placeStop_1 : decode b_Pl_placeStop 1 = .ok (.iconst 0, 1) := by decide +kernel
theorem d_Pl_placeStop_2 : decode b_Pl_placeStop 2 = .ok (.iconst 1, 1) := by decide +kernel
theorem d_Pl_placeStop_3 : decode b_Pl_placeStop 3 = .ok (.iconst (-1), 1) := by decide +kernel
theorem d_Pl_placeStop_4 : decode b_Pl_placeStop 4 = .ok (.invokevirtual 84, 3) := by decide +kernel
theorem d_Pl_placeStop_7 : decode b_Pl_placeStop 7 = .ok (.aload_n 0, 1) := by decide +kernel
theorem d_Pl_placeStop_8 : decode b_Pl_placeStop 8 = .ok (.getfield 57, 3) := by decide +kernel
theorem d_Pl_placeStop_11 : decode b_Pl_placeStop 11 = .ok (.ifCond .eq 19, 3) := by decide +kernel
theorem d_Pl_placeStop_14 : decode b_Pl_placeStop 14 = .ok (.aload_n 0, 1) := by decide +kernel
theorem d_Pl_placeStop_15 : decode b_Pl_placeStop 15 = .ok (.getfield 9, 3) := by decide +kernel
theorem d_Pl_placeStop_18 : decode b_Pl_placeStop 18 = .ok (.aload_n 0, 1) := by decide +kernel
theorem d_Pl_placeStop_19 : decode b_Pl_placeStop 19 = .ok (.getfield 71, 3) := by decide +kernel
theorem d_Pl_placeStop_22 : decode b_Pl_placeStop 22 = .ok (.ldc 103, 2) := by decide +kernel
theorem d_Pl_placeStop_24 : decode b_Pl_placeStop 24 = .ok (.iastore, 1) := by decide +kernel
theorem d_Pl_placeStop_25 : decode b_Pl_placeStop 25 = .ok (.aload_n 0, 1) := by decide +kernel
theorem d_Pl_placeStop_26 : decode b_Pl_placeStop 26 = .ok (.iconst (-1), 1) := by decide +kernel
theorem d_Pl_placeStop_27 : decode b_Pl_placeStop 27 = .ok (.putfield 71, 3) := by decide +kernel
theorem d_Pl_placeStop_30 : decode b_Pl_placeStop 30 = .ok (.return_, 1) := by decide +kernel
theorem d_Pl_placeFork_0 : decode b_Pl_placeFork 0 = .ok (.aload_n 0, 1) := by decide +kernel
theorem d_Pl_placeFork_1 : decode b_Pl_placeFork 1 = .ok (.invokevirtual 104, 3) := by decide +kernel
theorem d_Pl_placeFork_4 : decode b_Pl_placeFork 4 = .ok (.istore_n 2, 1) := by decide +kernel
theorem d_Pl_placeFork_5 : decode b_Pl_placeFork 5 = .ok (.aload_n 0, 1) := by decide +kernel
theorem d_Pl_placeFork_6 : decode b_Pl_placeFork 6 = .ok (.getfield 57, 3) := by decide +kernel
theorem d_Pl_placeFork_9 : decode b_Pl_placeFork 9 = .ok (.ifCond .eq 7, 3) := by decide +kernel
theorem d_Pl_placeFork_12 : decode b_Pl_placeFork 12 = .ok (.iload_n 2, 1) := by decide +kernel
theorem d_Pl_placeFork_13 : decode b_Pl_placeFork 13 = .ok (.ifCond .ge 9, 3) := by decide +kernel
theorem d_Pl_placeFork_16 : decode b_Pl_placeFork 16 = .ok (.aload_n 0, 1) := by decide +kernel
theorem d_Pl_placeFork_17 : decode b_Pl_placeFork 17 = .ok (.iconst 0, 1) := by decide +kernel
theorem d_Pl_placeFork_18 : decode b_Pl_placeFork 18 = .ok (.putfield 57, 3) := by decide +kernel
theorem d_Pl_placeFork_21 : decode b_Pl_placeFork 21 = .ok (.return_, 1) := by decide +kernel
theorem d_Pl_placeFork_22 : decode b_Pl_placeFork 22 = .ok (.iload_n 2, 1) := by decide +kernel
theorem d_Pl_placeFork_23 : decode b_Pl_placeFork 23 = .ok (.bipush 32, 2) := by decide +kernel
theorem d_Pl_placeFork_25 : decode b_Pl_placeFork 25 = .ok (.iand, 1) := by decide +kernel
theorem d_Pl_placeFork_26 : decode b_Pl_placeFork 26 = .ok (.iload_n 2, 1) := by decide +kernel
theorem d_Pl_placeFork_27 : decode b_Pl_placeFork 27 = .ok (.iconst 1, 1) := by decide +kernel
theorem d_Pl_placeFork_28 : decode b_Pl_placeFork 28 = .ok (.iadd, 1) := by decide +kernel
theorem d_Pl_placeFork_29 : decode b_Pl_placeFork 29 = .ok (.bipush 31, 2) := by decide +kernel
theorem d_Pl_placeFork_31 : decode b_Pl_placeFork 31 = .ok (.iand, 1) := by decide +kernel
theorem d_Pl_placeFork_32 : decode b_Pl_placeFork 32 = .ok (.ior, 1) := by decide +kernel
theorem d_Pl_placeFork_33 : decode b_Pl_placeFork 33 = .ok (.istore_n 3, 1) := by decide +kernel
theorem d_Pl_placeFork_34 : decode b_Pl_placeFork 34 = .ok (.aload_n 0, 1) := by decide +kernel
theorem d_Pl_placeFork_35 : decode b_Pl_placeFork 35 = .ok (.iload_n 2, 1) := by decide +kernel
theorem d_Pl_placeFork_36 : decode b_Pl_placeFork 36 = .ok (.iconst 0, 1) := by decide +kernel
theorem d_Pl_placeFork_37 : decode b_Pl_placeFork 37 = .ok (.invokevirtual 99, 3) := by decide +kernel
theorem d_Pl_placeFork_40 : decode b_Pl_placeFork 40 = .ok (.aload_n 0, 1) := by decide +kernel
theorem d_Pl_placeFork_41 : decode b_Pl_placeFork 41 = .ok (.getfield 9, 3) := by decide +kernel
theorem d_Pl_placeFork_44 : decode b_Pl_placeFork 44 = .ok (.iload_n 3, 1) := by decide +kernel
theorem d_Pl_placeFork_45 : decode b_Pl_placeFork 45 = .ok (.iconst 0, 1) := by decide +kernel
theorem d_Pl_placeFork_46 : decode b_Pl_placeFork 46 = .ok (.iastore, 1) := by decide +kernel
theorem d_Pl_placeFork_47 : decode b_Pl_placeFork 47 = .ok (.aload_n 0, 1) := by decide +kernel
theorem d_Pl_placeFork_48 : decode b_Pl_placeFork 48 = .ok (.dup, 1) := by decide +kernel
theorem d_Pl_placeFork_49 : decode b_Pl_placeFork 49 = .ok (.getfield 74, 3) := by decide +kernel
theorem d_Pl_placeFork_52 : decode b_Pl_placeFork 52 = .ok (.iconst 1, 1) := by decide +kernel
theorem d_Pl_placeFork_53 : decode b_Pl_placeFork 53 = .ok (.iadd, 1) := by decide +kernel
theorem d_Pl_placeFork_54 : decode b_Pl_placeFork 54 = .ok (.putfield 74, 3) := by decide +kernel
theorem d_Pl_placeFork_57 : decode b_Pl_placeFork 57 = .ok (.aload_n 0, 1) := by decide +kernel
theorem d_Pl_placeFork_58 : decode b_Pl_placeFork 58 = .ok (.getfield 24, 3) := by decide +kernel
theorem d_Pl_placeFork_61 : decode b_Pl_placeFork 61 = .ok (.iload_n 1, 1) := by decide +kernel
theorem d_Pl_placeFork_62 : decode b_Pl_placeFork 62 = .ok (.iload_n 3, 1) := by decide +kernel
theorem d_Pl_placeFork_63 : decode b_Pl_placeFork 63 = .ok (.iastore, 1) := by decide +kernel
theorem d_Pl_placeFork_64 : decode b_Pl_placeFork 64 = .ok (.aload_n 0, 1) := by decide +kernel
theorem d_Pl_placeFork_65 : decode b_Pl_placeFork 65 = .ok (.iload_n 2, 1) := by decide +kernel
theorem d_Pl_placeFork_66 : decode b_Pl_placeFork 66 = .ok (.iconst 2, 1) := by decide +kernel
theorem d_Pl_placeFork_67 : decode b_Pl_placeFork 67 = .ok (.iadd, 1) := by decide +kernel
theorem d_Pl_placeFork_68 : decode b_Pl_placeFork 68 = .ok (.bipush 31, 2) := by decide +kernel
theorem d_Pl_placeFork_70 : decode b_Pl_placeFork 70 = .ok (.iand, 1) := by decide +kernel
theorem d_Pl_placeFork_71 : decode b_Pl_placeFork 71 = .ok (.putfield 68, 3) := by decide +kernel
theorem d_Pl_placeFork_74 : decode b_Pl_placeFork 74 = .ok (.return_, 1) := by decide +kernel
theorem d_Pl_occupy_0 : decode b_Pl_occupy 0 = .ok (.aload_n 0, 1) := by decide +kernel
theorem d_Pl_occupy_1 : decode b_Pl_occupy 1 = .ok (.getfield 71, 3) := by decide +kernel
theorem d_Pl_occupy_4 : decode b_Pl_occupy 4 = .ok (.ifCond .lt 12, 3) := by decide +kernel
theorem d_Pl_occupy_7 : decode b_Pl_occupy 7 = .ok (.aload_n 0, 1) := by decide +kernel
theorem d_Pl_occupy_8 : decode b_Pl_occupy 8 = .ok (.aload_n 0, 1) := by decide +kernel
theorem d_Pl_occupy_9 : decode b_Pl_occupy 9 = .ok (.getfield 71, 3) := by decide +kernel
theorem d_Pl_occupy_12 : decode b_Pl_occupy 12 = .ok (.iload_n 1, 1) := by decide +kernel
theorem d_Pl_occupy_13 : decode b_Pl_occupy 13 = .ok (.invokevirtual 107, 3) := by decide +kernel
theorem d_Pl_occupy_16 : decode b_Pl_occupy 16 = .ok (.aload_n 0, 1) := by decide +kernel
theorem d_Pl_occupy_17 : decode b_Pl_occupy 17 = .ok (.getfield 9, 3) := by decide +kernel
theorem d_Pl_occupy_20 : decode b_Pl_occupy 20 = .ok (.iload_n 1, 1) := by decide +kernel
theorem d_Pl_occupy_21 : decode b_Pl_occupy 21 = .ok (.iload_n 2, 1) := by decide +kernel
theorem d_Pl_occupy_22 : decode b_Pl_occupy 22 = .ok (.iastore, 1) := by decide +kernel
theorem d_Pl_occupy_23 : decode b_Pl_occupy 23 = .ok (.aload_n 0, 1) := by decide +kernel
theorem d_Pl_occupy_24 : decode b_Pl_occupy 24 = .ok (.iload_n 1, 1) := by decide +kernel
theorem d_Pl_occupy_25 : decode b_Pl_occupy 25 = .ok (.putfield 71, 3) := by decide +kernel
theorem d_Pl_occupy_28 : decode b_Pl_occupy 28 = .ok (.aload_n 0, 1) := by decide +kernel
theorem d_Pl_occupy_29 : decode b_Pl_occupy 29 = .ok (.dup, 1) := by decide +kernel
theorem d_Pl_occupy_30 : decode b_Pl_occupy 30 = .ok (.getfield 74, 3) := by decide +kernel
theorem d_Pl_occupy_33 : decode b_Pl_occupy 33 = .ok (.iconst 1, 1) := by decide +kernel
theorem d_Pl_occupy_34 : decode b_Pl_occupy 34 = .ok (.iadd, 1) := by decide +kernel
theorem d_Pl_occupy_35 : decode b_Pl_occupy 35 = .ok (.putfield 74, 3) := by decide +kernel
theorem d_Pl_occupy_38 : decode b_Pl_occupy 38 = .ok (.return_, 1) := by decide +kernel
theorem d_Pl_lead_0 : decode b_Pl_lead 0 = .ok (.iload_n 2, 1) := by decide +kernel
theorem d_Pl_lead_1 : decode b_Pl_lead 1 = .ok (.iload_n 1, 1) := by decide +kernel
theorem d_Pl_lead_2 : decode b_Pl_lead 2 = .ok (.isub, 1) := by decide +kernel
theorem d_Pl_lead_3 : decode b_Pl_lead 3 = .ok (.iconst 2, 1) := by decide +kernel
theorem d_Pl_lead_4 : decode b_Pl_lead 4 = .ok (.isub, 1) := by decide +kernel
theorem d_Pl_lead_5 : decode b_Pl_lead 5 = .ok (.bipush 31, 2) := by decide +kernel
theorem d_Pl_lead_7 : decode b_Pl_lead 7 = .ok (.iand, 1) := by decide +kernel
theorem d_Pl_lead_8 : decode b_Pl_lead 8 = .ok (.istore_n 3, 1) := by decide +kernel
theorem d_Pl_lead_9 : decode b_Pl_lead 9 = .ok (.aload_n 0, 1) := by decide +kernel
theorem d_Pl_lead_10 : decode b_Pl_lead 10 = .ok (.getfield 9, 3) := by decide +kernel
theorem d_Pl_lead_13 : decode b_Pl_lead 13 = .ok (.iload_n 1, 1) := by decide +kernel
theorem d_Pl_lead_14 : decode b_Pl_lead 14 = .ok (.dup2, 1) := by decide +kernel
theorem d_Pl_lead_15 : decode b_Pl_lead 15 = .ok (.iaload, 1) := by decide +kernel
theorem d_Pl_lead_16 : decode b_Pl_lead 16 = .ok (.iload_n 3, 1) := by decide +kernel
theorem d_Pl_lead_17 : decode b_Pl_lead 17 = .ok (.bipush 15, 2) := by decide +kernel
theorem d_Pl_lead_19 : decode b_Pl_lead 19 = .ok (.ishl, 1) := by decide +kernel
theorem d_Pl_lead_20 : decode b_Pl_lead 20 = .ok (.iload_n 2, 1) := by decide +kernel
theorem d_Pl_lead_21 : decode b_Pl_lead 21 = .ok (.bipush 32, 2) := by decide +kernel
theorem d_Pl_lead_23 : decode b_Pl_lead 23 = .ok (.idiv, 1) := by decide +kernel
theorem d_Pl_lead_24 : decode b_Pl_lead 24 = .ok (.bipush 20, 2) := by decide +kernel
theorem d_Pl_lead_26 : decode b_Pl_lead 26 = .ok (.ishl, 1) := by decide +kernel
theorem d_Pl_lead_27 : decode b_Pl_lead 27 = .ok (.ior, 1) := by decide +kernel
theorem d_Pl_lead_28 : decode b_Pl_lead 28 = .ok (.ior, 1) := by decide +kernel
theorem d_Pl_lead_29 : decode b_Pl_lead 29 = .ok (.iastore, 1) := by decide +kernel
theorem d_Pl_lead_30 : decode b_Pl_lead 30 = .ok (.return_, 1) := by decide +kernel
theorem d_Pl_freeSpot_0 : decode b_Pl_freeSpot 0 = .ok (.iconst 0, 1) := by decide +kernel
theorem d_Pl_freeSpot_1 : decode b_Pl_freeSpot 1 = .ok (.istore_n 1, 1) := by decide +kernel
theorem d_Pl_freeSpot_2 : decode b_Pl_freeSpot 2 = .ok (.iload_n 1, 1) := by decide +kernel
theorem d_Pl_freeSpot_3 : decode b_Pl_freeSpot 3 = .ok (.bipush 32, 2) := by decide +kernel
theorem d_Pl_freeSpot_5 : decode b_Pl_freeSpot 5 = .ok (.if_icmp .ge 48, 3) := by decide +kernel
theorem d_Pl_freeSpot_8 : decode b_Pl_freeSpot 8 = .ok (.aload_n 0, 1) := by decide +kernel
theorem d_Pl_freeSpot_9 : decode b_Pl_freeSpot 9 = .ok (.getfield 68, 3) := by decide +kernel
theorem d_Pl_freeSpot_12 : decode b_Pl_freeSpot 12 = .ok (.iload_n 1, 1) := by decide +kernel
theorem d_Pl_freeSpot_13 : decode b_Pl_freeSpot 13 = .ok (.iadd, 1) := by decide +kernel
theorem d_Pl_freeSpot_14 : decode b_Pl_freeSpot 14 = .ok (.bipush 31, 2) := by decide +kernel
theorem d_Pl_freeSpot_16 : decode b_Pl_freeSpot 16 = .ok (.iand, 1) := by decide +kernel
theorem d_Pl_freeSpot_17 : decode b_Pl_freeSpot 17 = .ok (.istore_n 2, 1) := by decide +kernel
theorem d_Pl_freeSpot_18 : decode b_Pl_freeSpot 18 = .ok (.iconst 0, 1) := by decide +kernel
theorem d_Pl_freeSpot_19 : decode b_Pl_freeSpot 19 = .ok (.istore_n 3, 1) := by decide +kernel
theorem d_Pl_freeSpot_20 : decode b_Pl_freeSpot 20 = .ok (.iload_n 3, 1) := by decide +kernel
theorem d_Pl_freeSpot_21 : decode b_Pl_freeSpot 21 = .ok (.iconst 2, 1) := by decide +kernel
theorem d_Pl_freeSpot_22 : decode b_Pl_freeSpot 22 = .ok (.if_icmp .ge 25, 3) := by decide +kernel
theorem d_Pl_freeSpot_25 : decode b_Pl_freeSpot 25 = .ok (.aload_n 0, 1) := by decide +kernel
theorem d_Pl_freeSpot_26 : decode b_Pl_freeSpot 26 = .ok (.iload_n 3, 1) := by decide +kernel
theorem d_Pl_freeSpot_27 : decode b_Pl_freeSpot 27 = .ok (.iload_n 2, 1) := by decide +kernel
theorem d_Pl_freeSpot_28 : decode b_Pl_freeSpot 28 = .ok (.invokevirtual 110, 3) := by decide +kernel
theorem d_Pl_freeSpot_31 : decode b_Pl_freeSpot 31 = .ok (.ifCond .eq 10, 3) := by decide +kernel
theorem d_Pl_freeSpot_34 : decode b_Pl_freeSpot 34 = .ok (.iload_n 3, 1) := by decide +kernel
theorem d_Pl_freeSpot_35 : decode b_Pl_freeSpot 35 = .ok (.bipush 32, 2) := by decide +kernel
theorem d_Pl_freeSpot_37 : decode b_Pl_freeSpot 37 = .ok (.imul, 1) := by decide +kernel
theorem d_Pl_freeSpot_38 : decode b_Pl_freeSpot 38 = .ok (.iload_n 2, 1) := by decide +kernel
theorem d_Pl_freeSpot_39 : decode b_Pl_freeSpot 39 = .ok (.iadd, 1) := by decide +kernel
theorem d_Pl_freeSpot_40 : decode b_Pl_freeSpot 40 = .ok (.ireturn, 1) := by decide +kernel
theorem d_Pl_freeSpot_41 : decode b_Pl_freeSpot 41 = .ok (.iinc 3 1, 3) := by decide +kernel
theorem d_Pl_freeSpot_44 : decode b_Pl_freeSpot 44 = .ok (.goto (-24), 3) := by decide +kernel
theorem d_Pl_freeSpot_47 : decode b_Pl_freeSpot 47 = .ok (.iinc 1 1, 3) := by decide +kernel
theorem d_Pl_freeSpot_50 : decode b_Pl_freeSpot 50 = .ok (.goto (-48), 3) := by decide +kernel
theorem d_Pl_freeSpot_53 : decode b_Pl_freeSpot 53 = .ok (.iconst (-1), 1) := by decide +kernel
theorem d_Pl_freeSpot_54 : decode b_Pl_freeSpot 54 = .ok (.ireturn, 1) := by decide +kernel
theorem d_Pl_forkSpot_0 : decode b_Pl_forkSpot 0 = .ok (.iconst 1, 1) := by decide +kernel
theorem d_Pl_forkSpot_1 : decode b_Pl_forkSpot 1 = .ok (.istore_n 1, 1) := by decide +kernel
theorem d_Pl_forkSpot_2 : decode b_Pl_forkSpot 2 = .ok (.iload_n 1, 1) := by decide +kernel
theorem d_Pl_forkSpot_3 : decode b_Pl_forkSpot 3 = .ok (.bipush 32, 2) := by decide +kernel
theorem d_Pl_forkSpot_5 : decode b_Pl_forkSpot 5 = .ok (.if_icmp .ge 62, 3) := by decide +kernel
theorem d_Pl_forkSpot_8 : decode b_Pl_forkSpot 8 = .ok (.aload_n 0, 1) := by decide +kernel
theorem d_Pl_forkSpot_9 : decode b_Pl_forkSpot 9 = .ok (.getfield 68, 3) := by decide +kernel
theorem d_Pl_forkSpot_12 : decode b_Pl_forkSpot 12 = .ok (.iload_n 1, 1) := by decide +kernel
theorem d_Pl_forkSpot_13 : decode b_Pl_forkSpot 13 = .ok (.iadd, 1) := by decide +kernel
theorem d_Pl_forkSpot_14 : decode b_Pl_forkSpot 14 = .ok (.bipush 31, 2) := by decide +kernel
theorem d_Pl_forkSpot_16 : decode b_Pl_forkSpot 16 = .ok (.iand, 1) := by decide +kernel
theorem d_Pl_forkSpot_17 : decode b_Pl_forkSpot 17 = .ok (.istore_n 2, 1) := by decide +kernel
theorem d_Pl_forkSpot_18 : decode b_Pl_forkSpot 18 = .ok (.iconst 0, 1) := by decide +kernel
theorem d_Pl_forkSpot_19 : decode b_Pl_forkSpot 19 = .ok (.istore_n 3, 1) := by decide +kernel
theorem d_Pl_forkSpot_20 : decode b_Pl_forkSpot 20 = .ok (.iload_n 3, 1) := by decide +kernel
theorem d_Pl_forkSpot_21 : decode b_Pl_forkSpot 21 = .ok (.iconst 2, 1) := by decide +kernel
theorem d_Pl_forkSpot_22 : decode b_Pl_forkSpot 22 = .ok (.if_icmp .ge 39, 3) := by decide +kernel
theorem d_Pl_forkSpot_25 : decode b_Pl_forkSpot 25 = .ok (.aload_n 0, 1) := by decide +kernel
theorem d_Pl_forkSpot_26 : decode b_Pl_forkSpot 26 = .ok (.iload_n 3, 1) := by decide +kernel
theorem d_Pl_forkSpot_27 : decode b_Pl_forkSpot 27 = .ok (.iload_n 2, 1) := by decide +kernel
theorem d_Pl_forkSpot_28 : decode b_Pl_forkSpot 28 = .ok (.invokevirtual 110, 3) := by decide +kernel
theorem d_Pl_forkSpot_31 : decode b_Pl_forkSpot 31 = .ok (.ifCond .eq 24, 3) := by decide +kernel
theorem d_Pl_forkSpot_34 : decode b_Pl_forkSpot 34 = .ok (.aload_n 0, 1) := by decide +kernel
theorem d_Pl_forkSpot_35 : decode b_Pl_forkSpot 35 = .ok (.iload_n 3, 1) := by decide +kernel
theorem d_Pl_forkSpot_36 : decode b_Pl_forkSpot 36 = .ok (.iload_n 2, 1) := by decide +kernel
theorem d_Pl_forkSpot_37 : decode b_Pl_forkSpot 37 = .ok (.iconst 1, 1) := by decide +kernel
theorem d_Pl_forkSpot_38 : decode b_Pl_forkSpot 38 = .ok (.iadd, 1) := by decide +kernel
theorem d_Pl_forkSpot_39 : decode b_Pl_forkSpot 39 = .ok (.bipush 31, 2) := by decide +kernel
theorem d_Pl_forkSpot_41 : decode b_Pl_forkSpot 41 = .ok (.iand, 1) := by decide +kernel
theorem d_Pl_forkSpot_42 : decode b_Pl_forkSpot 42 = .ok (.invokevirtual 110, 3) := by decide +kernel
theorem d_Pl_forkSpot_45 : decode b_Pl_forkSpot 45 = .ok (.ifCond .eq 10, 3) := by decide +kernel
theorem d_Pl_forkSpot_48 : decode b_Pl_forkSpot 48 = .ok (.iload_n 3, 1) := by decide +kernel
theorem d_Pl_forkSpot_49 : decode b_Pl_forkSpot 49 = .ok (.bipush 32, 2) := by decide +kernel
theorem d_Pl_forkSpot_51 : decode b_Pl_forkSpot 51 = .ok (.imul, 1) := by decide +kernel
theorem d_Pl_forkSpot_52 : decode b_Pl_forkSpot 52 = .ok (.iload_n 2, 1) := by decide +kernel
theorem d_Pl_forkSpot_53 : decode b_Pl_forkSpot 53 = .ok (.iadd, 1) := by decide +kernel
theorem d_Pl_forkSpot_54 : decode b_Pl_forkSpot 54 = .ok (.ireturn, 1) := by decide +kernel
theorem d_Pl_forkSpot_55 : decode b_Pl_forkSpot 55 = .ok (.iinc 3 1, 3) := by decide +kernel
theorem d_Pl_forkSpot_58 : decode b_Pl_forkSpot 58 = .ok (.goto (-38), 3) := by decide +kernel
theorem d_Pl_forkSpot_61 : decode b_Pl_forkSpot 61 = .ok (.iinc 1 1, 3) := by decide +kernel
theorem d_Pl_forkSpot_64 : decode b_Pl_forkSpot 64 = .ok (.goto (-62), 3) := by decide +kernel
theorem d_Pl_forkSpot_67 : decode b_Pl_forkSpot 67 = .ok (.iconst (-1), 1) := by decide +kernel
theorem d_Pl_forkSpot_68 : decode b_Pl_forkSpot 68 = .ok (.ireturn, 1) := by decide +kernel
theorem d_Pl_isFree_0 : decode b_Pl_isFree 0 = .ok (.aload_n 0, 1) := by decide +kernel
theorem d_Pl_isFree_1 : decode b_Pl_isFree 1 = .ok (.getfield 9, 3) := by decide +kernel
theorem d_Pl_isFree_4 : decode b_Pl_isFree 4 = .ok (.iload_n 1, 1) := by decide +kernel
theorem d_Pl_isFree_5 : decode b_Pl_isFree 5 = .ok (.bipush 32, 2) := by decide +kernel
theorem d_Pl_isFree_7 : decode b_Pl_isFree 7 = .ok (.imul, 1) := by decide +kernel
theorem d_Pl_isFree_8 : decode b_Pl_isFree 8 = .ok (.iload_n 2, 1) := by decide +kernel
theorem d_Pl_isFree_9 : decode b_Pl_isFree 9 = .ok (.iadd, 1) := by decide +kernel
theorem d_Pl_isFree_10 : decode b_Pl_isFree 10 = .ok (.iaload, 1) := by decide +kernel
theorem d_Pl_isFree_11 : decode b_Pl_isFree 11 = .ok (.iconst (-1), 1) := by decide +kernel
theorem d_Pl_isFree_12 : decode b_Pl_isFree 12 = .ok (.if_icmp .ne 7, 3) := by decide +kernel
theorem d_Pl_isFree_15 : decode b_Pl_isFree 15 = .ok (.iconst 1, 1) := by decide +kernel
theorem d_Pl_isFree_16 : decode b_Pl_isFree 16 = .ok (.goto 4, 3) := by decide +kernel
theorem d_Pl_isFree_19 : decode b_Pl_isFree 19 = .ok (.iconst 0, 1) := by decide +kernel
theorem d_Pl_isFree_20 : decode b_Pl_isFree 20 = .ok (.ireturn, 1) := by decide +kernel
theorem d_Pl_variablePlace_0 : decode b_Pl_variablePlace 0 = .ok (.iconst 0, 1) := by decide +kernel
theorem d_Pl_variablePlace_1 : decode b_Pl_variablePlace 1 = .ok (.istore_n 3, 1) := by decide +kernel
theorem d_Pl_variablePlace_2 : decode b_Pl_variablePlace 2 = .ok (.iload_n 3, 1) := by decide +kernel
theorem d_Pl_variablePlace_3 : decode b_Pl_variablePlace 3 = .ok (.bipush 32, 2) := by decide +kernel
theorem d_Pl_variablePlace_5 : decode b_Pl_variablePlace 5 = .ok (.if_icmp .ge 54, 3) := by decide +kernel
theorem d_Pl_variablePlace_8 : decode b_Pl_variablePlace 8 = .ok (.aload_n 0, 1) := by decide +kernel
theorem d_Pl_variablePlace_9 : decode b_Pl_variablePlace 9 = .ok (.getfield 18, 3) := by decide +kernel
theorem d_Pl_variablePlace_12 : decode b_Pl_variablePlace 12 = .ok (.iload_n 1, 1) := by decide +kernel
theorem d_Pl_variablePlace_13 : decode b_Pl_variablePlace 13 = .ok (.iaload, 1) := by decide +kernel
theorem d_Pl_variablePlace_14 : decode b_Pl_variablePlace 14 = .ok (.iconst (-1), 1) := by decide +kernel
theorem d_Pl_variablePlace_15 : decode b_Pl_variablePlace 15 = .ok (.if_icmp .ne 44, 3) := by decide +kernel
theorem d_Pl_variablePlace_18 : decode b_Pl_variablePlace 18 = .ok (.iload_n 2, 1) := by decide +kernel
theorem d_Pl_variablePlace_19 : decode b_Pl_variablePlace 19 = .ok (.iload_n 3, 1) := by decide +kernel
theorem d_Pl_variablePlace_20 : decode b_Pl_variablePlace 20 = .ok (.iadd, 1) := by decide +kernel
theorem d_Pl_variablePlace_21 : decode b_Pl_variablePlace 21 = .ok (.bipush 31, 2) := by decide +kernel
theorem d_Pl_variablePlace_23 : decode b_Pl_variablePlace 23 = .ok (.iand, 1) := by decide +kernel
theorem d_Pl_variablePlace_24 : decode b_Pl_variablePlace 24 = .ok (.istore 4, 2) := by decide +kernel
theorem d_Pl_variablePlace_26 : decode b_Pl_variablePlace 26 = .ok (.aload_n 0, 1) := by decide +kernel
theorem d_Pl_variablePlace_27 : decode b_Pl_variablePlace 27 = .ok (.getfield 15, 3) := by decide +kernel
theorem d_Pl_variablePlace_30 : decode b_Pl_variablePlace 30 = .ok (.iload 4, 2) := by decide +kernel
theorem d_Pl_variablePlace_32 : decode b_Pl_variablePlace 32 = .ok (.iaload, 1) := by decide +kernel
theorem d_Pl_variablePlace_33 : decode b_Pl_variablePlace 33 = .ok (.iconst (-1), 1) := by decide +kernel
theorem d_Pl_variablePlace_34 : decode b_Pl_variablePlace 34 = .ok (.if_icmp .ne 19, 3) := by decide +kernel
theorem d_Pl_variablePlace_37 : decode b_Pl_variablePlace 37 = .ok (.aload_n 0, 1) := by decide +kernel
theorem d_Pl_variablePlace_38 : decode b_Pl_variablePlace 38 = .ok (.getfield 15, 3) := by decide +kernel
theorem d_Pl_variablePlace_41 : decode b_Pl_variablePlace 41 = .ok (.iload 4, 2) := by decide +kernel
theorem d_Pl_variablePlace_43 : decode b_Pl_variablePlace 43 = .ok (.iload_n 1, 1) := by decide +kernel
theorem d_Pl_variablePlace_44 : decode b_Pl_variablePlace 44 = .ok (.iastore, 1) := by decide +kernel
theorem d_Pl_variablePlace_45 : decode b_Pl_variablePlace 45 = .ok (.aload_n 0, 1) := by decide +kernel
theorem d_Pl_variablePlace_46 : decode b_Pl_variablePlace 46 = .ok (.getfield 18, 3) := by decide +kernel
theorem d_Pl_variablePlace_49 : decode b_Pl_variablePlace 49 = .ok (.iload_n 1, 1) := by decide +kernel
theorem d_Pl_variablePlace_50 : decode b_Pl_variablePlace 50 = .ok (.iload 4, 2) := by decide +kernel
theorem d_Pl_variablePlace_52 : decode b_Pl_variablePlace 52 = .ok (.iastore, 1) := by decide +kernel
theorem d_Pl_variablePlace_53 : decode b_Pl_variablePlace 53 = .ok (.iinc 3 1, 3) := by decide +kernel
theorem d_Pl_variablePlace_56 : decode b_Pl_variablePlace 56 = .ok (.goto (-54), 3) := by decide +kernel
theorem d_Pl_variablePlace_59 : decode b_Pl_variablePlace 59 = .ok (.aload_n 0, 1) := by decide +kernel
theorem d_Pl_variablePlace_60 : decode b_Pl_variablePlace 60 = .ok (.getfield 18, 3) := by decide +kernel
theorem d_Pl_variablePlace_63 : decode b_Pl_variablePlace 63 = .ok (.iload_n 1, 1) := by decide +kernel
theorem d_Pl_variablePlace_64 : decode b_Pl_variablePlace 64 = .ok (.iaload, 1) := by decide +kernel
theorem d_Pl_variablePlace_65 : decode b_Pl_variablePlace 65 = .ok (.ireturn, 1) := by decide +kernel
theorem d_Pl_leadBranches_0 : decode b_Pl_leadBranches 0 = .ok (.iconst 0, 1) := by decide +kernel
theorem d_Pl_leadBranches_1 : decode b_Pl_leadBranches 1 = .ok (.istore_n 2, 1) := by decide +kernel
theorem d_Pl_leadBranches_2 : decode b_Pl_leadBranches 2 = .ok (.iload_n 2, 1) := by decide +kernel
theorem d_Pl_leadBranches_3 : decode b_Pl_leadBranches 3 = .ok (.aload_n 1, 1) := by decide +kernel
theorem d_Pl_leadBranches_4 : decode b_Pl_leadBranches 4 = .ok (.getfield 36, 3) := by decide +kernel
theorem d_Pl_leadBranches_7 : decode b_Pl_leadBranches 7 = .ok (.if_icmp .ge 40, 3) := by decide +kernel
theorem d_Pl_leadBranches_10 : decode b_Pl_leadBranches 10 = .ok (.aload_n 0, 1) := by decide +kernel
theorem d_Pl_leadBranches_11 : decode b_Pl_leadBranches 11 = .ok (.getfield 24, 3) := by decide +kernel
theorem d_Pl_leadBranches_14 : decode b_Pl_leadBranches 14 = .ok (.iload_n 2, 1) := by decide +kernel
theorem d_Pl_leadBranches_15 : decode b_Pl_leadBranches 15 = .ok (.iaload, 1) := by decide +kernel
theorem d_Pl_leadBranches_16 : decode b_Pl_leadBranches 16 = .ok (.iconst (-1), 1) := by decide +kernel
theorem d_Pl_leadBranches_17 : decode b_Pl_leadBranches 17 = .ok (.if_icmp .eq 24, 3) := by decide +kernel
theorem d_Pl_leadBranches_20 : decode b_Pl_leadBranches 20 = .ok (.aload_n 0, 1) := by decide +kernel
theorem d_Pl_leadBranches_21 : decode b_Pl_leadBranches 21 = .ok (.aload_n 0, 1) := by decide +kernel
theorem d_Pl_leadBranches_22 : decode b_Pl_leadBranches 22 = .ok (.getfield 24, 3) := by decide +kernel
theorem d_Pl_leadBranches_25 : decode b_Pl_leadBranches 25 = .ok (.iload_n 2, 1) := by decide +kernel
theorem d_Pl_leadBranches_26 : decode b_Pl_leadBranches 26 = .ok (.iaload, 1) := by decide +kernel
theorem d_Pl_leadBranches_27 : decode b_Pl_leadBranches 27 = .ok (.aload_n 0, 1) := by decide +kernel
theorem d_Pl_leadBranches_28 : decode b_Pl_leadBranches 28 = .ok (.getfield 21, 3) := by decide +kernel
theorem d_Pl_leadBranches_31 : decode b_Pl_leadBranches 31 = .ok (.aload_n 1, 1) := by decide +kernel
theorem d_Pl_leadBranches_32 : decode b_Pl_leadBranches 32 = .ok (.getfield 114, 3) := by decide +kernel
theorem d_Pl_leadBranches_35 : decode b_Pl_leadBranches 35 = .ok (.iload_n 2, 1) := by decide +kernel
theorem d_Pl_leadBranches_36 : decode b_Pl_leadBranches 36 = .ok (.iaload, 1) := by decide +kernel
theorem d_Pl_leadBranches_37 : decode b_Pl_leadBranches 37 = .ok (.iaload, 1) := by decide +kernel
theorem d_Pl_leadBranches_38 : decode b_Pl_leadBranches 38 = .ok (.invokevirtual 107, 3) := by decide +kernel
theorem d_Pl_leadBranches_41 : decode b_Pl_leadBranches 41 = .ok (.iinc 2 1, 3) := by decide +kernel
theorem d_Pl_leadBranches_44 : decode b_Pl_leadBranches 44 = .ok (.goto (-42), 3) := by decide +kernel
theorem d_Pl_leadBranches_47 : decode b_Pl_leadBranches 47 = .ok (.return_, 1) := by decide +kernel
theorem d_Pl_fillWithStops_0 : decode b_Pl_fillWithStops 0 = .ok (.iconst 0, 1) := by decide +kernel
theorem d_Pl_fillWithStops_1 : decode b_Pl_fillWithStops 1 = .ok (.istore_n 1, 1) := by decide +kernel
theorem d_Pl_fillWithStops_2 : decode b_Pl_fillWithStops 2 = .ok (.iload_n 1, 1) := by decide +kernel
theorem d_Pl_fillWithStops_3 : decode b_Pl_fillWithStops 3 = .ok (.bipush 64, 2) := by decide +kernel
theorem d_Pl_fillWithStops_5 : decode b_Pl_fillWithStops 5 = .ok (.if_icmp .ge 27, 3) := by decide +kernel
theorem d_Pl_fillWithStops_8 : decode b_Pl_fillWithStops 8 = .ok (.aload_n 0, 1) := by decide +kernel
theorem d_Pl_fillWithStops_9 : decode b_Pl_fillWithStops 9 = .ok (.getfield 9, 3) := by decide +kernel
theorem d_Pl_fillWithStops_12 : decode b_Pl_fillWithStops 12 = .ok (.iload_n 1, 1) := by decide +kernel
theorem d_Pl_fillWithStops_13 : decode b_Pl_fillWithStops 13 = .ok (.iaload, 1) := by decide +kernel
theorem d_Pl_fillWithStops_14 : decode b_Pl_fillWithStops 14 = .ok (.iconst (-1), 1) := by decide +kernel
theorem d_Pl_fillWithStops_15 : decode b_Pl_fillWithStops 15 = .ok (.if_icmp .ne 11, 3) := by decide +kernel
theorem d_Pl_fillWithStops_18 : decode b_Pl_fillWithStops 18 = .ok (.aload_n 0, 1) := by decide +kernel
theorem d_Pl_fillWithStops_19 : decode b_Pl_fillWithStops 19 = .ok (.getfield 9, 3) := by decide +kernel
theorem d_Pl_fillWithStops_22 : decode b_Pl_fillWithStops 22 = .ok (.iload_n 1, 1) := by decide +kernel
theorem d_Pl_fillWithStops_23 : decode b_Pl_fillWithStops 23 = .ok (.ldc 103, 2) := by decide +kernel
theorem d_Pl_fillWithStops_25 : decode b_Pl_fillWithStops 25 = .ok (.iastore, 1) := by decide +kernel
theorem d_Pl_fillWithStops_26 : decode b_Pl_fillWithStops 26 = .ok (.iinc 1 1, 3) := by decide +kernel
theorem d_Pl_fillWithStops_29 : decode b_Pl_fillWithStops 29 = .ok (.goto (-27), 3) := by decide +kernel
theorem d_Pl_fillWithStops_32 : decode b_Pl_fillWithStops 32 = .ok (.return_, 1) := by decide +kernel
theorem d_Pr_init_0 : decode b_Pr_init 0 = .ok (.aload_n 0, 1) := by decide +kernel
theorem d_Pr_init_1 : decode b_Pr_init 1 = .ok (.invokespecial 3, 3) := by decide +kernel
theorem d_Pr_init_4 : decode b_Pr_init 4 = .ok (.aload_n 0, 1) := by decide +kernel
theorem d_Pr_init_5 : decode b_Pr_init 5 = .ok (.bipush 12, 2) := by decide +kernel
theorem d_Pr_init_7 : decode b_Pr_init 7 = .ok (.newarray .int, 2) := by decide +kernel
theorem d_Pr_init_9 : decode b_Pr_init 9 = .ok (.putfield 9, 3) := by decide +kernel
theorem d_Pr_init_12 : decode b_Pr_init 12 = .ok (.aload_n 0, 1) := by decide +kernel
theorem d_Pr_init_13 : decode b_Pr_init 13 = .ok (.bipush 12, 2) := by decide +kernel
theorem d_Pr_init_15 : decode b_Pr_init 15 = .ok (.newarray .int, 2) := by decide +kernel
theorem d_Pr_init_17 : decode b_Pr_init 17 = .ok (.putfield 15, 3) := by decide +kernel
theorem d_Pr_init_20 : decode b_Pr_init 20 = .ok (.aload_n 0, 1) := by decide +kernel
theorem d_Pr_init_21 : decode b_Pr_init 21 = .ok (.bipush 12, 2) := by decide +kernel
theorem d_Pr_init_23 : decode b_Pr_init 23 = .ok (.newarray .int, 2) := by decide +kernel
theorem d_Pr_init_25 : decode b_Pr_init 25 = .ok (.putfield 18, 3) := by decide +kernel
theorem d_Pr_init_28 : decode b_Pr_init 28 = .ok (.aload_n 0, 1) := by decide +kernel
theorem d_Pr_init_29 : decode b_Pr_init 29 = .ok (.bipush 12, 2) := by decide +kernel
theorem d_Pr_init_31 : decode b_Pr_init 31 = .ok (.newarray .int, 2) := by decide +kernel
theorem d_Pr_init_33 : decode b_Pr_init 33 = .ok (.putfield 21, 3) := by decide +kernel
theorem d_Pr_init_36 : decode b_Pr_init 36 = .ok (.aload_n 0, 1) := by decide +kernel
theorem d_Pr_init_37 : decode b_Pr_init 37 = .ok (.bipush 12, 2) := by decide +kernel
theorem d_Pr_init_39 : decode b_Pr_init 39 = .ok (.newarray .int, 2) := by decide +kernel
theorem d_Pr_init_41 : decode b_Pr_init 41 = .ok (.putfield 24, 3) := by decide +kernel
theorem d_Pr_init_44 : decode b_Pr_init 44 = .ok (.return_, 1) := by decide +kernel
theorem d_Pr_addStatement_0 : decode b_Pr_addStatement 0 = .ok (.iload_n 1, 1) := by decide +kernel
theorem d_Pr_addStatement_1 : decode b_Pr_addStatement 1 = .ok (.ifCond .lt 13, 3) := by decide +kernel
theorem d_Pr_addStatement_4 : decode b_Pr_addStatement 4 = .ok (.iload_n 1, 1) := by decide +kernel
theorem d_Pr_addStatement_5 : decode b_Pr_addStatement 5 = .ok (.bipush 7, 2) := by decide +kernel
theorem d_Pr_addStatement_7 : decode b_Pr_addStatement 7 = .ok (.if_icmp .ge 7, 3) := by decide +kernel
theorem d_Pr_addStatement_10 : decode b_Pr_addStatement 10 = .ok (.iconst 1, 1) := by decide +kernel
theorem d_Pr_addStatement_11 : decode b_Pr_addStatement 11 = .ok (.goto 4, 3) := by decide +kernel
theorem d_Pr_addStatement_14 : decode b_Pr_addStatement 14 = .ok (.iconst 0, 1) := by decide +kernel
theorem d_Pr_addStatement_15 : decode b_Pr_addStatement 15 = .ok (.istore 6, 2) := by decide +kernel
theorem d_Pr_addStatement_17 : decode b_Pr_addStatement 17 = .ok (.iload_n 2, 1) := by decide +kernel
theorem d_Pr_addStatement_18 : decode b_Pr_addStatement 18 = .ok (.invokestatic 27, 3) := by decide +kernel
end
section
theorem d_Pr_addStatement_21 : decode b_Pr_addStatement 21 = .ok (.ifCond .eq 22, 3) := by decide +kernel
theorem d_Pr_addStatement_24 : decode b_Pr_addStatement 24 = .ok (.iload_n 3, 1) := by decide +kernel
theorem d_Pr_addStatement_25 : decode b_Pr_addStatement 25 = .ok (.invokestatic 27, 3) := by decide +kernel
theorem d_Pr_addStatement_28 : decode b_Pr_addStatement 28 = .ok (.ifCond .eq 15, 3) := by decide +kernel
theorem d_Pr_addStatement_31 : decode b_Pr_addStatement 31 = .ok (.iload 4, 2) := by decide +kernel
theorem d_Pr_addStatement_33 : decode b_Pr_addStatement 33 = .ok (.invokestatic 27, 3) := by decide +kernel
theorem d_Pr_addStatement_36 : decode b_Pr_addStatement 36 = .ok (.ifCond .eq 7, 3) := by decide +kernel
theorem d_Pr_addStatement_39 : decode b_Pr_addStatement 39 = .ok (.iconst 1, 1) := by decide +kernel
theorem d_Pr_addStatement_40 : decode b_Pr_addStatement 40 = .ok (.goto 4, 3) := by decide +kernel
theorem d_Pr_addStatement_43 : decode b_Pr_addStatement 43 = .ok (.iconst 0, 1) := by decide +kernel
theorem d_Pr_addStatement_44 : decode b_Pr_addStatement 44 = .ok (.istore 7, 2) := by decide +kernel
theorem d_Pr_addStatement_46 : decode b_Pr_addStatement 46 = .ok (.iload_n 1, 1) := by decide +kernel
theorem d_Pr_addStatement_47 : decode b_Pr_addStatement 47 = .ok (.iconst 4, 1) := by decide +kernel
theorem d_Pr_addStatement_48 : decode b_Pr_addStatement 48 = .ok (.if_icmp .ne 15, 3) := by decide +kernel
theorem d_Pr_addStatement_51 : decode b_Pr_addStatement 51 = .ok (.iload 5, 2) := by decide +kernel
theorem d_Pr_addStatement_53 : decode b_Pr_addStatement 53 = .ok (.ifCond .lt 14, 3) := by decide +kernel
theorem d_Pr_addStatement_56 : decode b_Pr_addStatement 56 = .ok (.iload 5, 2) := by decide +kernel
theorem d_Pr_addStatement_58 : decode b_Pr_addStatement 58 = .ok (.bipush 12, 2) := by decide +kernel
theorem d_Pr_addStatement_60 : decode b_Pr_addStatement 60 = .ok (.if_icmp .ge 7, 3) := by decide +kernel
theorem d_Pr_addStatement_63 : decode b_Pr_addStatement 63 = .ok (.iconst 1, 1) := by decide +kernel
theorem d_Pr_addStatement_64 : decode b_Pr_addStatement 64 = .ok (.goto 4, 3) := by decide +kernel
theorem d_Pr_addStatement_67 : decode b_Pr_addStatement 67 = .ok (.iconst 0, 1) := by decide +kernel
theorem d_Pr_addStatement_68 : decode b_Pr_addStatement 68 = .ok (.istore 8, 2) := by decide +kernel
theorem d_Pr_addStatement_70 : decode b_Pr_addStatement 70 = .ok (.aload_n 0, 1) := by decide +kernel
theorem d_Pr_addStatement_71 : decode b_Pr_addStatement 71 = .ok (.getfield 31, 3) := by decide +kernel
theorem d_Pr_addStatement_74 : decode b_Pr_addStatement 74 = .ok (.bipush 12, 2) := by decide +kernel
theorem d_Pr_addStatement_76 : decode b_Pr_addStatement 76 = .ok (.if_icmp .ge 18, 3) := by decide +kernel
theorem d_Pr_addStatement_79 : decode b_Pr_addStatement 79 = .ok (.iload 6, 2) := by decide +kernel
theorem d_Pr_addStatement_81 : decode b_Pr_addStatement 81 = .ok (.ifCond .eq 13, 3) := by decide +kernel
theorem d_Pr_addStatement_84 : decode b_Pr_addStatement 84 = .ok (.iload 7, 2) := by decide +kernel
theorem d_Pr_addStatement_86 : decode b_Pr_addStatement 86 = .ok (.ifCond .eq 8, 3) := by decide +kernel
theorem d_Pr_addStatement_89 : decode b_Pr_addStatement 89 = .ok (.iload 8, 2) := by decide +kernel
theorem d_Pr_addStatement_91 : decode b_Pr_addStatement 91 = .ok (.ifCond .ne 5, 3) := by decide +kernel
theorem d_Pr_addStatement_94 : decode b_Pr_addStatement 94 = .ok (.iconst (-1), 1) := by decide +kernel
theorem d_Pr_addStatement_95 : decode b_Pr_addStatement 95 = .ok (.ireturn, 1) := by decide +kernel
theorem d_Pr_addStatement_96 : decode b_Pr_addStatement 96 = .ok (.aload_n 0, 1) := by decide +kernel
theorem d_Pr_addStatement_97 : decode b_Pr_addStatement 97 = .ok (.getfield 9, 3) := by decide +kernel
theorem d_Pr_addStatement_100 : decode b_Pr_addStatement 100 = .ok (.aload_n 0, 1) := by decide +kernel
theorem d_Pr_addStatement_101 : decode b_Pr_addStatement 101 = .ok (.getfield 31, 3) := by decide +kernel
theorem d_Pr_addStatement_104 : decode b_Pr_addStatement 104 = .ok (.iload_n 1, 1) := by decide +kernel
theorem d_Pr_addStatement_105 : decode b_Pr_addStatement 105 = .ok (.iastore, 1) := by decide +kernel
theorem d_Pr_addStatement_106 : decode b_Pr_addStatement 106 = .ok (.aload_n 0, 1) := by decide +kernel
theorem d_Pr_addStatement_107 : decode b_Pr_addStatement 107 = .ok (.getfield 15, 3) := by decide +kernel
theorem d_Pr_addStatement_110 : decode b_Pr_addStatement 110 = .ok (.aload_n 0, 1) := by decide +kernel
theorem d_Pr_addStatement_111 : decode b_Pr_addStatement 111 = .ok (.getfield 31, 3) := by decide +kernel
theorem d_Pr_addStatement_114 : decode b_Pr_addStatement 114 = .ok (.iload_n 2, 1) := by decide +kernel
theorem d_Pr_addStatement_115 : decode b_Pr_addStatement 115 = .ok (.iastore, 1) := by decide +kernel
theorem d_Pr_addStatement_116 : decode b_Pr_addStatement 116 = .ok (.aload_n 0, 1) := by decide +kernel
theorem d_Pr_addStatement_117 : decode b_Pr_addStatement 117 = .ok (.getfield 18, 3) := by decide +kernel
theorem d_Pr_addStatement_120 : decode b_Pr_addStatement 120 = .ok (.aload_n 0, 1) := by decide +kernel
theorem d_Pr_addStatement_121 : decode b_Pr_addStatement 121 = .ok (.getfield 31, 3) := by decide +kernel
theorem d_Pr_addStatement_124 : decode b_Pr_addStatement 124 = .ok (.iload_n 3, 1) := by decide +kernel
theorem d_Pr_addStatement_125 : decode b_Pr_addStatement 125 = .ok (.iastore, 1) := by decide +kernel
theorem d_Pr_addStatement_126 : decode b_Pr_addStatement 126 = .ok (.aload_n 0, 1) := by decide +kernel
theorem d_Pr_addStatement_127 : decode b_Pr_addStatement 127 = .ok (.getfield 21, 3) := by decide +kernel
theorem d_Pr_addStatement_130 : decode b_Pr_addStatement 130 = .ok (.aload_n 0, 1) := by decide +kernel
theorem d_Pr_addStatement_131 : decode b_Pr_addStatement 131 = .ok (.getfield 31, 3) := by decide +kernel
theorem d_Pr_addStatement_134 : decode b_Pr_addStatement 134 = .ok (.iload 4, 2) := by decide +kernel
theorem d_Pr_addStatement_136 : decode b_Pr_addStatement 136 = .ok (.iastore, 1) := by decide +kernel
theorem d_Pr_addStatement_137 : decode b_Pr_addStatement 137 = .ok (.aload_n 0, 1) := by decide +kernel
theorem d_Pr_addStatement_138 : decode b_Pr_addStatement 138 = .ok (.getfield 24, 3) := by decide +kernel
theorem d_Pr_addStatement_141 : decode b_Pr_addStatement 141 = .ok (.aload_n 0, 1) := by decide +kernel
theorem d_Pr_addStatement_142 : decode b_Pr_addStatement 142 = .ok (.getfield 31, 3) := by decide +kernel
theorem d_Pr_addStatement_145 : decode b_Pr_addStatement 145 = .ok (.iload 5, 2) := by decide +kernel
theorem d_Pr_addStatement_147 : decode b_Pr_addStatement 147 = .ok (.iastore, 1) := by decide +kernel
theorem d_Pr_addStatement_148 : decode b_Pr_addStatement 148 = .ok (.aload_n 0, 1) := by decide +kernel
theorem d_Pr_addStatement_149 : decode b_Pr_addStatement 149 = .ok (.dup, 1) := by decide +kernel
theorem d_Pr_addStatement_150 : decode b_Pr_addStatement 150 = .ok (.getfield 31, 3) := by decide +kernel
theorem d_Pr_addStatement_153 : decode b_Pr_addStatement 153 = .ok (.iconst 1, 1) := by decide +kernel
theorem d_Pr_addStatement_154 : decode b_Pr_addStatement 154 = .ok (.iadd, 1) := by decide +kernel
theorem d_Pr_addStatement_155 : decode b_Pr_addStatement 155 = .ok (.putfield 31, 3) := by decide +kernel
theorem d_Pr_addStatement_158 : decode b_Pr_addStatement 158 = .ok (.aload_n 0, 1) := by decide +kernel
theorem d_Pr_addStatement_159 : decode b_Pr_addStatement 159 = .ok (.getfield 31, 3) := by decide +kernel
theorem d_Pr_addStatement_162 : decode b_Pr_addStatement 162 = .ok (.iconst 1, 1) := by decide +kernel
theorem d_Pr_addStatement_163 : decode b_Pr_addStatement 163 = .ok (.isub, 1) := by decide +kernel
theorem d_Pr_addStatement_164 : decode b_Pr_addStatement 164 = .ok (.ireturn, 1) := by decide +kernel
theorem d_Pr_isVariable_0 : decode b_Pr_isVariable 0 = .ok (.iload_n 0, 1) := by decide +kernel
theorem d_Pr_isVariable_1 : decode b_Pr_isVariable 1 = .ok (.ifCond .lt 13, 3) := by decide +kernel
theorem d_Pr_isVariable_4 : decode b_Pr_isVariable 4 = .ok (.iload_n 0, 1) := by decide +kernel
theorem d_Pr_isVariable_5 : decode b_Pr_isVariable 5 = .ok (.bipush 16, 2) := by decide +kernel
theorem d_Pr_isVariable_7 : decode b_Pr_isVariable 7 = .ok (.if_icmp .ge 7, 3) := by decide +kernel
theorem d_Pr_isVariable_10 : decode b_Pr_isVariable 10 = .ok (.iconst 1, 1) := by decide +kernel
theorem d_Pr_isVariable_11 : decode b_Pr_isVariable 11 = .ok (.goto 4, 3) := by decide +kernel
theorem d_Pr_isVariable_14 : decode b_Pr_isVariable 14 = .ok (.iconst 0, 1) := by decide +kernel
theorem d_Pr_isVariable_15 : decode b_Pr_isVariable 15 = .ok (.ireturn, 1) := by decide +kernel
theorem d_Pr_allGotosLead_0 : decode b_Pr_allGotosLead 0 = .ok (.iconst 0, 1) := by decide +kernel
theorem d_Pr_allGotosLead_1 : decode b_Pr_allGotosLead 1 = .ok (.istore_n 1, 1) := by decide +kernel
theorem d_Pr_allGotosLead_2 : decode b_Pr_allGotosLead 2 = .ok (.iload_n 1, 1) := by decide +kernel
theorem d_Pr_allGotosLead_3 : decode b_Pr_allGotosLead 3 = .ok (.aload_n 0, 1) := by decide +kernel
theorem d_Pr_allGotosLead_4 : decode b_Pr_allGotosLead 4 = .ok (.getfield 31, 3) := by decide +kernel
theorem d_Pr_allGotosLead_7 : decode b_Pr_allGotosLead 7 = .ok (.if_icmp .ge 34, 3) := by decide +kernel
theorem d_Pr_allGotosLead_10 : decode b_Pr_allGotosLead 10 = .ok (.aload_n 0, 1) := by decide +kernel
theorem d_Pr_allGotosLead_11 : decode b_Pr_allGotosLead 11 = .ok (.getfield 9, 3) := by decide +kernel
theorem d_Pr_allGotosLead_14 : decode b_Pr_allGotosLead 14 = .ok (.iload_n 1, 1) := by decide +kernel
theorem d_Pr_allGotosLead_15 : decode b_Pr_allGotosLead 15 = .ok (.iaload, 1) := by decide +kernel
theorem d_Pr_allGotosLead_16 : decode b_Pr_allGotosLead 16 = .ok (.iconst 4, 1) := by decide +kernel
theorem d_Pr_allGotosLead_17 : decode b_Pr_allGotosLead 17 = .ok (.if_icmp .ne 18, 3) := by decide +kernel
theorem d_Pr_allGotosLead_20 : decode b_Pr_allGotosLead 20 = .ok (.aload_n 0, 1) := by decide +kernel
theorem d_Pr_allGotosLead_21 : decode b_Pr_allGotosLead 21 = .ok (.getfield 24, 3) := by decide +kernel
theorem d_Pr_allGotosLead_24 : decode b_Pr_allGotosLead 24 = .ok (.iload_n 1, 1) := by decide +kernel
theorem d_Pr_allGotosLead_25 : decode b_Pr_allGotosLead 25 = .ok (.iaload, 1) := by decide +kernel
theorem d_Pr_allGotosLead_26 : decode b_Pr_allGotosLead 26 = .ok (.aload_n 0, 1) := by decide +kernel
theorem d_Pr_allGotosLead_27 : decode b_Pr_allGotosLead 27 = .ok (.getfield 31, 3) := by decide +kernel
theorem d_Pr_allGotosLead_30 : decode b_Pr_allGotosLead 30 = .ok (.if_icmp .lt 5, 3) := by decide +kernel
theorem d_Pr_allGotosLead_33 : decode b_Pr_allGotosLead 33 = .ok (.iconst 0, 1) := by decide +kernel
theorem d_Pr_allGotosLead_34 : decode b_Pr_allGotosLead 34 = .ok (.ireturn, 1) := by decide +kernel
theorem d_Pr_allGotosLead_35 : decode b_Pr_allGotosLead 35 = .ok (.iinc 1 1, 3) := by decide +kernel
theorem d_Pr_allGotosLead_38 : decode b_Pr_allGotosLead 38 = .ok (.goto (-36), 3) := by decide +kernel
theorem d_Pr_allGotosLead_41 : decode b_Pr_allGotosLead 41 = .ok (.iconst 1, 1) := by decide +kernel
theorem d_Pr_allGotosLead_42 : decode b_Pr_allGotosLead 42 = .ok (.ireturn, 1) := by decide +kernel
theorem d_Pr_endsWithHalt_0 : decode b_Pr_endsWithHalt 0 = .ok (.aload_n 0, 1) := by decide +kernel
theorem d_Pr_endsWithHalt_1 : decode b_Pr_endsWithHalt 1 = .ok (.getfield 31, 3) := by decide +kernel
theorem d_Pr_endsWithHalt_4 : decode b_Pr_endsWithHalt 4 = .ok (.ifCond .le 23, 3) := by decide +kernel
theorem d_Pr_endsWithHalt_7 : decode b_Pr_endsWithHalt 7 = .ok (.aload_n 0, 1) := by decide +kernel
theorem d_Pr_endsWithHalt_8 : decode b_Pr_endsWithHalt 8 = .ok (.getfield 9, 3) := by decide +kernel
theorem d_Pr_endsWithHalt_11 : decode b_Pr_endsWithHalt 11 = .ok (.aload_n 0, 1) := by decide +kernel
theorem d_Pr_endsWithHalt_12 : decode b_Pr_endsWithHalt 12 = .ok (.getfield 31, 3) := by decide +kernel
theorem d_Pr_endsWithHalt_15 : decode b_Pr_endsWithHalt 15 = .ok (.iconst 1, 1) := by decide +kernel
theorem d_Pr_endsWithHalt_16 : decode b_Pr_endsWithHalt 16 = .ok (.isub, 1) := by decide +kernel
theorem d_Pr_endsWithHalt_17 : decode b_Pr_endsWithHalt 17 = .ok (.iaload, 1) := by decide +kernel
theorem d_Pr_endsWithHalt_18 : decode b_Pr_endsWithHalt 18 = .ok (.bipush 6, 2) := by decide +kernel
theorem d_Pr_endsWithHalt_20 : decode b_Pr_endsWithHalt 20 = .ok (.if_icmp .ne 7, 3) := by decide +kernel
theorem d_Pr_endsWithHalt_23 : decode b_Pr_endsWithHalt 23 = .ok (.iconst 1, 1) := by decide +kernel
theorem d_Pr_endsWithHalt_24 : decode b_Pr_endsWithHalt 24 = .ok (.goto 4, 3) := by decide +kernel
theorem d_Pr_endsWithHalt_27 : decode b_Pr_endsWithHalt 27 = .ok (.iconst 0, 1) := by decide +kernel
theorem d_Pr_endsWithHalt_28 : decode b_Pr_endsWithHalt 28 = .ok (.ireturn, 1) := by decide +kernel
theorem d_Pu_init_0 : decode b_Pu_init 0 = .ok (.aload_n 0, 1) := by decide +kernel
theorem d_Pu_init_1 : decode b_Pu_init 1 = .ok (.invokespecial 1, 3) := by decide +kernel
theorem d_Pu_init_4 : decode b_Pu_init 4 = .ok (.aload_n 0, 1) := by decide +kernel
theorem d_Pu_init_5 : decode b_Pu_init 5 = .ok (.bipush 60, 2) := by decide +kernel
theorem d_Pu_init_7 : decode b_Pu_init 7 = .ok (.newarray .short, 2) := by decide +kernel
theorem d_Pu_init_9 : decode b_Pu_init 9 = .ok (.putfield 9, 3) := by decide +kernel
theorem d_Pu_init_12 : decode b_Pu_init 12 = .ok (.return_, 1) := by decide +kernel
theorem d_Pu_take_0 : decode b_Pu_take 0 = .ok (.aload_n 0, 1) := by decide +kernel
theorem d_Pu_take_1 : decode b_Pu_take 1 = .ok (.getfield 13, 3) := by decide +kernel
theorem d_Pu_take_4 : decode b_Pu_take 4 = .ok (.ifCond .le 18, 3) := by decide +kernel
theorem d_Pu_take_7 : decode b_Pu_take 7 = .ok (.iload_n 2, 1) := by decide +kernel
theorem d_Pu_take_8 : decode b_Pu_take 8 = .ok (.aload_n 0, 1) := by decide +kernel
theorem d_Pu_take_9 : decode b_Pu_take 9 = .ok (.getfield 17, 3) := by decide +kernel
theorem d_Pu_take_12 : decode b_Pu_take 12 = .ok (.isub, 1) := by decide +kernel
theorem d_Pu_take_13 : decode b_Pu_take 13 = .ok (.bipush 6, 2) := by decide +kernel
theorem d_Pu_take_15 : decode b_Pu_take 15 = .ok (.if_icmp .ge 7, 3) := by decide +kernel
theorem d_Pu_take_18 : decode b_Pu_take 18 = .ok (.iconst 1, 1) := by decide +kernel
theorem d_Pu_take_19 : decode b_Pu_take 19 = .ok (.goto 4, 3) := by decide +kernel
theorem d_Pu_take_22 : decode b_Pu_take 22 = .ok (.iconst 0, 1) := by decide +kernel
theorem d_Pu_take_23 : decode b_Pu_take 23 = .ok (.istore_n 3, 1) := by decide +kernel
theorem d_Pu_take_24 : decode b_Pu_take 24 = .ok (.iload_n 3, 1) := by decide +kernel
theorem d_Pu_take_25 : decode b_Pu_take 25 = .ok (.ifCond .ne 12, 3) := by decide +kernel
theorem d_Pu_take_28 : decode b_Pu_take 28 = .ok (.aload_n 0, 1) := by decide +kernel
theorem d_Pu_take_29 : decode b_Pu_take 29 = .ok (.getfield 13, 3) := by decide +kernel
theorem d_Pu_take_32 : decode b_Pu_take 32 = .ok (.bipush 60, 2) := by decide +kernel
theorem d_Pu_take_34 : decode b_Pu_take 34 = .ok (.if_icmp .lt 5, 3) := by decide +kernel
theorem d_Pu_take_37 : decode b_Pu_take 37 = .ok (.iconst 0, 1) := by decide +kernel
theorem d_Pu_take_38 : decode b_Pu_take 38 = .ok (.ireturn, 1) := by decide +kernel
theorem d_Pu_take_39 : decode b_Pu_take 39 = .ok (.aload_n 0, 1) := by decide +kernel
theorem d_Pu_take_40 : decode b_Pu_take 40 = .ok (.getfield 9, 3) := by decide +kernel
theorem d_Pu_take_43 : decode b_Pu_take 43 = .ok (.aload_n 0, 1) := by decide +kernel
theorem d_Pu_take_44 : decode b_Pu_take 44 = .ok (.getfield 13, 3) := by decide +kernel
theorem d_Pu_take_47 : decode b_Pu_take 47 = .ok (.iload_n 1, 1) := by decide +kernel
theorem d_Pu_take_48 : decode b_Pu_take 48 = .ok (.sastore, 1) := by decide +kernel
theorem d_Pu_take_49 : decode b_Pu_take 49 = .ok (.aload_n 0, 1) := by decide +kernel
theorem d_Pu_take_50 : decode b_Pu_take 50 = .ok (.dup, 1) := by decide +kernel
theorem d_Pu_take_51 : decode b_Pu_take 51 = .ok (.getfield 13, 3) := by decide +kernel
theorem d_Pu_take_54 : decode b_Pu_take 54 = .ok (.iconst 1, 1) := by decide +kernel
theorem d_Pu_take_55 : decode b_Pu_take 55 = .ok (.iadd, 1) := by decide +kernel
theorem d_Pu_take_56 : decode b_Pu_take 56 = .ok (.putfield 13, 3) := by decide +kernel
theorem d_Pu_take_59 : decode b_Pu_take 59 = .ok (.aload_n 0, 1) := by decide +kernel
theorem d_Pu_take_60 : decode b_Pu_take 60 = .ok (.iload_n 2, 1) := by decide +kernel
theorem d_Pu_take_61 : decode b_Pu_take 61 = .ok (.putfield 17, 3) := by decide +kernel
theorem d_Pu_take_64 : decode b_Pu_take 64 = .ok (.iconst 1, 1) := by decide +kernel
theorem d_Pu_take_65 : decode b_Pu_take 65 = .ok (.ireturn, 1) := by decide +kernel
theorem d_Rd_init_0 : decode b_Rd_init 0 = .ok (.aload_n 0, 1) := by decide +kernel
theorem d_Rd_init_1 : decode b_Rd_init 1 = .ok (.invokespecial 5, 3) := by decide +kernel
theorem d_Rd_init_4 : decode b_Rd_init 4 = .ok (.aload_n 0, 1) := by decide +kernel
theorem d_Rd_init_5 : decode b_Rd_init 5 = .ok (.bipush 48, 2) := by decide +kernel
theorem d_Rd_init_7 : decode b_Rd_init 7 = .ok (.newarray .short, 2) := by decide +kernel
theorem d_Rd_init_9 : decode b_Rd_init 9 = .ok (.putfield 11, 3) := by decide +kernel
theorem d_Rd_init_12 : decode b_Rd_init 12 = .ok (.return_, 1) := by decide +kernel
theorem d_Rd_addRow_0 : decode b_Rd_addRow 0 = .ok (.aload_n 0, 1) := by decide +kernel
theorem d_Rd_addRow_1 : decode b_Rd_addRow 1 = .ok (.getfield 15, 3) := by decide +kernel
theorem d_Rd_addRow_4 : decode b_Rd_addRow 4 = .ok (.bipush 48, 2) := by decide +kernel
theorem d_Rd_addRow_6 : decode b_Rd_addRow 6 = .ok (.if_icmp .lt 5, 3) := by decide +kernel
theorem d_Rd_addRow_9 : decode b_Rd_addRow 9 = .ok (.iconst 0, 1) := by decide +kernel
theorem d_Rd_addRow_10 : decode b_Rd_addRow 10 = .ok (.ireturn, 1) := by decide +kernel
theorem d_Rd_addRow_11 : decode b_Rd_addRow 11 = .ok (.aload_n 0, 1) := by decide +kernel
theorem d_Rd_addRow_12 : decode b_Rd_addRow 12 = .ok (.getfield 11, 3) := by decide +kernel
theorem d_Rd_addRow_15 : decode b_Rd_addRow 15 = .ok (.aload_n 0, 1) := by decide +kernel
theorem d_Rd_addRow_16 : decode b_Rd_addRow 16 = .ok (.getfield 15, 3) := by decide +kernel
theorem d_Rd_addRow_19 : decode b_Rd_addRow 19 = .ok (.iload_n 1, 1) := by decide +kernel
theorem d_Rd_addRow_20 : decode b_Rd_addRow 20 = .ok (.sastore, 1) := by decide +kernel
theorem d_Rd_addRow_21 : decode b_Rd_addRow 21 = .ok (.aload_n 0, 1) := by decide +kernel
theorem d_Rd_addRow_22 : decode b_Rd_addRow 22 = .ok (.dup, 1) := by decide +kernel
theorem d_Rd_addRow_23 : decode b_Rd_addRow 23 = .ok (.getfield 15, 3) := by decide +kernel
theorem d_Rd_addRow_26 : decode b_Rd_addRow 26 = .ok (.iconst 1, 1) := by decide +kernel
theorem d_Rd_addRow_27 : decode b_Rd_addRow 27 = .ok (.iadd, 1) := by decide +kernel
theorem d_Rd_addRow_28 : decode b_Rd_addRow 28 = .ok (.putfield 15, 3) := by decide +kernel
theorem d_Rd_addRow_31 : decode b_Rd_addRow 31 = .ok (.iconst 1, 1) := by decide +kernel
theorem d_Rd_addRow_32 : decode b_Rd_addRow 32 = .ok (.ireturn, 1) := by decide +kernel
theorem d_Rd_rowsLeft_0 : decode b_Rd_rowsLeft 0 = .ok (.aload_n 0, 1) := by decide +kernel
theorem d_Rd_rowsLeft_1 : decode b_Rd_rowsLeft 1 = .ok (.getfield 15, 3) := by decide +kernel
theorem d_Rd_rowsLeft_4 : decode b_Rd_rowsLeft 4 = .ok (.aload_n 0, 1) := by decide +kernel
theorem d_Rd_rowsLeft_5 : decode b_Rd_rowsLeft 5 = .ok (.getfield 19, 3) := by decide +kernel
theorem d_Rd_rowsLeft_8 : decode b_Rd_rowsLeft 8 = .ok (.isub, 1) := by decide +kernel
theorem d_Rd_rowsLeft_9 : decode b_Rd_rowsLeft 9 = .ok (.ireturn, 1) := by decide +kernel
theorem d_Rd_rest_0 : decode b_Rd_rest 0 = .ok (.aload_n 0, 1) := by decide +kernel
theorem d_Rd_rest_1 : decode b_Rd_rest 1 = .ok (.iconst 0, 1) := by decide +kernel
theorem d_Rd_rest_2 : decode b_Rd_rest 2 = .ok (.putfield 22, 3) := by decide +kernel
theorem d_Rd_rest_5 : decode b_Rd_rest 5 = .ok (.aload_n 0, 1) := by decide +kernel
theorem d_Rd_rest_6 : decode b_Rd_rest 6 = .ok (.iconst 0, 1) := by decide +kernel
theorem d_Rd_rest_7 : decode b_Rd_rest 7 = .ok (.putfield 26, 3) := by decide +kernel
theorem d_Rd_rest_10 : decode b_Rd_rest 10 = .ok (.return_, 1) := by decide +kernel
theorem d_Rd_feed_0 : decode b_Rd_feed 0 = .ok (.aload_n 0, 1) := by decide +kernel
theorem d_Rd_feed_1 : decode b_Rd_feed 1 = .ok (.getfield 22, 3) := by decide +kernel
theorem d_Rd_feed_4 : decode b_Rd_feed 4 = .ok (.ifCond .ne 12, 3) := by decide +kernel
theorem d_Rd_feed_7 : decode b_Rd_feed 7 = .ok (.aload_n 0, 1) := by decide +kernel
theorem d_Rd_feed_8 : decode b_Rd_feed 8 = .ok (.invokevirtual 29, 3) := by decide +kernel
theorem d_Rd_feed_11 : decode b_Rd_feed 11 = .ok (.bipush 12, 2) := by decide +kernel
theorem d_Rd_feed_13 : decode b_Rd_feed 13 = .ok (.if_icmp .ge 5, 3) := by decide +kernel
theorem d_Rd_feed_16 : decode b_Rd_feed 16 = .ok (.iconst 0, 1) := by decide +kernel
theorem d_Rd_feed_17 : decode b_Rd_feed 17 = .ok (.ireturn, 1) := by decide +kernel
theorem d_Rd_feed_18 : decode b_Rd_feed 18 = .ok (.aload_n 0, 1) := by decide +kernel
theorem d_Rd_feed_19 : decode b_Rd_feed 19 = .ok (.dup, 1) := by decide +kernel
theorem d_Rd_feed_20 : decode b_Rd_feed 20 = .ok (.getfield 19, 3) := by decide +kernel
theorem d_Rd_feed_23 : decode b_Rd_feed 23 = .ok (.bipush 12, 2) := by decide +kernel
theorem d_Rd_feed_25 : decode b_Rd_feed 25 = .ok (.iadd, 1) := by decide +kernel
theorem d_Rd_feed_26 : decode b_Rd_feed 26 = .ok (.putfield 19, 3) := by decide +kernel
theorem d_Rd_feed_29 : decode b_Rd_feed 29 = .ok (.aload_n 0, 1) := by decide +kernel
theorem d_Rd_feed_30 : decode b_Rd_feed 30 = .ok (.iconst 1, 1) := by decide +kernel
theorem d_Rd_feed_31 : decode b_Rd_feed 31 = .ok (.putfield 22, 3) := by decide +kernel
theorem d_Rd_feed_34 : decode b_Rd_feed 34 = .ok (.aload_n 0, 1) := by decide +kernel
theorem d_Rd_feed_35 : decode b_Rd_feed 35 = .ok (.iload_n 1, 1) := by decide +kernel
theorem d_Rd_feed_36 : decode b_Rd_feed 36 = .ok (.putfield 33, 3) := by decide +kernel
theorem d_Rd_feed_39 : decode b_Rd_feed 39 = .ok (.iconst 1, 1) := by decide +kernel
theorem d_Rd_feed_40 : decode b_Rd_feed 40 = .ok (.ireturn, 1) := by decide +kernel
theorem d_Rd_offset_0 : decode b_Rd_offset 0 = .ok (.iload_n 1, 1) := by decide +kernel
theorem d_Rd_offset_1 : decode b_Rd_offset 1 = .ok (.aload_n 0, 1) := by decide +kernel
theorem d_Rd_offset_2 : decode b_Rd_offset 2 = .ok (.getfield 33, 3) := by decide +kernel
theorem d_Rd_offset_5 : decode b_Rd_offset 5 = .ok (.isub, 1) := by decide +kernel
theorem d_Rd_offset_6 : decode b_Rd_offset 6 = .ok (.bipush 40, 2) := by decide +kernel
theorem d_Rd_offset_8 : decode b_Rd_offset 8 = .ok (.isub, 1) := by decide +kernel
theorem d_Rd_offset_9 : decode b_Rd_offset 9 = .ok (.istore_n 2, 1) := by decide +kernel
theorem d_Rd_offset_10 : decode b_Rd_offset 10 = .ok (.iload_n 2, 1) := by decide +kernel
theorem d_Rd_offset_11 : decode b_Rd_offset 11 = .ok (.ifCond .lt 21, 3) := by decide +kernel
theorem d_Rd_offset_14 : decode b_Rd_offset 14 = .ok (.iload_n 2, 1) := by decide +kernel
theorem d_Rd_offset_15 : decode b_Rd_offset 15 = .ok (.bipush 90, 2) := by decide +kernel
theorem d_Rd_offset_17 : decode b_Rd_offset 17 = .ok (.if_icmp .gt 15, 3) := by decide +kernel
theorem d_Rd_offset_20 : decode b_Rd_offset 20 = .ok (.iload_n 2, 1) := by decide +kernel
theorem d_Rd_offset_21 : decode b_Rd_offset 21 = .ok (.bipush 8, 2) := by decide +kernel
theorem d_Rd_offset_23 : decode b_Rd_offset 23 = .ok (.irem, 1) := by decide +kernel
theorem d_Rd_offset_24 : decode b_Rd_offset 24 = .ok (.iconst 3, 1) := by decide +kernel
theorem d_Rd_offset_25 : decode b_Rd_offset 25 = .ok (.if_icmp .ge 7, 3) := by decide +kernel
theorem d_Rd_offset_28 : decode b_Rd_offset 28 = .ok (.iconst 1, 1) := by decide +kernel
theorem d_Rd_offset_29 : decode b_Rd_offset 29 = .ok (.goto 4, 3) := by decide +kernel
theorem d_Rd_offset_32 : decode b_Rd_offset 32 = .ok (.iconst 0, 1) := by decide +kernel
theorem d_Rd_offset_33 : decode b_Rd_offset 33 = .ok (.istore_n 3, 1) := by decide +kernel
theorem d_Rd_offset_34 : decode b_Rd_offset 34 = .ok (.aload_n 0, 1) := by decide +kernel
theorem d_Rd_offset_35 : decode b_Rd_offset 35 = .ok (.getfield 22, 3) := by decide +kernel
theorem d_Rd_offset_38 : decode b_Rd_offset 38 = .ok (.ifCond .eq 11, 3) := by decide +kernel
theorem d_Rd_offset_41 : decode b_Rd_offset 41 = .ok (.iload_n 3, 1) := by decide +kernel
theorem d_Rd_offset_42 : decode b_Rd_offset 42 = .ok (.ifCond .eq 7, 3) := by decide +kernel
theorem d_Rd_offset_45 : decode b_Rd_offset 45 = .ok (.iload_n 2, 1) := by decide +kernel
theorem d_Rd_offset_46 : decode b_Rd_offset 46 = .ok (.goto 4, 3) := by decide +kernel
theorem d_Rd_offset_49 : decode b_Rd_offset 49 = .ok (.iconst (-1), 1) := by decide +kernel
theorem d_Rd_offset_50 : decode b_Rd_offset 50 = .ok (.ireturn, 1) := by decide +kernel
theorem d_Rd_moveRow_0 : decode b_Rd_moveRow 0 = .ok (.aload_n 0, 1) := by decide +kernel
theorem d_Rd_moveRow_1 : decode b_Rd_moveRow 1 = .ok (.iload_n 1, 1) := by decide +kernel
theorem d_Rd_moveRow_2 : decode b_Rd_moveRow 2 = .ok (.invokevirtual 36, 3) := by decide +kernel
theorem d_Rd_moveRow_5 : decode b_Rd_moveRow 5 = .ok (.istore_n 2, 1) := by decide +kernel
theorem d_Rd_moveRow_6 : decode b_Rd_moveRow 6 = .ok (.iload_n 2, 1) := by decide +kernel
theorem d_Rd_moveRow_7 : decode b_Rd_moveRow 7 = .ok (.ifCond .ge 5, 3) := by decide +kernel
theorem d_Rd_moveRow_10 : decode b_Rd_moveRow 10 = .ok (.iconst 0, 1) := by decide +kernel
theorem d_Rd_moveRow_11 : decode b_Rd_moveRow 11 = .ok (.ireturn, 1) := by decide +kernel
theorem d_Rd_moveRow_12 : decode b_Rd_moveRow 12 = .ok (.aload_n 0, 1) := by decide +kernel
theorem d_Rd_moveRow_13 : decode b_Rd_moveRow 13 = .ok (.iconst 1, 1) := by decide +kernel
theorem d_Rd_moveRow_14 : decode b_Rd_moveRow 14 = .ok (.putfield 26, 3) := by decide +kernel
theorem d_Rd_moveRow_17 : decode b_Rd_moveRow 17 = .ok (.aload_n 0, 1) := by decide +kernel
theorem d_Rd_moveRow_18 : decode b_Rd_moveRow 18 = .ok (.getfield 11, 3) := by decide +kernel
theorem d_Rd_moveRow_21 : decode b_Rd_moveRow 21 = .ok (.aload_n 0, 1) := by decide +kernel
theorem d_Rd_moveRow_22 : decode b_Rd_moveRow 22 = .ok (.getfield 19, 3) := by decide +kernel
theorem d_Rd_moveRow_25 : decode b_Rd_moveRow 25 = .ok (.bipush 12, 2) := by decide +kernel
theorem d_Rd_moveRow_27 : decode b_Rd_moveRow 27 = .ok (.isub, 1) := by decide +kernel
theorem d_Rd_moveRow_28 : decode b_Rd_moveRow 28 = .ok (.iload_n 2, 1) := by decide +kernel
theorem d_Rd_moveRow_29 : decode b_Rd_moveRow 29 = .ok (.bipush 8, 2) := by decide +kernel
theorem d_Rd_moveRow_31 : decode b_Rd_moveRow 31 = .ok (.idiv, 1) := by decide +kernel
theorem d_Rd_moveRow_32 : decode b_Rd_moveRow 32 = .ok (.iadd, 1) := by decide +kernel
theorem d_Rd_moveRow_33 : decode b_Rd_moveRow 33 = .ok (.saload, 1) := by decide +kernel
theorem d_Rd_moveRow_34 : decode b_Rd_moveRow 34 = .ok (.ireturn, 1) := by decide +kernel
theorem d_Rd_endCycle_0 : decode b_Rd_endCycle 0 = .ok (.aload_n 0, 1) := by decide +kernel
theorem d_Rd_endCycle_1 : decode b_Rd_endCycle 1 = .ok (.iload_n 1, 1) := by decide +kernel
theorem d_Rd_endCycle_2 : decode b_Rd_endCycle 2 = .ok (.invokevirtual 36, 3) := by decide +kernel
theorem d_Rd_endCycle_5 : decode b_Rd_endCycle 5 = .ok (.istore_n 2, 1) := by decide +kernel
theorem d_Rd_endCycle_6 : decode b_Rd_endCycle 6 = .ok (.iload_n 2, 1) := by decide +kernel
theorem d_Rd_endCycle_7 : decode b_Rd_endCycle 7 = .ok (.ifCond .lt 11, 3) := by decide +kernel
theorem d_Rd_endCycle_10 : decode b_Rd_endCycle 10 = .ok (.iload_n 2, 1) := by decide +kernel
theorem d_Rd_endCycle_11 : decode b_Rd_endCycle 11 = .ok (.bipush 8, 2) := by decide +kernel
theorem d_Rd_endCycle_13 : decode b_Rd_endCycle 13 = .ok (.irem, 1) := by decide +kernel
theorem d_Rd_endCycle_14 : decode b_Rd_endCycle 14 = .ok (.iconst 2, 1) := by decide +kernel
theorem d_Rd_endCycle_15 : decode b_Rd_endCycle 15 = .ok (.if_icmp .eq 5, 3) := by decide +kernel
theorem d_Rd_endCycle_18 : decode b_Rd_endCycle 18 = .ok (.iconst 0, 1) := by decide +kernel
theorem d_Rd_endCycle_19 : decode b_Rd_endCycle 19 = .ok (.ireturn, 1) := by decide +kernel
theorem d_Rd_endCycle_20 : decode b_Rd_endCycle 20 = .ok (.aload_n 0, 1) := by decide +kernel
theorem d_Rd_endCycle_21 : decode b_Rd_endCycle 21 = .ok (.getfield 26, 3) := by decide +kernel
theorem d_Rd_endCycle_24 : decode b_Rd_endCycle 24 = .ok (.ifCond .ne 7, 3) := by decide +kernel
theorem d_Rd_endCycle_27 : decode b_Rd_endCycle 27 = .ok (.iconst 1, 1) := by decide +kernel
theorem d_Rd_endCycle_28 : decode b_Rd_endCycle 28 = .ok (.goto 4, 3) := by decide +kernel
theorem d_Rd_endCycle_31 : decode b_Rd_endCycle 31 = .ok (.iconst 0, 1) := by decide +kernel
theorem d_Rd_endCycle_32 : decode b_Rd_endCycle 32 = .ok (.istore_n 3, 1) := by decide +kernel
theorem d_Rd_endCycle_33 : decode b_Rd_endCycle 33 = .ok (.aload_n 0, 1) := by decide +kernel
theorem d_Rd_endCycle_34 : decode b_Rd_endCycle 34 = .ok (.iconst 0, 1) := by decide +kernel
theorem d_Rd_endCycle_35 : decode b_Rd_endCycle 35 = .ok (.putfield 26, 3) := by decide +kernel
theorem d_Rd_endCycle_38 : decode b_Rd_endCycle 38 = .ok (.iload_n 2, 1) := by decide +kernel
theorem d_Rd_endCycle_39 : decode b_Rd_endCycle 39 = .ok (.bipush 90, 2) := by decide +kernel
theorem d_Rd_endCycle_41 : decode b_Rd_endCycle 41 = .ok (.if_icmp .ne 8, 3) := by decide +kernel
theorem d_Rd_endCycle_44 : decode b_Rd_endCycle 44 = .ok (.aload_n 0, 1) := by decide +kernel
theorem d_Rd_endCycle_45 : decode b_Rd_endCycle 45 = .ok (.iconst 0, 1) := by decide +kernel
theorem d_Rd_endCycle_46 : decode b_Rd_endCycle 46 = .ok (.putfield 22, 3) := by decide +kernel
theorem d_Rd_endCycle_49 : decode b_Rd_endCycle 49 = .ok (.iload_n 3, 1) := by decide +kernel
theorem d_Rd_endCycle_50 : decode b_Rd_endCycle 50 = .ok (.ireturn, 1) := by decide +kernel
theorem d_St_init_0 : decode b_St_init 0 = .ok (.aload_n 0, 1) := by decide +kernel
theorem d_St_init_1 : decode b_St_init 1 = .ok (.invokespecial 3, 3) := by decide +kernel
theorem d_St_init_4 : decode b_St_init 4 = .ok (.aload_n 0, 1) := by decide +kernel
theorem d_St_init_5 : decode b_St_init 5 = .ok (.bipush 64, 2) := by decide +kernel
theorem d_St_init_7 : decode b_St_init 7 = .ok (.newarray .int, 2) := by decide +kernel
theorem d_St_init_9 : decode b_St_init 9 = .ok (.putfield 9, 3) := by decide +kernel
theorem d_St_init_12 : decode b_St_init 12 = .ok (.aload_n 0, 1) := by decide +kernel
theorem d_St_init_13 : decode b_St_init 13 = .ok (.sipush 132, 3) := by decide +kernel
theorem d_St_init_16 : decode b_St_init 16 = .ok (.newarray .short, 2) := by decide +kernel
theorem d_St_init_18 : decode b_St_init 18 = .ok (.putfield 15, 3) := by decide +kernel
theorem d_St_init_21 : decode b_St_init 21 = .ok (.return_, 1) := by decide +kernel
theorem d_St_orderSpot_0 : decode b_St_orderSpot 0 = .ok (.iload_n 0, 1) := by decide +kernel
theorem d_St_orderSpot_1 : decode b_St_orderSpot 1 = .ok (.ifCond .lt 22, 3) := by decide +kernel
theorem d_St_orderSpot_4 : decode b_St_orderSpot 4 = .ok (.iload_n 0, 1) := by decide +kernel
theorem d_St_orderSpot_5 : decode b_St_orderSpot 5 = .ok (.iconst 2, 1) := by decide +kernel
theorem d_St_orderSpot_6 : decode b_St_orderSpot 6 = .ok (.if_icmp .ge 17, 3) := by decide +kernel
theorem d_St_orderSpot_9 : decode b_St_orderSpot 9 = .ok (.iload_n 1, 1) := by decide +kernel
theorem d_St_orderSpot_10 : decode b_St_orderSpot 10 = .ok (.ifCond .lt 13, 3) := by decide +kernel
theorem d_St_orderSpot_13 : decode b_St_orderSpot 13 = .ok (.iload_n 1, 1) := by decide +kernel
theorem d_St_orderSpot_14 : decode b_St_orderSpot 14 = .ok (.bipush 32, 2) := by decide +kernel
theorem d_St_orderSpot_16 : decode b_St_orderSpot 16 = .ok (.if_icmp .ge 7, 3) := by decide +kernel
theorem d_St_orderSpot_19 : decode b_St_orderSpot 19 = .ok (.iconst 1, 1) := by decide +kernel
theorem d_St_orderSpot_20 : decode b_St_orderSpot 20 = .ok (.goto 4, 3) := by decide +kernel
theorem d_St_orderSpot_23 : decode b_St_orderSpot 23 = .ok (.iconst 0, 1) := by decide +kernel
theorem d_St_orderSpot_24 : decode b_St_orderSpot 24 = .ok (.istore_n 2, 1) := by decide +kernel
theorem d_St_orderSpot_25 : decode b_St_orderSpot 25 = .ok (.iload_n 2, 1) := by decide +kernel
theorem d_St_orderSpot_26 : decode b_St_orderSpot 26 = .ok (.ifCond .eq 12, 3) := by decide +kernel
theorem d_St_orderSpot_29 : decode b_St_orderSpot 29 = .ok (.iload_n 0, 1) := by decide +kernel
theorem d_St_orderSpot_30 : decode b_St_orderSpot 30 = .ok (.bipush 32, 2) := by decide +kernel
theorem d_St_orderSpot_32 : decode b_St_orderSpot 32 = .ok (.imul, 1) := by decide +kernel
theorem d_St_orderSpot_33 : decode b_St_orderSpot 33 = .ok (.iload_n 1, 1) := by decide +kernel
theorem d_St_orderSpot_34 : decode b_St_orderSpot 34 = .ok (.iadd, 1) := by decide +kernel
theorem d_St_orderSpot_35 : decode b_St_orderSpot 35 = .ok (.goto 4, 3) := by decide +kernel
theorem d_St_orderSpot_38 : decode b_St_orderSpot 38 = .ok (.iconst (-1), 1) := by decide +kernel
theorem d_St_orderSpot_39 : decode b_St_orderSpot 39 = .ok (.ireturn, 1) := by decide +kernel
theorem d_St_wordSpot_0 : decode b_St_wordSpot 0 = .ok (.iload_n 1, 1) := by decide +kernel
theorem d_St_wordSpot_1 : decode b_St_wordSpot 1 = .ok (.ifCond .lt 20, 3) := by decide +kernel
theorem d_St_wordSpot_4 : decode b_St_wordSpot 4 = .ok (.iload_n 1, 1) := by decide +kernel
theorem d_St_wordSpot_5 : decode b_St_wordSpot 5 = .ok (.iload_n 0, 1) := by decide +kernel
theorem d_St_wordSpot_6 : decode b_St_wordSpot 6 = .ok (.invokestatic 19, 3) := by decide +kernel
theorem d_St_wordSpot_9 : decode b_St_wordSpot 9 = .ok (.if_icmp .ge 12, 3) := by decide +kernel
theorem d_St_wordSpot_12 : decode b_St_wordSpot 12 = .ok (.iload_n 0, 1) := by decide +kernel
theorem d_St_wordSpot_13 : decode b_St_wordSpot 13 = .ok (.invokestatic 23, 3) := by decide +kernel
theorem d_St_wordSpot_16 : decode b_St_wordSpot 16 = .ok (.iload_n 1, 1) := by decide +kernel
theorem d_St_wordSpot_17 : decode b_St_wordSpot 17 = .ok (.iadd, 1) := by decide +kernel
theorem d_St_wordSpot_18 : decode b_St_wordSpot 18 = .ok (.goto 4, 3) := by decide +kernel
theorem d_St_wordSpot_21 : decode b_St_wordSpot 21 = .ok (.iconst (-1), 1) := by decide +kernel
theorem d_St_wordSpot_22 : decode b_St_wordSpot 22 = .ok (.ireturn, 1) := by decide +kernel
theorem d_St_presentedSpot_0 : decode b_St_presentedSpot 0 = .ok (.iload_n 0, 1) := by decide +kernel
theorem d_St_presentedSpot_1 : decode b_St_presentedSpot 1 = .ok (.invokestatic 23, 3) := by decide +kernel
theorem d_St_presentedSpot_4 : decode b_St_presentedSpot 4 = .ok (.iload_n 1, 1) := by decide +kernel
theorem d_St_presentedSpot_5 : decode b_St_presentedSpot 5 = .ok (.iload_n 0, 1) := by decide +kernel
theorem d_St_presentedSpot_6 : decode b_St_presentedSpot 6 = .ok (.invokestatic 19, 3) := by decide +kernel
theorem d_St_presentedSpot_9 : decode b_St_presentedSpot 9 = .ok (.iconst 1, 1) := by decide +kernel
theorem d_St_presentedSpot_10 : decode b_St_presentedSpot 10 = .ok (.isub, 1) := by decide +kernel
theorem d_St_presentedSpot_11 : decode b_St_presentedSpot 11 = .ok (.iand, 1) := by decide +kernel
theorem d_St_presentedSpot_12 : decode b_St_presentedSpot 12 = .ok (.iadd, 1) := by decide +kernel
theorem d_St_presentedSpot_13 : decode b_St_presentedSpot 13 = .ok (.ireturn, 1) := by decide +kernel
theorem d_St_placesOf_0 : decode b_St_placesOf 0 = .ok (.iload_n 0, 1) := by decide +kernel
theorem d_St_placesOf_1 : decode b_St_placesOf 1 = .ok (.iconst 2, 1) := by decide +kernel
theorem d_St_placesOf_2 : decode b_St_placesOf 2 = .ok (.if_icmp .lt 11, 3) := by decide +kernel
theorem d_St_placesOf_5 : decode b_St_placesOf 5 = .ok (.iload_n 0, 1) := by decide +kernel
theorem d_St_placesOf_6 : decode b_St_placesOf 6 = .ok (.iconst 5, 1) := by decide +kernel
theorem d_St_placesOf_7 : decode b_St_placesOf 7 = .ok (.if_icmp .gt 6, 3) := by decide +kernel
theorem d_St_placesOf_10 : decode b_St_placesOf 10 = .ok (.bipush 32, 2) := by decide +kernel
theorem d_St_placesOf_12 : decode b_St_placesOf 12 = .ok (.ireturn, 1) := by decide +kernel
theorem d_St_placesOf_13 : decode b_St_placesOf 13 = .ok (.iload_n 0, 1) := by decide +kernel
theorem d_St_placesOf_14 : decode b_St_placesOf 14 = .ok (.bipush 6, 2) := by decide +kernel
theorem d_St_placesOf_16 : decode b_St_placesOf 16 = .ok (.if_icmp .eq 9, 3) := by decide +kernel
theorem d_St_placesOf_19 : decode b_St_placesOf 19 = .ok (.iload_n 0, 1) := by decide +kernel
theorem d_St_placesOf_20 : decode b_St_placesOf 20 = .ok (.bipush 7, 2) := by decide +kernel
theorem d_St_placesOf_22 : decode b_St_placesOf 22 = .ok (.if_icmp .ne 5, 3) := by decide +kernel
theorem d_St_placesOf_25 : decode b_St_placesOf 25 = .ok (.iconst 1, 1) := by decide +kernel
theorem d_St_placesOf_26 : decode b_St_placesOf 26 = .ok (.ireturn, 1) := by decide +kernel
theorem d_St_placesOf_27 : decode b_St_placesOf 27 = .ok (.iload_n 0, 1) := by decide +kernel
theorem d_St_placesOf_28 : decode b_St_placesOf 28 = .ok (.bipush 8, 2) := by decide +kernel
theorem d_St_placesOf_30 : decode b_St_placesOf 30 = .ok (.if_icmp .ne 7, 3) := by decide +kernel
theorem d_St_placesOf_33 : decode b_St_placesOf 33 = .ok (.iconst 2, 1) := by decide +kernel
theorem d_St_placesOf_34 : decode b_St_placesOf 34 = .ok (.goto 4, 3) := by decide +kernel
theorem d_St_placesOf_37 : decode b_St_placesOf 37 = .ok (.iconst 0, 1) := by decide +kernel
theorem d_St_placesOf_38 : decode b_St_placesOf 38 = .ok (.ireturn, 1) := by decide +kernel
theorem d_St_firstSpot_0 : decode b_St_firstSpot 0 = .ok (.iload_n 0, 1) := by decide +kernel
theorem d_St_firstSpot_1 : decode b_St_firstSpot 1 = .ok (.tableswitch 39 6 8 #[27, 31, 35], 27) := by decide +kernel
theorem d_St_firstSpot_28 : decode b_St_firstSpot 28 = .ok (.sipush 128, 3) := by decide +kernel
theorem d_St_firstSpot_31 : decode b_St_firstSpot 31 = .ok (.ireturn, 1) := by decide +kernel
theorem d_St_firstSpot_32 : decode b_St_firstSpot 32 = .ok (.sipush 129, 3) := by decide +kernel
theorem d_St_firstSpot_35 : decode b_St_firstSpot 35 = .ok (.ireturn, 1) := by decide +kernel
theorem d_St_firstSpot_36 : decode b_St_firstSpot 36 = .ok (.sipush 130, 3) := by decide +kernel
theorem d_St_firstSpot_39 : decode b_St_firstSpot 39 = .ok (.ireturn, 1) := by decide +kernel
theorem d_St_firstSpot_40 : decode b_St_firstSpot 40 = .ok (.iload_n 0, 1) := by decide +kernel
theorem d_St_firstSpot_41 : decode b_St_firstSpot 41 = .ok (.iconst 2, 1) := by decide +kernel
theorem d_St_firstSpot_42 : decode b_St_firstSpot 42 = .ok (.isub, 1) := by decide +kernel
theorem d_St_firstSpot_43 : decode b_St_firstSpot 43 = .ok (.bipush 32, 2) := by decide +kernel
theorem d_St_firstSpot_45 : decode b_St_firstSpot 45 = .ok (.imul, 1) := by decide +kernel
theorem d_St_firstSpot_46 : decode b_St_firstSpot 46 = .ok (.ireturn, 1) := by decide +kernel
theorem d_St_product_0 : decode b_St_product 0 = .ok (.aload_n 0, 1) := by decide +kernel
theorem d_St_product_1 : decode b_St_product 1 = .ok (.getfield 15, 3) := by decide +kernel
theorem d_St_product_4 : decode b_St_product 4 = .ok (.sipush 131, 3) := by decide +kernel
theorem d_St_product_7 : decode b_St_product 7 = .ok (.saload, 1) := by decide +kernel
theorem d_St_product_8 : decode b_St_product 8 = .ok (.bipush 16, 2) := by decide +kernel
theorem d_St_product_10 : decode b_St_product 10 = .ok (.ishl, 1) := by decide +kernel
theorem d_St_product_11 : decode b_St_product 11 = .ok (.aload_n 0, 1) := by decide +kernel
theorem d_St_product_12 : decode b_St_product 12 = .ok (.getfield 15, 3) := by decide +kernel
theorem d_St_product_15 : decode b_St_product 15 = .ok (.sipush 130, 3) := by decide +kernel
theorem d_St_product_18 : decode b_St_product 18 = .ok (.saload, 1) := by decide +kernel
theorem d_St_product_19 : decode b_St_product 19 = .ok (.ldc 26, 2) := by decide +kernel
theorem d_St_product_21 : decode b_St_product 21 = .ok (.iand, 1) := by decide +kernel
theorem d_St_product_22 : decode b_St_product 22 = .ok (.ior, 1) := by decide +kernel
theorem d_St_product_23 : decode b_St_product 23 = .ok (.ireturn, 1) := by decide +kernel
theorem d_St_setProduct_0 : decode b_St_setProduct 0 = .ok (.aload_n 0, 1) := by decide +kernel
theorem d_St_setProduct_1 : decode b_St_setProduct 1 = .ok (.getfield 15, 3) := by decide +kernel
theorem d_St_setProduct_4 : decode b_St_setProduct 4 = .ok (.sipush 130, 3) := by decide +kernel
theorem d_St_setProduct_7 : decode b_St_setProduct 7 = .ok (.iload_n 1, 1) := by decide +kernel
theorem d_St_setProduct_8 : decode b_St_setProduct 8 = .ok (.i2s, 1) := by decide +kernel
theorem d_St_setProduct_9 : decode b_St_setProduct 9 = .ok (.sastore, 1) := by decide +kernel
theorem d_St_setProduct_10 : decode b_St_setProduct 10 = .ok (.aload_n 0, 1) := by decide +kernel
theorem d_St_setProduct_11 : decode b_St_setProduct 11 = .ok (.getfield 15, 3) := by decide +kernel
theorem d_St_setProduct_14 : decode b_St_setProduct 14 = .ok (.sipush 131, 3) := by decide +kernel
theorem d_St_setProduct_17 : decode b_St_setProduct 17 = .ok (.iload_n 1, 1) := by decide +kernel
theorem d_St_setProduct_18 : decode b_St_setProduct 18 = .ok (.bipush 16, 2) := by decide +kernel
theorem d_St_setProduct_20 : decode b_St_setProduct 20 = .ok (.ishr, 1) := by decide +kernel
theorem d_St_setProduct_21 : decode b_St_setProduct 21 = .ok (.i2s, 1) := by decide +kernel
theorem d_St_setProduct_22 : decode b_St_setProduct 22 = .ok (.sastore, 1) := by decide +kernel
theorem d_St_setProduct_23 : decode b_St_setProduct 23 = .ok (.return_, 1) := by decide +kernel
theorem d_Wi_init_0 : decode b_Wi_init 0 = .ok (.aload_n 0, 1) := by decide +kernel
theorem d_Wi_init_1 : decode b_Wi_init 1 = .ok (.invokespecial 3, 3) := by decide +kernel
theorem d_Wi_init_4 : decode b_Wi_init 4 = .ok (.return_, 1) := by decide +kernel
theorem d_Wi_close_0 : decode b_Wi_close 0 = .ok (.aload_n 0, 1) := by decide +kernel
theorem d_Wi_close_1 : decode b_Wi_close 1 = .ok (.iconst 1, 1) := by decide +kernel
theorem d_Wi_close_2 : decode b_Wi_close 2 = .ok (.putfield 9, 3) := by decide +kernel
theorem d_Wi_close_5 : decode b_Wi_close 5 = .ok (.aload_n 0, 1) := by decide +kernel
theorem d_Wi_close_6 : decode b_Wi_close 6 = .ok (.iconst 0, 1) := by decide +kernel
theorem d_Wi_close_7 : decode b_Wi_close 7 = .ok (.putfield 15, 3) := by decide +kernel
theorem d_Wi_close_10 : decode b_Wi_close 10 = .ok (.return_, 1) := by decide +kernel
theorem d_Wi_open_0 : decode b_Wi_open 0 = .ok (.aload_n 0, 1) := by decide +kernel
theorem d_Wi_open_1 : decode b_Wi_open 1 = .ok (.iload_n 1, 1) := by decide +kernel
theorem d_Wi_open_2 : decode b_Wi_open 2 = .ok (.bipush 15, 2) := by decide +kernel
theorem d_Wi_open_4 : decode b_Wi_open 4 = .ok (.iand, 1) := by decide +kernel
theorem d_Wi_open_5 : decode b_Wi_open 5 = .ok (.putfield 18, 3) := by decide +kernel
theorem d_Wi_open_8 : decode b_Wi_open 8 = .ok (.aload_n 0, 1) := by decide +kernel
theorem d_Wi_open_9 : decode b_Wi_open 9 = .ok (.iload_n 1, 1) := by decide +kernel
theorem d_Wi_open_10 : decode b_Wi_open 10 = .ok (.iconst 4, 1) := by decide +kernel
theorem d_Wi_open_11 : decode b_Wi_open 11 = .ok (.ishr, 1) := by decide +kernel
theorem d_Wi_open_12 : decode b_Wi_open 12 = .ok (.bipush 15, 2) := by decide +kernel
theorem d_Wi_open_14 : decode b_Wi_open 14 = .ok (.iand, 1) := by decide +kernel
theorem d_Wi_open_15 : decode b_Wi_open 15 = .ok (.putfield 21, 3) := by decide +kernel
theorem d_Wi_open_18 : decode b_Wi_open 18 = .ok (.iload_n 1, 1) := by decide +kernel
theorem d_Wi_open_19 : decode b_Wi_open 19 = .ok (.bipush 10, 2) := by decide +kernel
theorem d_Wi_open_21 : decode b_Wi_open 21 = .ok (.ishr, 1) := by decide +kernel
theorem d_Wi_open_22 : decode b_Wi_open 22 = .ok (.bipush 31, 2) := by decide +kernel
theorem d_Wi_open_24 : decode b_Wi_open 24 = .ok (.iand, 1) := by decide +kernel
theorem d_Wi_open_25 : decode b_Wi_open 25 = .ok (.istore_n 3, 1) := by decide +kernel
theorem d_Wi_open_26 : decode b_Wi_open 26 = .ok (.iload_n 1, 1) := by decide +kernel
theorem d_Wi_open_27 : decode b_Wi_open 27 = .ok (.bipush 15, 2) := by decide +kernel
theorem d_Wi_open_29 : decode b_Wi_open 29 = .ok (.ishr, 1) := by decide +kernel
theorem d_Wi_open_30 : decode b_Wi_open 30 = .ok (.bipush 31, 2) := by decide +kernel
theorem d_Wi_open_32 : decode b_Wi_open 32 = .ok (.iand, 1) := by decide +kernel
theorem d_Wi_open_33 : decode b_Wi_open 33 = .ok (.istore 4, 2) := by decide +kernel
theorem d_Wi_open_35 : decode b_Wi_open 35 = .ok (.iload 4, 2) := by decide +kernel
theorem d_Wi_open_37 : decode b_Wi_open 37 = .ok (.iload_n 3, 1) := by decide +kernel
theorem d_Wi_open_38 : decode b_Wi_open 38 = .ok (.if_icmp .ge 11, 3) := by decide +kernel
theorem d_Wi_open_41 : decode b_Wi_open 41 = .ok (.iload 4, 2) := by decide +kernel
theorem d_Wi_open_43 : decode b_Wi_open 43 = .ok (.bipush 32, 2) := by decide +kernel
theorem d_Wi_open_45 : decode b_Wi_open 45 = .ok (.iadd, 1) := by decide +kernel
theorem d_Wi_open_46 : decode b_Wi_open 46 = .ok (.goto 5, 3) := by decide +kernel
theorem d_Wi_open_49 : decode b_Wi_open 49 = .ok (.iload 4, 2) := by decide +kernel
theorem d_Wi_open_51 : decode b_Wi_open 51 = .ok (.istore 5, 2) := by decide +kernel
theorem d_Wi_open_53 : decode b_Wi_open 53 = .ok (.aload_n 0, 1) := by decide +kernel
theorem d_Wi_open_54 : decode b_Wi_open 54 = .ok (.iload_n 2, 1) := by decide +kernel
theorem d_Wi_open_55 : decode b_Wi_open 55 = .ok (.iconst 2, 1) := by decide +kernel
theorem d_Wi_open_56 : decode b_Wi_open 56 = .ok (.iadd, 1) := by decide +kernel
theorem d_Wi_open_57 : decode b_Wi_open 57 = .ok (.iload_n 3, 1) := by decide +kernel
theorem d_Wi_open_58 : decode b_Wi_open 58 = .ok (.iadd, 1) := by decide +kernel
theorem d_Wi_open_59 : decode b_Wi_open 59 = .ok (.putfield 9, 3) := by decide +kernel
theorem d_Wi_open_62 : decode b_Wi_open 62 = .ok (.aload_n 0, 1) := by decide +kernel
theorem d_Wi_open_63 : decode b_Wi_open 63 = .ok (.iload_n 2, 1) := by decide +kernel
theorem d_Wi_open_64 : decode b_Wi_open 64 = .ok (.iconst 2, 1) := by decide +kernel
theorem d_Wi_open_65 : decode b_Wi_open 65 = .ok (.iadd, 1) := by decide +kernel
theorem d_Wi_open_66 : decode b_Wi_open 66 = .ok (.iload 5, 2) := by decide +kernel
theorem d_Wi_open_68 : decode b_Wi_open 68 = .ok (.iadd, 1) := by decide +kernel
theorem d_Wi_open_69 : decode b_Wi_open 69 = .ok (.putfield 24, 3) := by decide +kernel
theorem d_Wi_open_72 : decode b_Wi_open 72 = .ok (.aload_n 0, 1) := by decide +kernel
theorem d_Wi_open_73 : decode b_Wi_open 73 = .ok (.aload_n 0, 1) := by decide +kernel
theorem d_Wi_open_74 : decode b_Wi_open 74 = .ok (.iload_n 1, 1) := by decide +kernel
theorem d_Wi_open_75 : decode b_Wi_open 75 = .ok (.bipush 8, 2) := by decide +kernel
theorem d_Wi_open_77 : decode b_Wi_open 77 = .ok (.ishr, 1) := by decide +kernel
theorem d_Wi_open_78 : decode b_Wi_open 78 = .ok (.iconst 3, 1) := by decide +kernel
theorem d_Wi_open_79 : decode b_Wi_open 79 = .ok (.iand, 1) := by decide +kernel
theorem d_Wi_open_80 : decode b_Wi_open 80 = .ok (.invokevirtual 27, 3) := by decide +kernel
theorem d_Wi_open_83 : decode b_Wi_open 83 = .ok (.putfield 15, 3) := by decide +kernel
theorem d_Wi_open_86 : decode b_Wi_open 86 = .ok (.return_, 1) := by decide +kernel
theorem d_Wi_lastOf_0 : decode b_Wi_lastOf 0 = .ok (.iload_n 1, 1) := by decide +kernel
theorem d_Wi_lastOf_1 : decode b_Wi_lastOf 1 = .ok (.iconst 2, 1) := by decide +kernel
theorem d_Wi_lastOf_2 : decode b_Wi_lastOf 2 = .ok (.if_icmp .ne 8, 3) := by decide +kernel
theorem d_Wi_lastOf_5 : decode b_Wi_lastOf 5 = .ok (.aload_n 0, 1) := by decide +kernel
theorem d_Wi_lastOf_6 : decode b_Wi_lastOf 6 = .ok (.getfield 24, 3) := by decide +kernel
theorem d_Wi_lastOf_9 : decode b_Wi_lastOf 9 = .ok (.ireturn, 1) := by decide +kernel
theorem d_Wi_lastOf_10 : decode b_Wi_lastOf 10 = .ok (.iload_n 1, 1) := by decide +kernel
theorem d_Wi_lastOf_11 : decode b_Wi_lastOf 11 = .ok (.iconst 1, 1) := by decide +kernel
theorem d_Wi_lastOf_12 : decode b_Wi_lastOf 12 = .ok (.if_icmp .ne 12, 3) := by decide +kernel
theorem d_Wi_lastOf_15 : decode b_Wi_lastOf 15 = .ok (.aload_n 0, 1) := by decide +kernel
theorem d_Wi_lastOf_16 : decode b_Wi_lastOf 16 = .ok (.getfield 9, 3) := by decide +kernel
theorem d_Wi_lastOf_19 : decode b_Wi_lastOf 19 = .ok (.iconst 1, 1) := by decide +kernel
theorem d_Wi_lastOf_20 : decode b_Wi_lastOf 20 = .ok (.iadd, 1) := by decide +kernel
theorem d_Wi_lastOf_21 : decode b_Wi_lastOf 21 = .ok (.goto 7, 3) := by decide +kernel
theorem d_Wi_lastOf_24 : decode b_Wi_lastOf 24 = .ok (.aload_n 0, 1) := by decide +kernel
theorem d_Wi_lastOf_25 : decode b_Wi_lastOf 25 = .ok (.getfield 9, 3) := by decide +kernel
theorem d_Wi_lastOf_28 : decode b_Wi_lastOf 28 = .ok (.ireturn, 1) := by decide +kernel
theorem d_Wi_covers_0 : decode b_Wi_covers 0 = .ok (.iload_n 1, 1) := by decide +kernel
theorem d_Wi_covers_1 : decode b_Wi_covers 1 = .ok (.aload_n 0, 1) := by decide +kernel
theorem d_Wi_covers_2 : decode b_Wi_covers 2 = .ok (.getfield 9, 3) := by decide +kernel
theorem d_Wi_covers_5 : decode b_Wi_covers 5 = .ok (.if_icmp .lt 15, 3) := by decide +kernel
theorem d_Wi_covers_8 : decode b_Wi_covers 8 = .ok (.iload_n 1, 1) := by decide +kernel
theorem d_Wi_covers_9 : decode b_Wi_covers 9 = .ok (.aload_n 0, 1) := by decide +kernel
theorem d_Wi_covers_10 : decode b_Wi_covers 10 = .ok (.getfield 15, 3) := by decide +kernel
theorem d_Wi_covers_13 : decode b_Wi_covers 13 = .ok (.if_icmp .gt 7, 3) := by decide +kernel
theorem d_Wi_covers_16 : decode b_Wi_covers 16 = .ok (.iconst 1, 1) := by decide +kernel
theorem d_Wi_covers_17 : decode b_Wi_covers 17 = .ok (.goto 4, 3) := by decide +kernel
theorem d_Wi_covers_20 : decode b_Wi_covers 20 = .ok (.iconst 0, 1) := by decide +kernel
theorem d_Wi_covers_21 : decode b_Wi_covers 21 = .ok (.ireturn, 1) := by decide +kernel
theorem d_Lw_law_0 : decode b_Lw_law 0 = .ok (.new 7, 3) := by decide +kernel
theorem d_Lw_law_3 : decode b_Lw_law 3 = .ok (.dup, 1) := by decide +kernel
theorem d_Lw_law_4 : decode b_Lw_law 4 = .ok (.invokespecial 9, 3) := by decide +kernel
theorem d_Lw_law_7 : decode b_Lw_law 7 = .ok (.astore_n 1, 1) := by decide +kernel
theorem d_Lw_law_8 : decode b_Lw_law 8 = .ok (.new 10, 3) := by decide +kernel
theorem d_Lw_law_11 : decode b_Lw_law 11 = .ok (.dup, 1) := by decide +kernel
theorem d_Lw_law_12 : decode b_Lw_law 12 = .ok (.invokespecial 12, 3) := by decide +kernel
theorem d_Lw_law_15 : decode b_Lw_law 15 = .ok (.astore_n 2, 1) := by decide +kernel
theorem d_Lw_law_16 : decode b_Lw_law 16 = .ok (.iconst 0, 1) := by decide +kernel
theorem d_Lw_law_17 : decode b_Lw_law 17 = .ok (.istore_n 3, 1) := by decide +kernel
theorem d_Lw_law_18 : decode b_Lw_law 18 = .ok (.iload_n 3, 1) := by decide +kernel
theorem d_Lw_law_19 : decode b_Lw_law 19 = .ok (.aload_n 0, 1) := by decide +kernel
theorem d_Lw_law_20 : decode b_Lw_law 20 = .ok (.arraylength, 1) := by decide +kernel
theorem d_Lw_law_21 : decode b_Lw_law 21 = .ok (.bipush 6, 2) := by decide +kernel
theorem d_Lw_law_23 : decode b_Lw_law 23 = .ok (.isub, 1) := by decide +kernel
theorem d_Lw_law_24 : decode b_Lw_law 24 = .ok (.if_icmp .gt 500, 3) := by decide +kernel
theorem d_Lw_law_27 : decode b_Lw_law 27 = .ok (.aload_n 0, 1) := by decide +kernel
theorem d_Lw_law_28 : decode b_Lw_law 28 = .ok (.iload_n 3, 1) := by decide +kernel
theorem d_Lw_law_29 : decode b_Lw_law 29 = .ok (.iaload, 1) := by decide +kernel
theorem d_Lw_law_30 : decode b_Lw_law 30 = .ok (.bipush 15, 2) := by decide +kernel
theorem d_Lw_law_32 : decode b_Lw_law 32 = .ok (.iand, 1) := by decide +kernel
theorem d_Lw_law_33 : decode b_Lw_law 33 = .ok (.tableswitch 485 0 13 #[71, 114, 159, 184, 217, 240, 263, 296, 329, 352, 415, 426, 439, 462], 71) := by decide +kernel
theorem d_Lw_law_104 : decode b_Lw_law 104 = .ok (.aload_n 1, 1) := by decide +kernel
theorem d_Lw_law_105 : decode b_Lw_law 105 = .ok (.aload_n 0, 1) := by decide +kernel
theorem d_Lw_law_106 : decode b_Lw_law 106 = .ok (.iload_n 3, 1) := by decide +kernel
theorem d_Lw_law_107 : decode b_Lw_law 107 = .ok (.iconst 1, 1) := by decide +kernel
theorem d_Lw_law_108 : decode b_Lw_law 108 = .ok (.iadd, 1) := by decide +kernel
theorem d_Lw_law_109 : decode b_Lw_law 109 = .ok (.iaload, 1) := by decide +kernel
theorem d_Lw_law_110 : decode b_Lw_law 110 = .ok (.aload_n 0, 1) := by decide +kernel
theorem d_Lw_law_111 : decode b_Lw_law 111 = .ok (.iload_n 3, 1) := by decide +kernel
theorem d_Lw_law_112 : decode b_Lw_law 112 = .ok (.iconst 2, 1) := by decide +kernel
theorem d_Lw_law_113 : decode b_Lw_law 113 = .ok (.iadd, 1) := by decide +kernel
theorem d_Lw_law_114 : decode b_Lw_law 114 = .ok (.iaload, 1) := by decide +kernel
theorem d_Lw_law_115 : decode b_Lw_law 115 = .ok (.aload_n 0, 1) := by decide +kernel
theorem d_Lw_law_116 : decode b_Lw_law 116 = .ok (.iload_n 3, 1) := by decide +kernel
theorem d_Lw_law_117 : decode b_Lw_law 117 = .ok (.iconst 3, 1) := by decide +kernel
theorem d_Lw_law_118 : decode b_Lw_law 118 = .ok (.iadd, 1) := by decide +kernel
theorem d_Lw_law_119 : decode b_Lw_law 119 = .ok (.iaload, 1) := by decide +kernel
theorem d_Lw_law_120 : decode b_Lw_law 120 = .ok (.invokevirtual 13, 3) := by decide +kernel
theorem d_Lw_law_123 : decode b_Lw_law 123 = .ok (.aload_n 2, 1) := by decide +kernel
theorem d_Lw_law_124 : decode b_Lw_law 124 = .ok (.aload_n 0, 1) := by decide +kernel
theorem d_Lw_law_125 : decode b_Lw_law 125 = .ok (.iload_n 3, 1) := by decide +kernel
theorem d_Lw_law_126 : decode b_Lw_law 126 = .ok (.iconst 1, 1) := by decide +kernel
theorem d_Lw_law_127 : decode b_Lw_law 127 = .ok (.iadd, 1) := by decide +kernel
theorem d_Lw_law_128 : decode b_Lw_law 128 = .ok (.iaload, 1) := by decide +kernel
theorem d_Lw_law_129 : decode b_Lw_law 129 = .ok (.aload_n 0, 1) := by decide +kernel
theorem d_Lw_law_130 : decode b_Lw_law 130 = .ok (.iload_n 3, 1) := by decide +kernel
theorem d_Lw_law_131 : decode b_Lw_law 131 = .ok (.iconst 2, 1) := by decide +kernel
theorem d_Lw_law_132 : decode b_Lw_law 132 = .ok (.iadd, 1) := by decide +kernel
theorem d_Lw_law_133 : decode b_Lw_law 133 = .ok (.iaload, 1) := by decide +kernel
theorem d_Lw_law_134 : decode b_Lw_law 134 = .ok (.aload_n 0, 1) := by decide +kernel
theorem d_Lw_law_135 : decode b_Lw_law 135 = .ok (.iload_n 3, 1) := by decide +kernel
theorem d_Lw_law_136 : decode b_Lw_law 136 = .ok (.iconst 3, 1) := by decide +kernel
theorem d_Lw_law_137 : decode b_Lw_law 137 = .ok (.iadd, 1) := by decide +kernel
theorem d_Lw_law_138 : decode b_Lw_law 138 = .ok (.iaload, 1) := by decide +kernel
theorem d_Lw_law_139 : decode b_Lw_law 139 = .ok (.invokevirtual 17, 3) := by decide +kernel
theorem d_Lw_law_142 : decode b_Lw_law 142 = .ok (.if_icmp .eq 376, 3) := by decide +kernel
theorem d_Lw_law_145 : decode b_Lw_law 145 = .ok (.iconst 0, 1) := by decide +kernel
theorem d_Lw_law_146 : decode b_Lw_law 146 = .ok (.ireturn, 1) := by decide +kernel
theorem d_Lw_law_147 : decode b_Lw_law 147 = .ok (.aload_n 1, 1) := by decide +kernel
theorem d_Lw_law_148 : decode b_Lw_law 148 = .ok (.aload_n 0, 1) := by decide +kernel
theorem d_Lw_law_149 : decode b_Lw_law 149 = .ok (.iload_n 3, 1) := by decide +kernel
theorem d_Lw_law_150 : decode b_Lw_law 150 = .ok (.iconst 1, 1) := by decide +kernel
theorem d_Lw_law_151 : decode b_Lw_law 151 = .ok (.iadd, 1) := by decide +kernel
theorem d_Lw_law_152 : decode b_Lw_law 152 = .ok (.iaload, 1) := by decide +kernel
theorem d_Lw_law_153 : decode b_Lw_law 153 = .ok (.aload_n 0, 1) := by decide +kernel
theorem d_Lw_law_154 : decode b_Lw_law 154 = .ok (.iload_n 3, 1) := by decide +kernel
theorem d_Lw_law_155 : decode b_Lw_law 155 = .ok (.iconst 2, 1) := by decide +kernel
theorem d_Lw_law_156 : decode b_Lw_law 156 = .ok (.iadd, 1) := by decide +kernel
theorem d_Lw_law_157 : decode b_Lw_law 157 = .ok (.iaload, 1) := by decide +kernel
theorem d_Lw_law_158 : decode b_Lw_law 158 = .ok (.aload_n 0, 1) := by decide +kernel
theorem d_Lw_law_159 : decode b_Lw_law 159 = .ok (.iload_n 3, 1) := by decide +kernel
theorem d_Lw_law_160 : decode b_Lw_law 160 = .ok (.iconst 3, 1) := by decide +kernel
theorem d_Lw_law_161 : decode b_Lw_law 161 = .ok (.iadd, 1) := by decide +kernel
theorem d_Lw_law_162 : decode b_Lw_law 162 = .ok (.iaload, 1) := by decide +kernel
theorem d_Lw_law_163 : decode b_Lw_law 163 = .ok (.i2s, 1) := by decide +kernel
theorem d_Lw_law_164 : decode b_Lw_law 164 = .ok (.invokevirtual 18, 3) := by decide +kernel
theorem d_Lw_law_167 : decode b_Lw_law 167 = .ok (.aload_n 2, 1) := by decide +kernel
theorem d_Lw_law_168 : decode b_Lw_law 168 = .ok (.aload_n 0, 1) := by decide +kernel
theorem d_Lw_law_169 : decode b_Lw_law 169 = .ok (.iload_n 3, 1) := by decide +kernel
theorem d_Lw_law_170 : decode b_Lw_law 170 = .ok (.iconst 1, 1) := by decide +kernel
theorem d_Lw_law_171 : decode b_Lw_law 171 = .ok (.iadd, 1) := by decide +kernel
theorem d_Lw_law_172 : decode b_Lw_law 172 = .ok (.iaload, 1) := by decide +kernel
theorem d_Lw_law_173 : decode b_Lw_law 173 = .ok (.aload_n 0, 1) := by decide +kernel
theorem d_Lw_law_174 : decode b_Lw_law 174 = .ok (.iload_n 3, 1) := by decide +kernel
theorem d_Lw_law_175 : decode b_Lw_law 175 = .ok (.iconst 2, 1) := by decide +kernel
theorem d_Lw_law_176 : decode b_Lw_law 176 = .ok (.iadd, 1) := by decide +kernel
theorem d_Lw_law_177 : decode b_Lw_law 177 = .ok (.iaload, 1) := by decide +kernel
theorem d_Lw_law_178 : decode b_Lw_law 178 = .ok (.aload_n 0, 1) := by decide +kernel
theorem d_Lw_law_179 : decode b_Lw_law 179 = .ok (.iload_n 3, 1) := by decide +kernel
theorem d_Lw_law_180 : decode b_Lw_law 180 = .ok (.iconst 3, 1) := by decide +kernel
theorem d_Lw_law_181 : decode b_Lw_law 181 = .ok (.iadd, 1) := by decide +kernel
theorem d_Lw_law_182 : decode b_Lw_law 182 = .ok (.iaload, 1) := by decide +kernel
theorem d_Lw_law_183 : decode b_Lw_law 183 = .ok (.i2s, 1) := by decide +kernel
theorem d_Lw_law_184 : decode b_Lw_law 184 = .ok (.invokevirtual 22, 3) := by decide +kernel
theorem d_Lw_law_187 : decode b_Lw_law 187 = .ok (.if_icmp .eq 331, 3) := by decide +kernel
theorem d_Lw_law_190 : decode b_Lw_law 190 = .ok (.iconst 0, 1) := by decide +kernel
theorem d_Lw_law_191 : decode b_Lw_law 191 = .ok (.ireturn, 1) := by decide +kernel
theorem d_Lw_law_192 : decode b_Lw_law 192 = .ok (.aload_n 1, 1) := by decide +kernel
theorem d_Lw_law_193 : decode b_Lw_law 193 = .ok (.aload_n 0, 1) := by decide +kernel
theorem d_Lw_law_194 : decode b_Lw_law 194 = .ok (.iload_n 3, 1) := by decide +kernel
theorem d_Lw_law_195 : decode b_Lw_law 195 = .ok (.iconst 1, 1) := by decide +kernel
theorem d_Lw_law_196 : decode b_Lw_law 196 = .ok (.iadd, 1) := by decide +kernel
theorem d_Lw_law_197 : decode b_Lw_law 197 = .ok (.iaload, 1) := by decide +kernel
theorem d_Lw_law_198 : decode b_Lw_law 198 = .ok (.i2s, 1) := by decide +kernel
theorem d_Lw_law_199 : decode b_Lw_law 199 = .ok (.invokevirtual 23, 3) := by decide +kernel
theorem d_Lw_law_202 : decode b_Lw_law 202 = .ok (.aload_n 2, 1) := by decide +kernel
theorem d_Lw_law_203 : decode b_Lw_law 203 = .ok (.aload_n 0, 1) := by decide +kernel
theorem d_Lw_law_204 : decode b_Lw_law 204 = .ok (.iload_n 3, 1) := by decide +kernel
theorem d_Lw_law_205 : decode b_Lw_law 205 = .ok (.iconst 1, 1) := by decide +kernel
theorem d_Lw_law_206 : decode b_Lw_law 206 = .ok (.iadd, 1) := by decide +kernel
theorem d_Lw_law_207 : decode b_Lw_law 207 = .ok (.iaload, 1) := by decide +kernel
theorem d_Lw_law_208 : decode b_Lw_law 208 = .ok (.i2s, 1) := by decide +kernel
theorem d_Lw_law_209 : decode b_Lw_law 209 = .ok (.invokevirtual 27, 3) := by decide +kernel
theorem d_Lw_law_212 : decode b_Lw_law 212 = .ok (.if_icmp .eq 306, 3) := by decide +kernel
theorem d_Lw_law_215 : decode b_Lw_law 215 = .ok (.iconst 0, 1) := by decide +kernel
theorem d_Lw_law_216 : decode b_Lw_law 216 = .ok (.ireturn, 1) := by decide +kernel
theorem d_Lw_law_217 : decode b_Lw_law 217 = .ok (.aload_n 1, 1) := by decide +kernel
theorem d_Lw_law_218 : decode b_Lw_law 218 = .ok (.aload_n 0, 1) := by decide +kernel
theorem d_Lw_law_219 : decode b_Lw_law 219 = .ok (.iload_n 3, 1) := by decide +kernel
theorem d_Lw_law_220 : decode b_Lw_law 220 = .ok (.iconst 1, 1) := by decide +kernel
theorem d_Lw_law_221 : decode b_Lw_law 221 = .ok (.iadd, 1) := by decide +kernel
theorem d_Lw_law_222 : decode b_Lw_law 222 = .ok (.iaload, 1) := by decide +kernel
theorem d_Lw_law_223 : decode b_Lw_law 223 = .ok (.aload_n 0, 1) := by decide +kernel
theorem d_Lw_law_224 : decode b_Lw_law 224 = .ok (.iload_n 3, 1) := by decide +kernel
theorem d_Lw_law_225 : decode b_Lw_law 225 = .ok (.iconst 2, 1) := by decide +kernel
theorem d_Lw_law_226 : decode b_Lw_law 226 = .ok (.iadd, 1) := by decide +kernel
theorem d_Lw_law_227 : decode b_Lw_law 227 = .ok (.iaload, 1) := by decide +kernel
theorem d_Lw_law_228 : decode b_Lw_law 228 = .ok (.invokevirtual 28, 3) := by decide +kernel
theorem d_Lw_law_231 : decode b_Lw_law 231 = .ok (.aload_n 2, 1) := by decide +kernel
theorem d_Lw_law_232 : decode b_Lw_law 232 = .ok (.aload_n 0, 1) := by decide +kernel
theorem d_Lw_law_233 : decode b_Lw_law 233 = .ok (.iload_n 3, 1) := by decide +kernel
theorem d_Lw_law_234 : decode b_Lw_law 234 = .ok (.iconst 1, 1) := by decide +kernel
theorem d_Lw_law_235 : decode b_Lw_law 235 = .ok (.iadd, 1) := by decide +kernel
theorem d_Lw_law_236 : decode b_Lw_law 236 = .ok (.iaload, 1) := by decide +kernel
theorem d_Lw_law_237 : decode b_Lw_law 237 = .ok (.aload_n 0, 1) := by decide +kernel
theorem d_Lw_law_238 : decode b_Lw_law 238 = .ok (.iload_n 3, 1) := by decide +kernel
theorem d_Lw_law_239 : decode b_Lw_law 239 = .ok (.iconst 2, 1) := by decide +kernel
theorem d_Lw_law_240 : decode b_Lw_law 240 = .ok (.iadd, 1) := by decide +kernel
theorem d_Lw_law_241 : decode b_Lw_law 241 = .ok (.iaload, 1) := by decide +kernel
theorem d_Lw_law_242 : decode b_Lw_law 242 = .ok (.invokevirtual 32, 3) := by decide +kernel
theorem d_Lw_law_245 : decode b_Lw_law 245 = .ok (.if_icmp .eq 273, 3) := by decide +kernel
theorem d_Lw_law_248 : decode b_Lw_law 248 = .ok (.iconst 0, 1) := by decide +kernel
theorem d_Lw_law_249 : decode b_Lw_law 249 = .ok (.ireturn, 1) := by decide +kernel
theorem d_Lw_law_250 : decode b_Lw_law 250 = .ok (.aload_n 1, 1) := by decide +kernel
theorem d_Lw_law_251 : decode b_Lw_law 251 = .ok (.aload_n 0, 1) := by decide +kernel
theorem d_Lw_law_252 : decode b_Lw_law 252 = .ok (.iload_n 3, 1) := by decide +kernel
theorem d_Lw_law_253 : decode b_Lw_law 253 = .ok (.iconst 1, 1) := by decide +kernel
theorem d_Lw_law_254 : decode b_Lw_law 254 = .ok (.iadd, 1) := by decide +kernel
theorem d_Lw_law_255 : decode b_Lw_law 255 = .ok (.iaload, 1) := by decide +kernel
theorem d_Lw_law_256 : decode b_Lw_law 256 = .ok (.invokevirtual 33, 3) := by decide +kernel
theorem d_Lw_law_259 : decode b_Lw_law 259 = .ok (.aload_n 2, 1) := by decide +kernel
theorem d_Lw_law_260 : decode b_Lw_law 260 = .ok (.aload_n 0, 1) := by decide +kernel
theorem d_Lw_law_261 : decode b_Lw_law 261 = .ok (.iload_n 3, 1) := by decide +kernel
theorem d_Lw_law_262 : decode b_Lw_law 262 = .ok (.iconst 1, 1) := by decide +kernel
theorem d_Lw_law_263 : decode b_Lw_law 263 = .ok (.iadd, 1) := by decide +kernel
theorem d_Lw_law_264 : decode b_Lw_law 264 = .ok (.iaload, 1) := by decide +kernel
theorem d_Lw_law_265 : decode b_Lw_law 265 = .ok (.invokevirtual 37, 3) := by decide +kernel
theorem d_Lw_law_268 : decode b_Lw_law 268 = .ok (.if_icmp .eq 250, 3) := by decide +kernel
theorem d_Lw_law_271 : decode b_Lw_law 271 = .ok (.iconst 0, 1) := by decide +kernel
theorem d_Lw_law_272 : decode b_Lw_law 272 = .ok (.ireturn, 1) := by decide +kernel
theorem d_Lw_law_273 : decode b_Lw_law 273 = .ok (.aload_n 1, 1) := by decide +kernel
theorem d_Lw_law_274 : decode b_Lw_law 274 = .ok (.aload_n 0, 1) := by decide +kernel
theorem d_Lw_law_275 : decode b_Lw_law 275 = .ok (.iload_n 3, 1) := by decide +kernel
theorem d_Lw_law_276 : decode b_Lw_law 276 = .ok (.iconst 1, 1) := by decide +kernel
theorem d_Lw_law_277 : decode b_Lw_law 277 = .ok (.iadd, 1) := by decide +kernel
theorem d_Lw_law_278 : decode b_Lw_law 278 = .ok (.iaload, 1) := by decide +kernel
theorem d_Lw_law_279 : decode b_Lw_law 279 = .ok (.invokevirtual 38, 3) := by decide +kernel
theorem d_Lw_law_282 : decode b_Lw_law 282 = .ok (.aload_n 2, 1) := by decide +kernel
theorem d_Lw_law_283 : decode b_Lw_law 283 = .ok (.aload_n 0, 1) := by decide +kernel
theorem d_Lw_law_284 : decode b_Lw_law 284 = .ok (.iload_n 3, 1) := by decide +kernel
theorem d_Lw_law_285 : decode b_Lw_law 285 = .ok (.iconst 1, 1) := by decide +kernel
theorem d_Lw_law_286 : decode b_Lw_law 286 = .ok (.iadd, 1) := by decide +kernel
theorem d_Lw_law_287 : decode b_Lw_law 287 = .ok (.iaload, 1) := by decide +kernel
theorem d_Lw_law_288 : decode b_Lw_law 288 = .ok (.invokevirtual 41, 3) := by decide +kernel
theorem d_Lw_law_291 : decode b_Lw_law 291 = .ok (.if_icmp .eq 227, 3) := by decide +kernel
theorem d_Lw_law_294 : decode b_Lw_law 294 = .ok (.iconst 0, 1) := by decide +kernel
theorem d_Lw_law_295 : decode b_Lw_law 295 = .ok (.ireturn, 1) := by decide +kernel
theorem d_Lw_law_296 : decode b_Lw_law 296 = .ok (.aload_n 1, 1) := by decide +kernel
theorem d_Lw_law_297 : decode b_Lw_law 297 = .ok (.aload_n 0, 1) := by decide +kernel
theorem d_Lw_law_298 : decode b_Lw_law 298 = .ok (.iload_n 3, 1) := by decide +kernel
theorem d_Lw_law_299 : decode b_Lw_law 299 = .ok (.iconst 1, 1) := by decide +kernel
theorem d_Lw_law_300 : decode b_Lw_law 300 = .ok (.iadd, 1) := by decide +kernel
theorem d_Lw_law_301 : decode b_Lw_law 301 = .ok (.iaload, 1) := by decide +kernel
theorem d_Lw_law_302 : decode b_Lw_law 302 = .ok (.aload_n 0, 1) := by decide +kernel
theorem d_Lw_law_303 : decode b_Lw_law 303 = .ok (.iload_n 3, 1) := by decide +kernel
theorem d_Lw_law_304 : decode b_Lw_law 304 = .ok (.iconst 2, 1) := by decide +kernel
theorem d_Lw_law_305 : decode b_Lw_law 305 = .ok (.iadd, 1) := by decide +kernel
theorem d_Lw_law_306 : decode b_Lw_law 306 = .ok (.iaload, 1) := by decide +kernel
theorem d_Lw_law_307 : decode b_Lw_law 307 = .ok (.invokevirtual 42, 3) := by decide +kernel
theorem d_Lw_law_310 : decode b_Lw_law 310 = .ok (.aload_n 2, 1) := by decide +kernel
theorem d_Lw_law_311 : decode b_Lw_law 311 = .ok (.aload_n 0, 1) := by decide +kernel
theorem d_Lw_law_312 : decode b_Lw_law 312 = .ok (.iload_n 3, 1) := by decide +kernel
theorem d_Lw_law_313 : decode b_Lw_law 313 = .ok (.iconst 1, 1) := by decide +kernel
theorem d_Lw_law_314 : decode b_Lw_law 314 = .ok (.iadd, 1) := by decide +kernel
theorem d_Lw_law_315 : decode b_Lw_law 315 = .ok (.iaload, 1) := by decide +kernel
theorem d_Lw_law_316 : decode b_Lw_law 316 = .ok (.aload_n 0, 1) := by decide +kernel
theorem d_Lw_law_317 : decode b_Lw_law 317 = .ok (.iload_n 3, 1) := by decide +kernel
theorem d_Lw_law_318 : decode b_Lw_law 318 = .ok (.iconst 2, 1) := by decide +kernel
theorem d_Lw_law_319 : decode b_Lw_law 319 = .ok (.iadd, 1) := by decide +kernel
theorem d_Lw_law_320 : decode b_Lw_law 320 = .ok (.iaload, 1) := by decide +kernel
theorem d_Lw_law_321 : decode b_Lw_law 321 = .ok (.invokevirtual 46, 3) := by decide +kernel
theorem d_Lw_law_324 : decode b_Lw_law 324 = .ok (.if_icmp .eq 194, 3) := by decide +kernel
theorem d_Lw_law_327 : decode b_Lw_law 327 = .ok (.iconst 0, 1) := by decide +kernel
theorem d_Lw_law_328 : decode b_Lw_law 328 = .ok (.ireturn, 1) := by decide +kernel
theorem d_Lw_law_329 : decode b_Lw_law 329 = .ok (.aload_n 1, 1) := by decide +kernel
theorem d_Lw_law_330 : decode b_Lw_law 330 = .ok (.aload_n 0, 1) := by decide +kernel
theorem d_Lw_law_331 : decode b_Lw_law 331 = .ok (.iload_n 3, 1) := by decide +kernel
theorem d_Lw_law_332 : decode b_Lw_law 332 = .ok (.iconst 1, 1) := by decide +kernel
theorem d_Lw_law_333 : decode b_Lw_law 333 = .ok (.iadd, 1) := by decide +kernel
theorem d_Lw_law_334 : decode b_Lw_law 334 = .ok (.iaload, 1) := by decide +kernel
theorem d_Lw_law_335 : decode b_Lw_law 335 = .ok (.aload_n 0, 1) := by decide +kernel
theorem d_Lw_law_336 : decode b_Lw_law 336 = .ok (.iload_n 3, 1) := by decide +kernel
theorem d_Lw_law_337 : decode b_Lw_law 337 = .ok (.iconst 2, 1) := by decide +kernel
theorem d_Lw_law_338 : decode b_Lw_law 338 = .ok (.iadd, 1) := by decide +kernel
theorem d_Lw_law_339 : decode b_Lw_law 339 = .ok (.iaload, 1) := by decide +kernel
theorem d_Lw_law_340 : decode b_Lw_law 340 = .ok (.invokevirtual 47, 3) := by decide +kernel
theorem d_Lw_law_343 : decode b_Lw_law 343 = .ok (.aload_n 2, 1) := by decide +kernel
theorem d_Lw_law_344 : decode b_Lw_law 344 = .ok (.aload_n 0, 1) := by decide +kernel
theorem d_Lw_law_345 : decode b_Lw_law 345 = .ok (.iload_n 3, 1) := by decide +kernel
theorem d_Lw_law_346 : decode b_Lw_law 346 = .ok (.iconst 1, 1) := by decide +kernel
theorem d_Lw_law_347 : decode b_Lw_law 347 = .ok (.iadd, 1) := by decide +kernel
theorem d_Lw_law_348 : decode b_Lw_law 348 = .ok (.iaload, 1) := by decide +kernel
theorem d_Lw_law_349 : decode b_Lw_law 349 = .ok (.aload_n 0, 1) := by decide +kernel
theorem d_Lw_law_350 : decode b_Lw_law 350 = .ok (.iload_n 3, 1) := by decide +kernel
theorem d_Lw_law_351 : decode b_Lw_law 351 = .ok (.iconst 2, 1) := by decide +kernel
theorem d_Lw_law_352 : decode b_Lw_law 352 = .ok (.iadd, 1) := by decide +kernel
theorem d_Lw_law_353 : decode b_Lw_law 353 = .ok (.iaload, 1) := by decide +kernel
theorem d_Lw_law_354 : decode b_Lw_law 354 = .ok (.invokevirtual 51, 3) := by decide +kernel
theorem d_Lw_law_357 : decode b_Lw_law 357 = .ok (.if_icmp .eq 161, 3) := by decide +kernel
theorem d_Lw_law_360 : decode b_Lw_law 360 = .ok (.iconst 0, 1) := by decide +kernel
theorem d_Lw_law_361 : decode b_Lw_law 361 = .ok (.ireturn, 1) := by decide +kernel
theorem d_Lw_law_362 : decode b_Lw_law 362 = .ok (.aload_n 1, 1) := by decide +kernel
theorem d_Lw_law_363 : decode b_Lw_law 363 = .ok (.aload_n 0, 1) := by decide +kernel
theorem d_Lw_law_364 : decode b_Lw_law 364 = .ok (.iload_n 3, 1) := by decide +kernel
theorem d_Lw_law_365 : decode b_Lw_law 365 = .ok (.iconst 1, 1) := by decide +kernel
theorem d_Lw_law_366 : decode b_Lw_law 366 = .ok (.iadd, 1) := by decide +kernel
theorem d_Lw_law_367 : decode b_Lw_law 367 = .ok (.iaload, 1) := by decide +kernel
theorem d_Lw_law_368 : decode b_Lw_law 368 = .ok (.invokevirtual 52, 3) := by decide +kernel
theorem d_Lw_law_371 : decode b_Lw_law 371 = .ok (.aload_n 2, 1) := by decide +kernel
theorem d_Lw_law_372 : decode b_Lw_law 372 = .ok (.aload_n 0, 1) := by decide +kernel
theorem d_Lw_law_373 : decode b_Lw_law 373 = .ok (.iload_n 3, 1) := by decide +kernel
theorem d_Lw_law_374 : decode b_Lw_law 374 = .ok (.iconst 1, 1) := by decide +kernel
theorem d_Lw_law_375 : decode b_Lw_law 375 = .ok (.iadd, 1) := by decide +kernel
theorem d_Lw_law_376 : decode b_Lw_law 376 = .ok (.iaload, 1) := by decide +kernel
theorem d_Lw_law_377 : decode b_Lw_law 377 = .ok (.invokevirtual 56, 3) := by decide +kernel
theorem d_Lw_law_380 : decode b_Lw_law 380 = .ok (.if_icmp .eq 138, 3) := by decide +kernel
theorem d_Lw_law_383 : decode b_Lw_law 383 = .ok (.iconst 0, 1) := by decide +kernel
theorem d_Lw_law_384 : decode b_Lw_law 384 = .ok (.ireturn, 1) := by decide +kernel
theorem d_Lw_law_385 : decode b_Lw_law 385 = .ok (.aload_n 1, 1) := by decide +kernel
theorem d_Lw_law_386 : decode b_Lw_law 386 = .ok (.aload_n 0, 1) := by decide +kernel
theorem d_Lw_law_387 : decode b_Lw_law 387 = .ok (.iload_n 3, 1) := by decide +kernel
theorem d_Lw_law_388 : decode b_Lw_law 388 = .ok (.iconst 1, 1) := by decide +kernel
theorem d_Lw_law_389 : decode b_Lw_law 389 = .ok (.iadd, 1) := by decide +kernel
theorem d_Lw_law_390 : decode b_Lw_law 390 = .ok (.iaload, 1) := by decide +kernel
theorem d_Lw_law_391 : decode b_Lw_law 391 = .ok (.aload_n 0, 1) := by decide +kernel
theorem d_Lw_law_392 : decode b_Lw_law 392 = .ok (.iload_n 3, 1) := by decide +kernel
theorem d_Lw_law_393 : decode b_Lw_law 393 = .ok (.iconst 2, 1) := by decide +kernel
theorem d_Lw_law_394 : decode b_Lw_law 394 = .ok (.iadd, 1) := by decide +kernel
theorem d_Lw_law_395 : decode b_Lw_law 395 = .ok (.iaload, 1) := by decide +kernel
theorem d_Lw_law_396 : decode b_Lw_law 396 = .ok (.aload_n 0, 1) := by decide +kernel
theorem d_Lw_law_397 : decode b_Lw_law 397 = .ok (.iload_n 3, 1) := by decide +kernel
end
section
theorem d_Lw_law_398 : decode b_Lw_law 398 = .ok (.iconst 3, 1) := by decide +kernel
theorem d_Lw_law_399 : decode b_Lw_law 399 = .ok (.iadd, 1) := by decide +kernel
theorem d_Lw_law_400 : decode b_Lw_law 400 = .ok (.iaload, 1) := by decide +kernel
theorem d_Lw_law_401 : decode b_Lw_law 401 = .ok (.aload_n 0, 1) := by decide +kernel
theorem d_Lw_law_402 : decode b_Lw_law 402 = .ok (.iload_n 3, 1) := by decide +kernel
theorem d_Lw_law_403 : decode b_Lw_law 403 = .ok (.iconst 4, 1) := by decide +kernel
theorem d_Lw_law_404 : decode b_Lw_law 404 = .ok (.iadd, 1) := by decide +kernel
theorem d_Lw_law_405 : decode b_Lw_law 405 = .ok (.iaload, 1) := by decide +kernel
theorem d_Lw_law_406 : decode b_Lw_law 406 = .ok (.aload_n 0, 1) := by decide +kernel
theorem d_Lw_law_407 : decode b_Lw_law 407 = .ok (.iload_n 3, 1) := by decide +kernel
theorem d_Lw_law_408 : decode b_Lw_law 408 = .ok (.iconst 5, 1) := by decide +kernel
theorem d_Lw_law_409 : decode b_Lw_law 409 = .ok (.iadd, 1) := by decide +kernel
theorem d_Lw_law_410 : decode b_Lw_law 410 = .ok (.iaload, 1) := by decide +kernel
theorem d_Lw_law_411 : decode b_Lw_law 411 = .ok (.invokevirtual 57, 3) := by decide +kernel
theorem d_Lw_law_414 : decode b_Lw_law 414 = .ok (.aload_n 2, 1) := by decide +kernel
theorem d_Lw_law_415 : decode b_Lw_law 415 = .ok (.aload_n 0, 1) := by decide +kernel
theorem d_Lw_law_416 : decode b_Lw_law 416 = .ok (.iload_n 3, 1) := by decide +kernel
theorem d_Lw_law_417 : decode b_Lw_law 417 = .ok (.iconst 1, 1) := by decide +kernel
theorem d_Lw_law_418 : decode b_Lw_law 418 = .ok (.iadd, 1) := by decide +kernel
theorem d_Lw_law_419 : decode b_Lw_law 419 = .ok (.iaload, 1) := by decide +kernel
theorem d_Lw_law_420 : decode b_Lw_law 420 = .ok (.aload_n 0, 1) := by decide +kernel
theorem d_Lw_law_421 : decode b_Lw_law 421 = .ok (.iload_n 3, 1) := by decide +kernel
theorem d_Lw_law_422 : decode b_Lw_law 422 = .ok (.iconst 2, 1) := by decide +kernel
theorem d_Lw_law_423 : decode b_Lw_law 423 = .ok (.iadd, 1) := by decide +kernel
theorem d_Lw_law_424 : decode b_Lw_law 424 = .ok (.iaload, 1) := by decide +kernel
theorem d_Lw_law_425 : decode b_Lw_law 425 = .ok (.aload_n 0, 1) := by decide +kernel
theorem d_Lw_law_426 : decode b_Lw_law 426 = .ok (.iload_n 3, 1) := by decide +kernel
theorem d_Lw_law_427 : decode b_Lw_law 427 = .ok (.iconst 3, 1) := by decide +kernel
theorem d_Lw_law_428 : decode b_Lw_law 428 = .ok (.iadd, 1) := by decide +kernel
theorem d_Lw_law_429 : decode b_Lw_law 429 = .ok (.iaload, 1) := by decide +kernel
theorem d_Lw_law_430 : decode b_Lw_law 430 = .ok (.aload_n 0, 1) := by decide +kernel
theorem d_Lw_law_431 : decode b_Lw_law 431 = .ok (.iload_n 3, 1) := by decide +kernel
theorem d_Lw_law_432 : decode b_Lw_law 432 = .ok (.iconst 4, 1) := by decide +kernel
theorem d_Lw_law_433 : decode b_Lw_law 433 = .ok (.iadd, 1) := by decide +kernel
theorem d_Lw_law_434 : decode b_Lw_law 434 = .ok (.iaload, 1) := by decide +kernel
theorem d_Lw_law_435 : decode b_Lw_law 435 = .ok (.aload_n 0, 1) := by decide +kernel
theorem d_Lw_law_436 : decode b_Lw_law 436 = .ok (.iload_n 3, 1) := by decide +kernel
theorem d_Lw_law_437 : decode b_Lw_law 437 = .ok (.iconst 5, 1) := by decide +kernel
theorem d_Lw_law_438 : decode b_Lw_law 438 = .ok (.iadd, 1) := by decide +kernel
theorem d_Lw_law_439 : decode b_Lw_law 439 = .ok (.iaload, 1) := by decide +kernel
theorem d_Lw_law_440 : decode b_Lw_law 440 = .ok (.invokevirtual 61, 3) := by decide +kernel
theorem d_Lw_law_443 : decode b_Lw_law 443 = .ok (.if_icmp .eq 75, 3) := by decide +kernel
theorem d_Lw_law_446 : decode b_Lw_law 446 = .ok (.iconst 0, 1) := by decide +kernel
theorem d_Lw_law_447 : decode b_Lw_law 447 = .ok (.ireturn, 1) := by decide +kernel
theorem d_Lw_law_448 : decode b_Lw_law 448 = .ok (.aload_n 1, 1) := by decide +kernel
theorem d_Lw_law_449 : decode b_Lw_law 449 = .ok (.invokevirtual 62, 3) := by decide +kernel
theorem d_Lw_law_452 : decode b_Lw_law 452 = .ok (.aload_n 2, 1) := by decide +kernel
theorem d_Lw_law_453 : decode b_Lw_law 453 = .ok (.invokevirtual 65, 3) := by decide +kernel
theorem d_Lw_law_456 : decode b_Lw_law 456 = .ok (.goto 62, 3) := by decide +kernel
theorem d_Lw_law_459 : decode b_Lw_law 459 = .ok (.aload_n 1, 1) := by decide +kernel
theorem d_Lw_law_460 : decode b_Lw_law 460 = .ok (.invokevirtual 66, 3) := by decide +kernel
theorem d_Lw_law_463 : decode b_Lw_law 463 = .ok (.aload_n 2, 1) := by decide +kernel
theorem d_Lw_law_464 : decode b_Lw_law 464 = .ok (.invokevirtual 70, 3) := by decide +kernel
theorem d_Lw_law_467 : decode b_Lw_law 467 = .ok (.if_icmp .eq 51, 3) := by decide +kernel
theorem d_Lw_law_470 : decode b_Lw_law 470 = .ok (.iconst 0, 1) := by decide +kernel
theorem d_Lw_law_471 : decode b_Lw_law 471 = .ok (.ireturn, 1) := by decide +kernel
theorem d_Lw_law_472 : decode b_Lw_law 472 = .ok (.aload_n 1, 1) := by decide +kernel
theorem d_Lw_law_473 : decode b_Lw_law 473 = .ok (.aload_n 0, 1) := by decide +kernel
theorem d_Lw_law_474 : decode b_Lw_law 474 = .ok (.iload_n 3, 1) := by decide +kernel
theorem d_Lw_law_475 : decode b_Lw_law 475 = .ok (.iconst 1, 1) := by decide +kernel
theorem d_Lw_law_476 : decode b_Lw_law 476 = .ok (.iadd, 1) := by decide +kernel
theorem d_Lw_law_477 : decode b_Lw_law 477 = .ok (.iaload, 1) := by decide +kernel
theorem d_Lw_law_478 : decode b_Lw_law 478 = .ok (.invokevirtual 71, 3) := by decide +kernel
theorem d_Lw_law_481 : decode b_Lw_law 481 = .ok (.aload_n 2, 1) := by decide +kernel
theorem d_Lw_law_482 : decode b_Lw_law 482 = .ok (.aload_n 0, 1) := by decide +kernel
theorem d_Lw_law_483 : decode b_Lw_law 483 = .ok (.iload_n 3, 1) := by decide +kernel
theorem d_Lw_law_484 : decode b_Lw_law 484 = .ok (.iconst 1, 1) := by decide +kernel
theorem d_Lw_law_485 : decode b_Lw_law 485 = .ok (.iadd, 1) := by decide +kernel
theorem d_Lw_law_486 : decode b_Lw_law 486 = .ok (.iaload, 1) := by decide +kernel
theorem d_Lw_law_487 : decode b_Lw_law 487 = .ok (.invokevirtual 74, 3) := by decide +kernel
theorem d_Lw_law_490 : decode b_Lw_law 490 = .ok (.if_icmp .eq 28, 3) := by decide +kernel
theorem d_Lw_law_493 : decode b_Lw_law 493 = .ok (.iconst 0, 1) := by decide +kernel
theorem d_Lw_law_494 : decode b_Lw_law 494 = .ok (.ireturn, 1) := by decide +kernel
theorem d_Lw_law_495 : decode b_Lw_law 495 = .ok (.aload_n 1, 1) := by decide +kernel
theorem d_Lw_law_496 : decode b_Lw_law 496 = .ok (.aload_n 0, 1) := by decide +kernel
theorem d_Lw_law_497 : decode b_Lw_law 497 = .ok (.iload_n 3, 1) := by decide +kernel
theorem d_Lw_law_498 : decode b_Lw_law 498 = .ok (.iconst 1, 1) := by decide +kernel
theorem d_Lw_law_499 : decode b_Lw_law 499 = .ok (.iadd, 1) := by decide +kernel
theorem d_Lw_law_500 : decode b_Lw_law 500 = .ok (.iaload, 1) := by decide +kernel
theorem d_Lw_law_501 : decode b_Lw_law 501 = .ok (.invokevirtual 75, 3) := by decide +kernel
theorem d_Lw_law_504 : decode b_Lw_law 504 = .ok (.aload_n 2, 1) := by decide +kernel
theorem d_Lw_law_505 : decode b_Lw_law 505 = .ok (.aload_n 0, 1) := by decide +kernel
theorem d_Lw_law_506 : decode b_Lw_law 506 = .ok (.iload_n 3, 1) := by decide +kernel
theorem d_Lw_law_507 : decode b_Lw_law 507 = .ok (.iconst 1, 1) := by decide +kernel
theorem d_Lw_law_508 : decode b_Lw_law 508 = .ok (.iadd, 1) := by decide +kernel
theorem d_Lw_law_509 : decode b_Lw_law 509 = .ok (.iaload, 1) := by decide +kernel
theorem d_Lw_law_510 : decode b_Lw_law 510 = .ok (.invokevirtual 78, 3) := by decide +kernel
theorem d_Lw_law_513 : decode b_Lw_law 513 = .ok (.if_icmp .eq 5, 3) := by decide +kernel
theorem d_Lw_law_516 : decode b_Lw_law 516 = .ok (.iconst 0, 1) := by decide +kernel
theorem d_Lw_law_517 : decode b_Lw_law 517 = .ok (.ireturn, 1) := by decide +kernel
theorem d_Lw_law_518 : decode b_Lw_law 518 = .ok (.iinc 3 6, 3) := by decide +kernel
theorem d_Lw_law_521 : decode b_Lw_law 521 = .ok (.goto (-503), 3) := by decide +kernel
theorem d_Lw_law_524 : decode b_Lw_law 524 = .ok (.iconst 1, 1) := by decide +kernel
theorem d_Lw_law_525 : decode b_Lw_law 525 = .ok (.ireturn, 1) := by decide +kernel
end
section
def kW_St (cI cS cZ : ClassId) (h0 : Nat) (u : Nat → Nat) : va_W := [(h0, .inr (1, [.ref (u 1), .ref (u 2)])), (u 1, .inl (cI, 64, .inl (fun _ => 0))), (u 2, .inl (cS, 132, .inl (fun _ => 0)))]
abbrev rm_St_init : Room := { frames := 1, cells := 2, slots := 196, locals := 12 }
set_option maxHeartbeats 4000000 in
set_option maxRecDepth 100000 in
theorem k_St (l : Launch) (D : va_G) (cI cS cZ : ClassId) (h0 : Nat) : gK l y_St_init b_St_init 1 rm_St_init D (gT cI cS cZ) [.ref (h0)] [(h0, .inr (1, [.null, .null]))] (fun u : Nat → Nat => kW_St cI cS cZ h0 u) (fun u => u 0 = h0) 2 196 := by
  refine gK.of (by decide) (Nat.le_of_ble_eq_true rfl) ?_
  intro p e s m below meth c Q A hx hb hml hown hts hK hN hA hS hP hD hin hret ls hl
  have hl : lv_has ls 1 [(0, .ref (h0))] := hl
  obtain ⟨H, hH⟩ : ∃ H, H = s.heap := ⟨_, rfl⟩
  obtain ⟨locs, hlocs⟩ : ∃ locs : List Loc, locs = [] := ⟨_, rfl⟩
  have hP : va_P D gCl [(h0, .inr (1, [.null, .null]))] H := by rw [hH]; exact hP
  have hS : va_S A s.heap H locs := by rw [hH, hlocs]; exact hS
  suffices K : W p l e rm_St_init s m ([.ref (h0)] : List Value).toArray below meth c H locs 0 0 Q (F0 m 0 ls []) by rw [hH, hlocs] at K; exact K
  clear hH hlocs
  refine lv_aload_n hx hb d_St_init_0 rfl (lv_at hl 0 rfl) ?_
  refine W.objInit hx hb hown (hts _ tw_26) (hts _ tw_19) (hts _ tw_20) rfl (by rw [hml]; exact hl.1) rfl d_St_init_1 (Nat.le_of_ble_eq_true rfl) (Nat.le_of_ble_eq_true rfl) ?_
  refine W.eq (g2 := F0 m 4 ls []) rfl ?_
  refine lv_aload_n hx hb d_St_init_4 rfl (lv_at hl 0 rfl) ?_
  refine lv_bipush (v := 64) hx hb d_St_init_5 (by decide) ?_
  refine va_newa (ty := .int) (n := 64) (N' := 64) (a0 := (64, .inl (fun _ => 0))) hx hb (hts _ tw_39) rfl hK hP hD hS hA (fun _ => rfl) (by decide) (by decide) (by decide) (Nat.le_of_ble_eq_true rfl) (Nat.le_of_ble_eq_true rfl) d_St_init_7 (fun q7 cA H hK1 hP hD hS => ?_)
  have hc : cI = cA := Option.some.inj ((hK1.2 0 (cI, .int) rfl).2.symm.trans (hK1.2 3 (cA, .int) rfl).2)
  subst hc
  have hP : va_P D gCl [(h0, .inr (1, [.null, .null])), (q7, .inl (cI, 64, .inl (fun _ => 0)))] H := hP
  have hD : va_D A [(h0, .inr (1, [.null, .null])), (q7, .inl (cI, 64, .inl (fun _ => 0)))] := hD
  refine va_putF (D := D) (ci := 1) (v := .ref (q7)) (ty := .array .int) (C := R_St) (T := T_St) (N := 2) hx hb hts i_St t_St o_St n_St hown hK hP hD hS 0 rfl rfl 0 (by decide) (hts _ tw_27) (fun _ h9 => h9) rfl hin rfl (by decide +kernel) rfl rfl (Nat.le_of_ble_eq_true rfl) d_St_init_9 (fun H locs hP hD hS => ?_)
  have hP : va_P D gCl [(h0, .inr (1, [.ref (q7), .null])), (q7, .inl (cI, 64, .inl (fun _ => 0)))] H := hP
  have hD : va_D A [(h0, .inr (1, [.ref (q7), .null])), (q7, .inl (cI, 64, .inl (fun _ => 0)))] := hD
  refine lv_aload_n hx hb d_St_init_12 rfl (lv_at hl 0 rfl) ?_
  refine lv_sipush (v := 132) hx hb d_St_init_13 (by decide) ?_
  refine va_newa (ty := .short) (n := 132) (N' := 132) (a0 := (132, .inl (fun _ => 0))) hx hb (hts _ tw_40) rfl hK hP hD hS hA (fun _ => rfl) (by decide) (by decide) (by decide) (Nat.le_of_ble_eq_true rfl) (Nat.le_of_ble_eq_true rfl) d_St_init_16 (fun q16 cA H hK1 hP hD hS => ?_)
  have hc : cS = cA := Option.some.inj ((hK1.2 1 (cS, .short) rfl).2.symm.trans (hK1.2 3 (cA, .short) rfl).2)
  subst hc
  have hP : va_P D gCl [(h0, .inr (1, [.ref (q7), .null])), (q7, .inl (cI, 64, .inl (fun _ => 0))), (q16, .inl (cS, 132, .inl (fun _ => 0)))] H := hP
  have hD : va_D A [(h0, .inr (1, [.ref (q7), .null])), (q7, .inl (cI, 64, .inl (fun _ => 0))), (q16, .inl (cS, 132, .inl (fun _ => 0)))] := hD
  refine va_putF (D := D) (ci := 1) (v := .ref (q16)) (ty := .array .short) (C := R_St) (T := T_St) (N := 2) hx hb hts i_St t_St o_St n_St hown hK hP hD hS 0 rfl rfl 1 (by decide) (hts _ tw_30) (fun _ h9 => h9) rfl hin rfl (by decide +kernel) rfl rfl (Nat.le_of_ble_eq_true rfl) d_St_init_18 (fun H locs hP hD hS => ?_)
  have hP : va_P D gCl [(h0, .inr (1, [.ref (q7), .ref (q16)])), (q7, .inl (cI, 64, .inl (fun _ => 0))), (q16, .inl (cS, 132, .inl (fun _ => 0)))] H := hP
  have hD : va_D A [(h0, .inr (1, [.ref (q7), .ref (q16)])), (q7, .inl (cI, 64, .inl (fun _ => 0))), (q16, .inl (cS, 132, .inl (fun _ => 0)))] := hD
  have hP : va_P D gCl (kW_St cI cS cZ h0 (fun k => ([h0, q7, q16] : List Nat).getD k 0)) H := hP
  have hD : va_D A (kW_St cI cS cZ h0 (fun k => ([h0, q7, q16] : List Nat).getD k 0)) := hD
  exact hret H locs 21 ls (fun k => ([h0, q7, q16] : List Nat).getD k 0) d_St_init_21 hP hD hS rfl

def kW_Rd (cI cS cZ : ClassId) (h0 : Nat) (u : Nat → Nat) : va_W := [(h0, .inr (2, [.ref (u 1), .int 0, .int 0, .int 0, .int 0, .int 0])), (u 1, .inl (cS, 48, .inl (fun _ => 0)))]
abbrev rm_Rd_init : Room := { frames := 1, cells := 1, slots := 48, locals := 12 }
set_option maxHeartbeats 4000000 in
set_option maxRecDepth 100000 in
theorem k_Rd (l : Launch) (D : va_G) (cI cS cZ : ClassId) (h0 : Nat) : gK l y_Rd_init b_Rd_init 1 rm_Rd_init D (gT cI cS cZ) [.ref (h0)] [(h0, .inr (2, [.null, .int 0, .int 0, .int 0, .int 0, .int 0]))] (fun u : Nat → Nat => kW_Rd cI cS cZ h0 u) (fun u => u 0 = h0) 1 48 := by
  refine gK.of (by decide) (Nat.le_of_ble_eq_true rfl) ?_
  intro p e s m below meth c Q A hx hb hml hown hts hK hN hA hS hP hD hin hret ls hl
  have hl : lv_has ls 1 [(0, .ref (h0))] := hl
  obtain ⟨H, hH⟩ : ∃ H, H = s.heap := ⟨_, rfl⟩
  obtain ⟨locs, hlocs⟩ : ∃ locs : List Loc, locs = [] := ⟨_, rfl⟩
  have hP : va_P D gCl [(h0, .inr (2, [.null, .int 0, .int 0, .int 0, .int 0, .int 0]))] H := by rw [hH]; exact hP
  have hS : va_S A s.heap H locs := by rw [hH, hlocs]; exact hS
  suffices K : W p l e rm_Rd_init s m ([.ref (h0)] : List Value).toArray below meth c H locs 0 0 Q (F0 m 0 ls []) by rw [hH, hlocs] at K; exact K
  clear hH hlocs
  refine lv_aload_n hx hb d_Rd_init_0 rfl (lv_at hl 0 rfl) ?_
  refine W.objInit hx hb hown (hts _ tw_46) (hts _ tw_19) (hts _ tw_20) rfl (by rw [hml]; exact hl.1) rfl d_Rd_init_1 (Nat.le_of_ble_eq_true rfl) (Nat.le_of_ble_eq_true rfl) ?_
  refine W.eq (g2 := F0 m 4 ls []) rfl ?_
  refine lv_aload_n hx hb d_Rd_init_4 rfl (lv_at hl 0 rfl) ?_
  refine lv_bipush (v := 48) hx hb d_Rd_init_5 (by decide) ?_
  refine va_newa (ty := .short) (n := 48) (N' := 48) (a0 := (48, .inl (fun _ => 0))) hx hb (hts _ tw_40) rfl hK hP hD hS hA (fun _ => rfl) (by decide) (by decide) (by decide) (Nat.le_of_ble_eq_true rfl) (Nat.le_of_ble_eq_true rfl) d_Rd_init_7 (fun q7 cA H hK1 hP hD hS => ?_)
  have hc : cS = cA := Option.some.inj ((hK1.2 1 (cS, .short) rfl).2.symm.trans (hK1.2 3 (cA, .short) rfl).2)
  subst hc
  have hP : va_P D gCl [(h0, .inr (2, [.null, .int 0, .int 0, .int 0, .int 0, .int 0])), (q7, .inl (cS, 48, .inl (fun _ => 0)))] H := hP
  have hD : va_D A [(h0, .inr (2, [.null, .int 0, .int 0, .int 0, .int 0, .int 0])), (q7, .inl (cS, 48, .inl (fun _ => 0)))] := hD
  refine va_putF (D := D) (ci := 2) (v := .ref (q7)) (ty := .array .short) (C := R_Rd) (T := T_Rd) (N := 6) hx hb hts i_Rd t_Rd o_Rd n_Rd hown hK hP hD hS 0 rfl rfl 0 (by decide) (hts _ tw_47) (fun _ h9 => h9) rfl hin rfl (by decide +kernel) rfl rfl (Nat.le_of_ble_eq_true rfl) d_Rd_init_9 (fun H locs hP hD hS => ?_)
  have hP : va_P D gCl [(h0, .inr (2, [.ref (q7), .int 0, .int 0, .int 0, .int 0, .int 0])), (q7, .inl (cS, 48, .inl (fun _ => 0)))] H := hP
  have hD : va_D A [(h0, .inr (2, [.ref (q7), .int 0, .int 0, .int 0, .int 0, .int 0])), (q7, .inl (cS, 48, .inl (fun _ => 0)))] := hD
  have hP : va_P D gCl (kW_Rd cI cS cZ h0 (fun k => ([h0, q7] : List Nat).getD k 0)) H := hP
  have hD : va_D A (kW_Rd cI cS cZ h0 (fun k => ([h0, q7] : List Nat).getD k 0)) := hD
  exact hret H locs 12 ls (fun k => ([h0, q7] : List Nat).getD k 0) d_Rd_init_12 hP hD hS rfl

def kW_Pu (cI cS cZ : ClassId) (h0 : Nat) (u : Nat → Nat) : va_W := [(h0, .inr (3, [.ref (u 1), .int 0, .int 0])), (u 1, .inl (cS, 60, .inl (fun _ => 0)))]
abbrev rm_Pu_init : Room := { frames := 1, cells := 1, slots := 60, locals := 12 }
set_option maxHeartbeats 4000000 in
set_option maxRecDepth 100000 in
theorem k_Pu (l : Launch) (D : va_G) (cI cS cZ : ClassId) (h0 : Nat) : gK l y_Pu_init b_Pu_init 1 rm_Pu_init D (gT cI cS cZ) [.ref (h0)] [(h0, .inr (3, [.null, .int 0, .int 0]))] (fun u : Nat → Nat => kW_Pu cI cS cZ h0 u) (fun u => u 0 = h0) 1 60 := by
  refine gK.of (by decide) (Nat.le_of_ble_eq_true rfl) ?_
  intro p e s m below meth c Q A hx hb hml hown hts hK hN hA hS hP hD hin hret ls hl
  have hl : lv_has ls 1 [(0, .ref (h0))] := hl
  obtain ⟨H, hH⟩ : ∃ H, H = s.heap := ⟨_, rfl⟩
  obtain ⟨locs, hlocs⟩ : ∃ locs : List Loc, locs = [] := ⟨_, rfl⟩
  have hP : va_P D gCl [(h0, .inr (3, [.null, .int 0, .int 0]))] H := by rw [hH]; exact hP
  have hS : va_S A s.heap H locs := by rw [hH, hlocs]; exact hS
  suffices K : W p l e rm_Pu_init s m ([.ref (h0)] : List Value).toArray below meth c H locs 0 0 Q (F0 m 0 ls []) by rw [hH, hlocs] at K; exact K
  clear hH hlocs
  refine lv_aload_n hx hb d_Pu_init_0 rfl (lv_at hl 0 rfl) ?_
  refine W.objInit hx hb hown (hts _ tw_71) (hts _ tw_19) (hts _ tw_20) rfl (by rw [hml]; exact hl.1) rfl d_Pu_init_1 (Nat.le_of_ble_eq_true rfl) (Nat.le_of_ble_eq_true rfl) ?_
  refine W.eq (g2 := F0 m 4 ls []) rfl ?_
  refine lv_aload_n hx hb d_Pu_init_4 rfl (lv_at hl 0 rfl) ?_
  refine lv_bipush (v := 60) hx hb d_Pu_init_5 (by decide) ?_
  refine va_newa (ty := .short) (n := 60) (N' := 60) (a0 := (60, .inl (fun _ => 0))) hx hb (hts _ tw_40) rfl hK hP hD hS hA (fun _ => rfl) (by decide) (by decide) (by decide) (Nat.le_of_ble_eq_true rfl) (Nat.le_of_ble_eq_true rfl) d_Pu_init_7 (fun q7 cA H hK1 hP hD hS => ?_)
  have hc : cS = cA := Option.some.inj ((hK1.2 1 (cS, .short) rfl).2.symm.trans (hK1.2 3 (cA, .short) rfl).2)
  subst hc
  have hP : va_P D gCl [(h0, .inr (3, [.null, .int 0, .int 0])), (q7, .inl (cS, 60, .inl (fun _ => 0)))] H := hP
  have hD : va_D A [(h0, .inr (3, [.null, .int 0, .int 0])), (q7, .inl (cS, 60, .inl (fun _ => 0)))] := hD
  refine va_putF (D := D) (ci := 3) (v := .ref (q7)) (ty := .array .short) (C := R_Pu) (T := T_Pu) (N := 3) hx hb hts i_Pu t_Pu o_Pu n_Pu hown hK hP hD hS 0 rfl rfl 0 (by decide) (hts _ tw_72) (fun _ h9 => h9) rfl hin rfl (by decide +kernel) rfl rfl (Nat.le_of_ble_eq_true rfl) d_Pu_init_9 (fun H locs hP hD hS => ?_)
  have hP : va_P D gCl [(h0, .inr (3, [.ref (q7), .int 0, .int 0])), (q7, .inl (cS, 60, .inl (fun _ => 0)))] H := hP
  have hD : va_D A [(h0, .inr (3, [.ref (q7), .int 0, .int 0])), (q7, .inl (cS, 60, .inl (fun _ => 0)))] := hD
  have hP : va_P D gCl (kW_Pu cI cS cZ h0 (fun k => ([h0, q7] : List Nat).getD k 0)) H := hP
  have hD : va_D A (kW_Pu cI cS cZ h0 (fun k => ([h0, q7] : List Nat).getD k 0)) := hD
  exact hret H locs 12 ls (fun k => ([h0, q7] : List Nat).getD k 0) d_Pu_init_12 hP hD hS rfl

def kW_Mu (cI cS cZ : ClassId) (h0 : Nat) (u : Nat → Nat) : va_W := [(h0, .inr (5, [.int 0, .int 0, .int 0]))]
abbrev rm_Mu_init : Room := { frames := 1, cells := 0, slots := 0, locals := 12 }
set_option maxHeartbeats 4000000 in
set_option maxRecDepth 100000 in
theorem k_Mu (l : Launch) (D : va_G) (cI cS cZ : ClassId) (h0 : Nat) : gK l y_Mu_init b_Mu_init 1 rm_Mu_init D (gT cI cS cZ) [.ref (h0)] [(h0, .inr (5, [.int 0, .int 0, .int 0]))] (fun u : Nat → Nat => kW_Mu cI cS cZ h0 u) (fun u => u 0 = h0) 0 0 := by
  refine gK.of (by decide) (Nat.le_of_ble_eq_true rfl) ?_
  intro p e s m below meth c Q A hx hb hml hown hts hK hN hA hS hP hD hin hret ls hl
  have hl : lv_has ls 1 [(0, .ref (h0))] := hl
  obtain ⟨H, hH⟩ : ∃ H, H = s.heap := ⟨_, rfl⟩
  obtain ⟨locs, hlocs⟩ : ∃ locs : List Loc, locs = [] := ⟨_, rfl⟩
  have hP : va_P D gCl [(h0, .inr (5, [.int 0, .int 0, .int 0]))] H := by rw [hH]; exact hP
  have hS : va_S A s.heap H locs := by rw [hH, hlocs]; exact hS
  suffices K : W p l e rm_Mu_init s m ([.ref (h0)] : List Value).toArray below meth c H locs 0 0 Q (F0 m 0 ls []) by rw [hH, hlocs] at K; exact K
  clear hH hlocs
  refine lv_aload_n hx hb d_Mu_init_0 rfl (lv_at hl 0 rfl) ?_
  refine W.objInit hx hb hown (hts _ tw_95) (hts _ tw_19) (hts _ tw_20) rfl (by rw [hml]; exact hl.1) rfl d_Mu_init_1 (Nat.le_of_ble_eq_true rfl) (Nat.le_of_ble_eq_true rfl) ?_
  refine W.eq (g2 := F0 m 4 ls []) rfl ?_
  have hP : va_P D gCl (kW_Mu cI cS cZ h0 (fun k => ([h0] : List Nat).getD k 0)) H := hP
  have hD : va_D A (kW_Mu cI cS cZ h0 (fun k => ([h0] : List Nat).getD k 0)) := hD
  exact hret H locs 4 ls (fun k => ([h0] : List Nat).getD k 0) d_Mu_init_4 hP hD hS rfl

def kW_Wi (cI cS cZ : ClassId) (h0 : Nat) (u : Nat → Nat) : va_W := [(h0, .inr (6, [.int 0, .int 0, .int 0, .int 0, .int 0]))]
abbrev rm_Wi_init : Room := { frames := 1, cells := 0, slots := 0, locals := 12 }
set_option maxHeartbeats 4000000 in
set_option maxRecDepth 100000 in
theorem k_Wi (l : Launch) (D : va_G) (cI cS cZ : ClassId) (h0 : Nat) : gK l y_Wi_init b_Wi_init 1 rm_Wi_init D (gT cI cS cZ) [.ref (h0)] [(h0, .inr (6, [.int 0, .int 0, .int 0, .int 0, .int 0]))] (fun u : Nat → Nat => kW_Wi cI cS cZ h0 u) (fun u => u 0 = h0) 0 0 := by
  refine gK.of (by decide) (Nat.le_of_ble_eq_true rfl) ?_
  intro p e s m below meth c Q A hx hb hml hown hts hK hN hA hS hP hD hin hret ls hl
  have hl : lv_has ls 1 [(0, .ref (h0))] := hl
  obtain ⟨H, hH⟩ : ∃ H, H = s.heap := ⟨_, rfl⟩
  obtain ⟨locs, hlocs⟩ : ∃ locs : List Loc, locs = [] := ⟨_, rfl⟩
  have hP : va_P D gCl [(h0, .inr (6, [.int 0, .int 0, .int 0, .int 0, .int 0]))] H := by rw [hH]; exact hP
  have hS : va_S A s.heap H locs := by rw [hH, hlocs]; exact hS
  suffices K : W p l e rm_Wi_init s m ([.ref (h0)] : List Value).toArray below meth c H locs 0 0 Q (F0 m 0 ls []) by rw [hH, hlocs] at K; exact K
  clear hH hlocs
  refine lv_aload_n hx hb d_Wi_init_0 rfl (lv_at hl 0 rfl) ?_
  refine W.objInit hx hb hown (hts _ tw_112) (hts _ tw_19) (hts _ tw_20) rfl (by rw [hml]; exact hl.1) rfl d_Wi_init_1 (Nat.le_of_ble_eq_true rfl) (Nat.le_of_ble_eq_true rfl) ?_
  refine W.eq (g2 := F0 m 4 ls []) rfl ?_
  have hP : va_P D gCl (kW_Wi cI cS cZ h0 (fun k => ([h0] : List Nat).getD k 0)) H := hP
  have hD : va_D A (kW_Wi cI cS cZ h0 (fun k => ([h0] : List Nat).getD k 0)) := hD
  exact hret H locs 4 ls (fun k => ([h0] : List Nat).getD k 0) d_Wi_init_4 hP hD hS rfl

def kW_Pr (cI cS cZ : ClassId) (h0 : Nat) (u : Nat → Nat) : va_W := [(h0, .inr (7, [.ref (u 1), .ref (u 2), .ref (u 3), .ref (u 4), .ref (u 5), .int 0])), (u 1, .inl (cI, 12, .inl (fun _ => 0))), (u 2, .inl (cI, 12, .inl (fun _ => 0))), (u 3, .inl (cI, 12, .inl (fun _ => 0))), (u 4, .inl (cI, 12, .inl (fun _ => 0))), (u 5, .inl (cI, 12, .inl (fun _ => 0)))]
abbrev rm_Pr_init : Room := { frames := 1, cells := 5, slots := 60, locals := 12 }
set_option maxHeartbeats 4000000 in
set_option maxRecDepth 100000 in
theorem k_Pr (l : Launch) (D : va_G) (cI cS cZ : ClassId) (h0 : Nat) : gK l y_Pr_init b_Pr_init 1 rm_Pr_init D (gT cI cS cZ) [.ref (h0)] [(h0, .inr (7, [.null, .null, .null, .null, .null, .int 0]))] (fun u : Nat → Nat => kW_Pr cI cS cZ h0 u) (fun u => u 0 = h0) 5 60 := by
  refine gK.of (by decide) (Nat.le_of_ble_eq_true rfl) ?_
  intro p e s m below meth c Q A hx hb hml hown hts hK hN hA hS hP hD hin hret ls hl
  have hl : lv_has ls 1 [(0, .ref (h0))] := hl
  obtain ⟨H, hH⟩ : ∃ H, H = s.heap := ⟨_, rfl⟩
  obtain ⟨locs, hlocs⟩ : ∃ locs : List Loc, locs = [] := ⟨_, rfl⟩
  have hP : va_P D gCl [(h0, .inr (7, [.null, .null, .null, .null, .null, .int 0]))] H := by rw [hH]; exact hP
  have hS : va_S A s.heap H locs := by rw [hH, hlocs]; exact hS
  suffices K : W p l e rm_Pr_init s m ([.ref (h0)] : List Value).toArray below meth c H locs 0 0 Q (F0 m 0 ls []) by rw [hH, hlocs] at K; exact K
  clear hH hlocs
  refine lv_aload_n hx hb d_Pr_init_0 rfl (lv_at hl 0 rfl) ?_
  refine W.objInit hx hb hown (hts _ tw_187) (hts _ tw_19) (hts _ tw_20) rfl (by rw [hml]; exact hl.1) rfl d_Pr_init_1 (Nat.le_of_ble_eq_true rfl) (Nat.le_of_ble_eq_true rfl) ?_
  refine W.eq (g2 := F0 m 4 ls []) rfl ?_
  refine lv_aload_n hx hb d_Pr_init_4 rfl (lv_at hl 0 rfl) ?_
  refine lv_bipush (v := 12) hx hb d_Pr_init_5 (by decide) ?_
  refine va_newa (ty := .int) (n := 12) (N' := 12) (a0 := (12, .inl (fun _ => 0))) hx hb (hts _ tw_39) rfl hK hP hD hS hA (fun _ => rfl) (by decide) (by decide) (by decide) (Nat.le_of_ble_eq_true rfl) (Nat.le_of_ble_eq_true rfl) d_Pr_init_7 (fun q7 cA H hK1 hP hD hS => ?_)
  have hc : cI = cA := Option.some.inj ((hK1.2 0 (cI, .int) rfl).2.symm.trans (hK1.2 3 (cA, .int) rfl).2)
  subst hc
  have hP : va_P D gCl [(h0, .inr (7, [.null, .null, .null, .null, .null, .int 0])), (q7, .inl (cI, 12, .inl (fun _ => 0)))] H := hP
  have hD : va_D A [(h0, .inr (7, [.null, .null, .null, .null, .null, .int 0])), (q7, .inl (cI, 12, .inl (fun _ => 0)))] := hD
  refine va_putF (D := D) (ci := 7) (v := .ref (q7)) (ty := .array .int) (C := R_Pr) (T := T_Pr) (N := 6) hx hb hts i_Pr t_Pr o_Pr n_Pr hown hK hP hD hS 0 rfl rfl 0 (by decide) (hts _ tw_188) (fun _ h9 => h9) rfl hin rfl (by decide +kernel) rfl rfl (Nat.le_of_ble_eq_true rfl) d_Pr_init_9 (fun H locs hP hD hS => ?_)
  have hP : va_P D gCl [(h0, .inr (7, [.ref (q7), .null, .null, .null, .null, .int 0])), (q7, .inl (cI, 12, .inl (fun _ => 0)))] H := hP
  have hD : va_D A [(h0, .inr (7, [.ref (q7), .null, .null, .null, .null, .int 0])), (q7, .inl (cI, 12, .inl (fun _ => 0)))] := hD
  refine lv_aload_n hx hb d_Pr_init_12 rfl (lv_at hl 0 rfl) ?_
  refine lv_bipush (v := 12) hx hb d_Pr_init_13 (by decide) ?_
  refine va_newa (ty := .int) (n := 12) (N' := 12) (a0 := (12, .inl (fun _ => 0))) hx hb (hts _ tw_39) rfl hK hP hD hS hA (fun _ => rfl) (by decide) (by decide) (by decide) (Nat.le_of_ble_eq_true rfl) (Nat.le_of_ble_eq_true rfl) d_Pr_init_15 (fun q15 cA H hK1 hP hD hS => ?_)
  have hc : cI = cA := Option.some.inj ((hK1.2 0 (cI, .int) rfl).2.symm.trans (hK1.2 3 (cA, .int) rfl).2)
  subst hc
  have hP : va_P D gCl [(h0, .inr (7, [.ref (q7), .null, .null, .null, .null, .int 0])), (q7, .inl (cI, 12, .inl (fun _ => 0))), (q15, .inl (cI, 12, .inl (fun _ => 0)))] H := hP
  have hD : va_D A [(h0, .inr (7, [.ref (q7), .null, .null, .null, .null, .int 0])), (q7, .inl (cI, 12, .inl (fun _ => 0))), (q15, .inl (cI, 12, .inl (fun _ => 0)))] := hD
  refine va_putF (D := D) (ci := 7) (v := .ref (q15)) (ty := .array .int) (C := R_Pr) (T := T_Pr) (N := 6) hx hb hts i_Pr t_Pr o_Pr n_Pr hown hK hP hD hS 0 rfl rfl 1 (by decide) (hts _ tw_190) (fun _ h9 => h9) rfl hin rfl (by decide +kernel) rfl rfl (Nat.le_of_ble_eq_true rfl) d_Pr_init_17 (fun H locs hP hD hS => ?_)
  have hP : va_P D gCl [(h0, .inr (7, [.ref (q7), .ref (q15), .null, .null, .null, .int 0])), (q7, .inl (cI, 12, .inl (fun _ => 0))), (q15, .inl (cI, 12, .inl (fun _ => 0)))] H := hP
  have hD : va_D A [(h0, .inr (7, [.ref (q7), .ref (q15), .null, .null, .null, .int 0])), (q7, .inl (cI, 12, .inl (fun _ => 0))), (q15, .inl (cI, 12, .inl (fun _ => 0)))] := hD
  refine lv_aload_n hx hb d_Pr_init_20 rfl (lv_at hl 0 rfl) ?_
  refine lv_bipush (v := 12) hx hb d_Pr_init_21 (by decide) ?_
  refine va_newa (ty := .int) (n := 12) (N' := 12) (a0 := (12, .inl (fun _ => 0))) hx hb (hts _ tw_39) rfl hK hP hD hS hA (fun _ => rfl) (by decide) (by decide) (by decide) (Nat.le_of_ble_eq_true rfl) (Nat.le_of_ble_eq_true rfl) d_Pr_init_23 (fun q23 cA H hK1 hP hD hS => ?_)
  have hc : cI = cA := Option.some.inj ((hK1.2 0 (cI, .int) rfl).2.symm.trans (hK1.2 3 (cA, .int) rfl).2)
  subst hc
  have hP : va_P D gCl [(h0, .inr (7, [.ref (q7), .ref (q15), .null, .null, .null, .int 0])), (q7, .inl (cI, 12, .inl (fun _ => 0))), (q15, .inl (cI, 12, .inl (fun _ => 0))), (q23, .inl (cI, 12, .inl (fun _ => 0)))] H := hP
  have hD : va_D A [(h0, .inr (7, [.ref (q7), .ref (q15), .null, .null, .null, .int 0])), (q7, .inl (cI, 12, .inl (fun _ => 0))), (q15, .inl (cI, 12, .inl (fun _ => 0))), (q23, .inl (cI, 12, .inl (fun _ => 0)))] := hD
  refine va_putF (D := D) (ci := 7) (v := .ref (q23)) (ty := .array .int) (C := R_Pr) (T := T_Pr) (N := 6) hx hb hts i_Pr t_Pr o_Pr n_Pr hown hK hP hD hS 0 rfl rfl 2 (by decide) (hts _ tw_192) (fun _ h9 => h9) rfl hin rfl (by decide +kernel) rfl rfl (Nat.le_of_ble_eq_true rfl) d_Pr_init_25 (fun H locs hP hD hS => ?_)
  have hP : va_P D gCl [(h0, .inr (7, [.ref (q7), .ref (q15), .ref (q23), .null, .null, .int 0])), (q7, .inl (cI, 12, .inl (fun _ => 0))), (q15, .inl (cI, 12, .inl (fun _ => 0))), (q23, .inl (cI, 12, .inl (fun _ => 0)))] H := hP
  have hD : va_D A [(h0, .inr (7, [.ref (q7), .ref (q15), .ref (q23), .null, .null, .int 0])), (q7, .inl (cI, 12, .inl (fun _ => 0))), (q15, .inl (cI, 12, .inl (fun _ => 0))), (q23, .inl (cI, 12, .inl (fun _ => 0)))] := hD
  refine lv_aload_n hx hb d_Pr_init_28 rfl (lv_at hl 0 rfl) ?_
  refine lv_bipush (v := 12) hx hb d_Pr_init_29 (by decide) ?_
  refine va_newa (ty := .int) (n := 12) (N' := 12) (a0 := (12, .inl (fun _ => 0))) hx hb (hts _ tw_39) rfl hK hP hD hS hA (fun _ => rfl) (by decide) (by decide) (by decide) (Nat.le_of_ble_eq_true rfl) (Nat.le_of_ble_eq_true rfl) d_Pr_init_31 (fun q31 cA H hK1 hP hD hS => ?_)
  have hc : cI = cA := Option.some.inj ((hK1.2 0 (cI, .int) rfl).2.symm.trans (hK1.2 3 (cA, .int) rfl).2)
  subst hc
  have hP : va_P D gCl [(h0, .inr (7, [.ref (q7), .ref (q15), .ref (q23), .null, .null, .int 0])), (q7, .inl (cI, 12, .inl (fun _ => 0))), (q15, .inl (cI, 12, .inl (fun _ => 0))), (q23, .inl (cI, 12, .inl (fun _ => 0))), (q31, .inl (cI, 12, .inl (fun _ => 0)))] H := hP
  have hD : va_D A [(h0, .inr (7, [.ref (q7), .ref (q15), .ref (q23), .null, .null, .int 0])), (q7, .inl (cI, 12, .inl (fun _ => 0))), (q15, .inl (cI, 12, .inl (fun _ => 0))), (q23, .inl (cI, 12, .inl (fun _ => 0))), (q31, .inl (cI, 12, .inl (fun _ => 0)))] := hD
  refine va_putF (D := D) (ci := 7) (v := .ref (q31)) (ty := .array .int) (C := R_Pr) (T := T_Pr) (N := 6) hx hb hts i_Pr t_Pr o_Pr n_Pr hown hK hP hD hS 0 rfl rfl 3 (by decide) (hts _ tw_194) (fun _ h9 => h9) rfl hin rfl (by decide +kernel) rfl rfl (Nat.le_of_ble_eq_true rfl) d_Pr_init_33 (fun H locs hP hD hS => ?_)
  have hP : va_P D gCl [(h0, .inr (7, [.ref (q7), .ref (q15), .ref (q23), .ref (q31), .null, .int 0])), (q7, .inl (cI, 12, .inl (fun _ => 0))), (q15, .inl (cI, 12, .inl (fun _ => 0))), (q23, .inl (cI, 12, .inl (fun _ => 0))), (q31, .inl (cI, 12, .inl (fun _ => 0)))] H := hP
  have hD : va_D A [(h0, .inr (7, [.ref (q7), .ref (q15), .ref (q23), .ref (q31), .null, .int 0])), (q7, .inl (cI, 12, .inl (fun _ => 0))), (q15, .inl (cI, 12, .inl (fun _ => 0))), (q23, .inl (cI, 12, .inl (fun _ => 0))), (q31, .inl (cI, 12, .inl (fun _ => 0)))] := hD
  refine lv_aload_n hx hb d_Pr_init_36 rfl (lv_at hl 0 rfl) ?_
  refine lv_bipush (v := 12) hx hb d_Pr_init_37 (by decide) ?_
  refine va_newa (ty := .int) (n := 12) (N' := 12) (a0 := (12, .inl (fun _ => 0))) hx hb (hts _ tw_39) rfl hK hP hD hS hA (fun _ => rfl) (by decide) (by decide) (by decide) (Nat.le_of_ble_eq_true rfl) (Nat.le_of_ble_eq_true rfl) d_Pr_init_39 (fun q39 cA H hK1 hP hD hS => ?_)
  have hc : cI = cA := Option.some.inj ((hK1.2 0 (cI, .int) rfl).2.symm.trans (hK1.2 3 (cA, .int) rfl).2)
  subst hc
  have hP : va_P D gCl [(h0, .inr (7, [.ref (q7), .ref (q15), .ref (q23), .ref (q31), .null, .int 0])), (q7, .inl (cI, 12, .inl (fun _ => 0))), (q15, .inl (cI, 12, .inl (fun _ => 0))), (q23, .inl (cI, 12, .inl (fun _ => 0))), (q31, .inl (cI, 12, .inl (fun _ => 0))), (q39, .inl (cI, 12, .inl (fun _ => 0)))] H := hP
  have hD : va_D A [(h0, .inr (7, [.ref (q7), .ref (q15), .ref (q23), .ref (q31), .null, .int 0])), (q7, .inl (cI, 12, .inl (fun _ => 0))), (q15, .inl (cI, 12, .inl (fun _ => 0))), (q23, .inl (cI, 12, .inl (fun _ => 0))), (q31, .inl (cI, 12, .inl (fun _ => 0))), (q39, .inl (cI, 12, .inl (fun _ => 0)))] := hD
  refine va_putF (D := D) (ci := 7) (v := .ref (q39)) (ty := .array .int) (C := R_Pr) (T := T_Pr) (N := 6) hx hb hts i_Pr t_Pr o_Pr n_Pr hown hK hP hD hS 0 rfl rfl 4 (by decide) (hts _ tw_196) (fun _ h9 => h9) rfl hin rfl (by decide +kernel) rfl rfl (Nat.le_of_ble_eq_true rfl) d_Pr_init_41 (fun H locs hP hD hS => ?_)
  have hP : va_P D gCl [(h0, .inr (7, [.ref (q7), .ref (q15), .ref (q23), .ref (q31), .ref (q39), .int 0])), (q7, .inl (cI, 12, .inl (fun _ => 0))), (q15, .inl (cI, 12, .inl (fun _ => 0))), (q23, .inl (cI, 12, .inl (fun _ => 0))), (q31, .inl (cI, 12, .inl (fun _ => 0))), (q39, .inl (cI, 12, .inl (fun _ => 0)))] H := hP
  have hD : va_D A [(h0, .inr (7, [.ref (q7), .ref (q15), .ref (q23), .ref (q31), .ref (q39), .int 0])), (q7, .inl (cI, 12, .inl (fun _ => 0))), (q15, .inl (cI, 12, .inl (fun _ => 0))), (q23, .inl (cI, 12, .inl (fun _ => 0))), (q31, .inl (cI, 12, .inl (fun _ => 0))), (q39, .inl (cI, 12, .inl (fun _ => 0)))] := hD
  have hP : va_P D gCl (kW_Pr cI cS cZ h0 (fun k => ([h0, q7, q15, q23, q31, q39] : List Nat).getD k 0)) H := hP
  have hD : va_D A (kW_Pr cI cS cZ h0 (fun k => ([h0, q7, q15, q23, q31, q39] : List Nat).getD k 0)) := hD
  exact hret H locs 44 ls (fun k => ([h0, q7, q15, q23, q31, q39] : List Nat).getD k 0) d_Pr_init_44 hP hD hS rfl

def kW_Pl (cI cS cZ : ClassId) (h0 : Nat) (u : Nat → Nat) : va_W := [(h0, .inr (8, [.ref (u 1), .ref (u 2), .ref (u 3), .ref (u 4), .ref (u 5), .int 0, .int 0, .int 0, .int 0])), (u 1, .inl (cI, 64, .inl (fun _ => 0))), (u 2, .inl (cI, 32, .inl (fun _ => 0))), (u 3, .inl (cI, 16, .inl (gfill 16 (-1 : Int32) (fun _ => 0)))), (u 4, .inl (cI, 12, .inl (gfill 12 (-1 : Int32) (fun _ => 0)))), (u 5, .inl (cI, 12, .inl (fun _ => 0)))]
abbrev rm_Pl_init : Room := { frames := 1, cells := 5, slots := 136, locals := 23 }
set_option maxHeartbeats 4000000 in
set_option maxRecDepth 100000 in
theorem k_Pl (l : Launch) (D : va_G) (cI cS cZ : ClassId) (h0 : Nat) : gK l y_Pl_init b_Pl_init 1 rm_Pl_init D (gT cI cS cZ) [.ref (h0)] [(h0, .inr (8, [.null, .null, .null, .null, .null, .int 0, .int 0, .int 0, .int 0]))] (fun u : Nat → Nat => kW_Pl cI cS cZ h0 u) (fun u => u 0 = h0) 5 136 := by
  refine gK.of (by decide) (Nat.le_of_ble_eq_true rfl) ?_
  intro p e s m below meth c Q A hx hb hml hown hts hK hN hA hS hP hD hin hret ls hl
  have hl : lv_has ls 1 [(0, .ref (h0))] := hl
  obtain ⟨H, hH⟩ : ∃ H, H = s.heap := ⟨_, rfl⟩
  obtain ⟨locs, hlocs⟩ : ∃ locs : List Loc, locs = [] := ⟨_, rfl⟩
  have hP : va_P D gCl [(h0, .inr (8, [.null, .null, .null, .null, .null, .int 0, .int 0, .int 0, .int 0]))] H := by rw [hH]; exact hP
  have hS : va_S A s.heap H locs := by rw [hH, hlocs]; exact hS
  suffices K : W p l e rm_Pl_init s m ([.ref (h0)] : List Value).toArray below meth c H locs 0 0 Q (F0 m 0 ls []) by rw [hH, hlocs] at K; exact K
  clear hH hlocs
  refine lv_aload_n hx hb d_Pl_init_0 rfl (lv_at hl 0 rfl) ?_
  refine W.objInit hx hb hown (hts _ tw_219) (hts _ tw_19) (hts _ tw_20) rfl (by rw [hml]; exact hl.1) rfl d_Pl_init_1 (Nat.le_of_ble_eq_true rfl) (Nat.le_of_ble_eq_true rfl) ?_
  refine W.eq (g2 := F0 m 4 ls []) rfl ?_
  refine lv_aload_n hx hb d_Pl_init_4 rfl (lv_at hl 0 rfl) ?_
  refine lv_bipush (v := 64) hx hb d_Pl_init_5 (by decide) ?_
  refine va_newa (ty := .int) (n := 64) (N' := 64) (a0 := (64, .inl (fun _ => 0))) hx hb (hts _ tw_39) rfl hK hP hD hS hA (fun _ => rfl) (by decide) (by decide) (by decide) (Nat.le_of_ble_eq_true rfl) (Nat.le_of_ble_eq_true rfl) d_Pl_init_7 (fun q7 cA H hK1 hP hD hS => ?_)
  have hc : cI = cA := Option.some.inj ((hK1.2 0 (cI, .int) rfl).2.symm.trans (hK1.2 3 (cA, .int) rfl).2)
  subst hc
  have hP : va_P D gCl [(h0, .inr (8, [.null, .null, .null, .null, .null, .int 0, .int 0, .int 0, .int 0])), (q7, .inl (cI, 64, .inl (fun _ => 0)))] H := hP
  have hD : va_D A [(h0, .inr (8, [.null, .null, .null, .null, .null, .int 0, .int 0, .int 0, .int 0])), (q7, .inl (cI, 64, .inl (fun _ => 0)))] := hD
  refine va_putF (D := D) (ci := 8) (v := .ref (q7)) (ty := .array .int) (C := R_Pl) (T := T_Pl) (N := 9) hx hb hts i_Pl t_Pl o_Pl n_Pl hown hK hP hD hS 0 rfl rfl 0 (by decide) (hts _ tw_223) (fun _ h9 => h9) rfl hin rfl (by decide +kernel) rfl rfl (Nat.le_of_ble_eq_true rfl) d_Pl_init_9 (fun H locs hP hD hS => ?_)
  have hP : va_P D gCl [(h0, .inr (8, [.ref (q7), .null, .null, .null, .null, .int 0, .int 0, .int 0, .int 0])), (q7, .inl (cI, 64, .inl (fun _ => 0)))] H := hP
  have hD : va_D A [(h0, .inr (8, [.ref (q7), .null, .null, .null, .null, .int 0, .int 0, .int 0, .int 0])), (q7, .inl (cI, 64, .inl (fun _ => 0)))] := hD
  refine lv_aload_n hx hb d_Pl_init_12 rfl (lv_at hl 0 rfl) ?_
  refine lv_bipush (v := 32) hx hb d_Pl_init_13 (by decide) ?_
  refine va_newa (ty := .int) (n := 32) (N' := 32) (a0 := (32, .inl (fun _ => 0))) hx hb (hts _ tw_39) rfl hK hP hD hS hA (fun _ => rfl) (by decide) (by decide) (by decide) (Nat.le_of_ble_eq_true rfl) (Nat.le_of_ble_eq_true rfl) d_Pl_init_15 (fun q15 cA H hK1 hP hD hS => ?_)
  have hc : cI = cA := Option.some.inj ((hK1.2 0 (cI, .int) rfl).2.symm.trans (hK1.2 3 (cA, .int) rfl).2)
  subst hc
  have hP : va_P D gCl [(h0, .inr (8, [.ref (q7), .null, .null, .null, .null, .int 0, .int 0, .int 0, .int 0])), (q7, .inl (cI, 64, .inl (fun _ => 0))), (q15, .inl (cI, 32, .inl (fun _ => 0)))] H := hP
  have hD : va_D A [(h0, .inr (8, [.ref (q7), .null, .null, .null, .null, .int 0, .int 0, .int 0, .int 0])), (q7, .inl (cI, 64, .inl (fun _ => 0))), (q15, .inl (cI, 32, .inl (fun _ => 0)))] := hD
  refine va_putF (D := D) (ci := 8) (v := .ref (q15)) (ty := .array .int) (C := R_Pl) (T := T_Pl) (N := 9) hx hb hts i_Pl t_Pl o_Pl n_Pl hown hK hP hD hS 0 rfl rfl 1 (by decide) (hts _ tw_225) (fun _ h9 => h9) rfl hin rfl (by decide +kernel) rfl rfl (Nat.le_of_ble_eq_true rfl) d_Pl_init_17 (fun H locs hP hD hS => ?_)
  have hP : va_P D gCl [(h0, .inr (8, [.ref (q7), .ref (q15), .null, .null, .null, .int 0, .int 0, .int 0, .int 0])), (q7, .inl (cI, 64, .inl (fun _ => 0))), (q15, .inl (cI, 32, .inl (fun _ => 0)))] H := hP
  have hD : va_D A [(h0, .inr (8, [.ref (q7), .ref (q15), .null, .null, .null, .int 0, .int 0, .int 0, .int 0])), (q7, .inl (cI, 64, .inl (fun _ => 0))), (q15, .inl (cI, 32, .inl (fun _ => 0)))] := hD
  refine lv_aload_n hx hb d_Pl_init_20 rfl (lv_at hl 0 rfl) ?_
  refine lv_bipush (v := 16) hx hb d_Pl_init_21 (by decide) ?_
  refine va_newa (ty := .int) (n := 16) (N' := 16) (a0 := (16, .inl (fun _ => 0))) hx hb (hts _ tw_39) rfl hK hP hD hS hA (fun _ => rfl) (by decide) (by decide) (by decide) (Nat.le_of_ble_eq_true rfl) (Nat.le_of_ble_eq_true rfl) d_Pl_init_23 (fun q23 cA H hK1 hP hD hS => ?_)
  have hc : cI = cA := Option.some.inj ((hK1.2 0 (cI, .int) rfl).2.symm.trans (hK1.2 3 (cA, .int) rfl).2)
  subst hc
  have hP : va_P D gCl [(h0, .inr (8, [.ref (q7), .ref (q15), .null, .null, .null, .int 0, .int 0, .int 0, .int 0])), (q7, .inl (cI, 64, .inl (fun _ => 0))), (q15, .inl (cI, 32, .inl (fun _ => 0))), (q23, .inl (cI, 16, .inl (fun _ => 0)))] H := hP
  have hD : va_D A [(h0, .inr (8, [.ref (q7), .ref (q15), .null, .null, .null, .int 0, .int 0, .int 0, .int 0])), (q7, .inl (cI, 64, .inl (fun _ => 0))), (q15, .inl (cI, 32, .inl (fun _ => 0))), (q23, .inl (cI, 16, .inl (fun _ => 0)))] := hD
  refine va_putF (D := D) (ci := 8) (v := .ref (q23)) (ty := .array .int) (C := R_Pl) (T := T_Pl) (N := 9) hx hb hts i_Pl t_Pl o_Pl n_Pl hown hK hP hD hS 0 rfl rfl 2 (by decide) (hts _ tw_226) (fun _ h9 => h9) rfl hin rfl (by decide +kernel) rfl rfl (Nat.le_of_ble_eq_true rfl) d_Pl_init_25 (fun H locs hP hD hS => ?_)
  have hP : va_P D gCl [(h0, .inr (8, [.ref (q7), .ref (q15), .ref (q23), .null, .null, .int 0, .int 0, .int 0, .int 0])), (q7, .inl (cI, 64, .inl (fun _ => 0))), (q15, .inl (cI, 32, .inl (fun _ => 0))), (q23, .inl (cI, 16, .inl (fun _ => 0)))] H := hP
  have hD : va_D A [(h0, .inr (8, [.ref (q7), .ref (q15), .ref (q23), .null, .null, .int 0, .int 0, .int 0, .int 0])), (q7, .inl (cI, 64, .inl (fun _ => 0))), (q15, .inl (cI, 32, .inl (fun _ => 0))), (q23, .inl (cI, 16, .inl (fun _ => 0)))] := hD
  refine lv_aload_n hx hb d_Pl_init_28 rfl (lv_at hl 0 rfl) ?_
  refine lv_bipush (v := 12) hx hb d_Pl_init_29 (by decide) ?_
  refine va_newa (ty := .int) (n := 12) (N' := 12) (a0 := (12, .inl (fun _ => 0))) hx hb (hts _ tw_39) rfl hK hP hD hS hA (fun _ => rfl) (by decide) (by decide) (by decide) (Nat.le_of_ble_eq_true rfl) (Nat.le_of_ble_eq_true rfl) d_Pl_init_31 (fun q31 cA H hK1 hP hD hS => ?_)
  have hc : cI = cA := Option.some.inj ((hK1.2 0 (cI, .int) rfl).2.symm.trans (hK1.2 3 (cA, .int) rfl).2)
  subst hc
  have hP : va_P D gCl [(h0, .inr (8, [.ref (q7), .ref (q15), .ref (q23), .null, .null, .int 0, .int 0, .int 0, .int 0])), (q7, .inl (cI, 64, .inl (fun _ => 0))), (q15, .inl (cI, 32, .inl (fun _ => 0))), (q23, .inl (cI, 16, .inl (fun _ => 0))), (q31, .inl (cI, 12, .inl (fun _ => 0)))] H := hP
  have hD : va_D A [(h0, .inr (8, [.ref (q7), .ref (q15), .ref (q23), .null, .null, .int 0, .int 0, .int 0, .int 0])), (q7, .inl (cI, 64, .inl (fun _ => 0))), (q15, .inl (cI, 32, .inl (fun _ => 0))), (q23, .inl (cI, 16, .inl (fun _ => 0))), (q31, .inl (cI, 12, .inl (fun _ => 0)))] := hD
  refine va_putF (D := D) (ci := 8) (v := .ref (q31)) (ty := .array .int) (C := R_Pl) (T := T_Pl) (N := 9) hx hb hts i_Pl t_Pl o_Pl n_Pl hown hK hP hD hS 0 rfl rfl 3 (by decide) (hts _ tw_228) (fun _ h9 => h9) rfl hin rfl (by decide +kernel) rfl rfl (Nat.le_of_ble_eq_true rfl) d_Pl_init_33 (fun H locs hP hD hS => ?_)
  have hP : va_P D gCl [(h0, .inr (8, [.ref (q7), .ref (q15), .ref (q23), .ref (q31), .null, .int 0, .int 0, .int 0, .int 0])), (q7, .inl (cI, 64, .inl (fun _ => 0))), (q15, .inl (cI, 32, .inl (fun _ => 0))), (q23, .inl (cI, 16, .inl (fun _ => 0))), (q31, .inl (cI, 12, .inl (fun _ => 0)))] H := hP
  have hD : va_D A [(h0, .inr (8, [.ref (q7), .ref (q15), .ref (q23), .ref (q31), .null, .int 0, .int 0, .int 0, .int 0])), (q7, .inl (cI, 64, .inl (fun _ => 0))), (q15, .inl (cI, 32, .inl (fun _ => 0))), (q23, .inl (cI, 16, .inl (fun _ => 0))), (q31, .inl (cI, 12, .inl (fun _ => 0)))] := hD
  refine lv_aload_n hx hb d_Pl_init_36 rfl (lv_at hl 0 rfl) ?_
  refine lv_bipush (v := 12) hx hb d_Pl_init_37 (by decide) ?_
  refine va_newa (ty := .int) (n := 12) (N' := 12) (a0 := (12, .inl (fun _ => 0))) hx hb (hts _ tw_39) rfl hK hP hD hS hA (fun _ => rfl) (by decide) (by decide) (by decide) (Nat.le_of_ble_eq_true rfl) (Nat.le_of_ble_eq_true rfl) d_Pl_init_39 (fun q39 cA H hK1 hP hD hS => ?_)
  have hc : cI = cA := Option.some.inj ((hK1.2 0 (cI, .int) rfl).2.symm.trans (hK1.2 3 (cA, .int) rfl).2)
  subst hc
  have hP : va_P D gCl [(h0, .inr (8, [.ref (q7), .ref (q15), .ref (q23), .ref (q31), .null, .int 0, .int 0, .int 0, .int 0])), (q7, .inl (cI, 64, .inl (fun _ => 0))), (q15, .inl (cI, 32, .inl (fun _ => 0))), (q23, .inl (cI, 16, .inl (fun _ => 0))), (q31, .inl (cI, 12, .inl (fun _ => 0))), (q39, .inl (cI, 12, .inl (fun _ => 0)))] H := hP
  have hD : va_D A [(h0, .inr (8, [.ref (q7), .ref (q15), .ref (q23), .ref (q31), .null, .int 0, .int 0, .int 0, .int 0])), (q7, .inl (cI, 64, .inl (fun _ => 0))), (q15, .inl (cI, 32, .inl (fun _ => 0))), (q23, .inl (cI, 16, .inl (fun _ => 0))), (q31, .inl (cI, 12, .inl (fun _ => 0))), (q39, .inl (cI, 12, .inl (fun _ => 0)))] := hD
  refine va_putF (D := D) (ci := 8) (v := .ref (q39)) (ty := .array .int) (C := R_Pl) (T := T_Pl) (N := 9) hx hb hts i_Pl t_Pl o_Pl n_Pl hown hK hP hD hS 0 rfl rfl 4 (by decide) (hts _ tw_230) (fun _ h9 => h9) rfl hin rfl (by decide +kernel) rfl rfl (Nat.le_of_ble_eq_true rfl) d_Pl_init_41 (fun H locs hP hD hS => ?_)
  have hP : va_P D gCl [(h0, .inr (8, [.ref (q7), .ref (q15), .ref (q23), .ref (q31), .ref (q39), .int 0, .int 0, .int 0, .int 0])), (q7, .inl (cI, 64, .inl (fun _ => 0))), (q15, .inl (cI, 32, .inl (fun _ => 0))), (q23, .inl (cI, 16, .inl (fun _ => 0))), (q31, .inl (cI, 12, .inl (fun _ => 0))), (q39, .inl (cI, 12, .inl (fun _ => 0)))] H := hP
  have hD : va_D A [(h0, .inr (8, [.ref (q7), .ref (q15), .ref (q23), .ref (q31), .ref (q39), .int 0, .int 0, .int 0, .int 0])), (q7, .inl (cI, 64, .inl (fun _ => 0))), (q15, .inl (cI, 32, .inl (fun _ => 0))), (q23, .inl (cI, 16, .inl (fun _ => 0))), (q31, .inl (cI, 12, .inl (fun _ => 0))), (q39, .inl (cI, 12, .inl (fun _ => 0)))] := hD
  refine lv_aload_n hx hb d_Pl_init_44 rfl (lv_at hl 0 rfl) ?_
  refine va_get (D := D) (ci := 8) (v := .ref (q23)) (C := R_Pl) (T := T_Pl) (N := 9) hx hb hts i_Pl hown hK hP 0 rfl rfl 2 (by decide) (hts _ tw_226) (fun _ h9 => h9) rfl d_Pl_init_45 ?_
  refine lv_iconst (v := (-1)) hx hb d_Pl_init_48 (by decide) ?_
  refine gFill (n := 16) (f := fun _ => 0) (v := (-1 : Int32)) (rest := []) hx hb hml hown hts hK hN hA hS hP hD 3 rfl (by decide) (va_cwS 2 hts (gGS tw_220 tw_221 tw_10 tw_222) rfl rfl rfl ⟨by decide, by decide, by decide +kernel⟩ ⟨Nat.le_of_ble_eq_true rfl, Nat.le_of_ble_eq_true rfl⟩) hl.1 (Nat.le_of_ble_eq_true rfl) d_Pl_init_49 (fun H locs hP hD hS => ?_) (Nat.le_of_ble_eq_true rfl) (Nat.le_of_ble_eq_true rfl)
  have hP : va_P D gCl [(h0, .inr (8, [.ref (q7), .ref (q15), .ref (q23), .ref (q31), .ref (q39), .int 0, .int 0, .int 0, .int 0])), (q7, .inl (cI, 64, .inl (fun _ => 0))), (q15, .inl (cI, 32, .inl (fun _ => 0))), (q23, .inl (cI, 16, .inl (gfill 16 (-1 : Int32) (fun _ => 0)))), (q31, .inl (cI, 12, .inl (fun _ => 0))), (q39, .inl (cI, 12, .inl (fun _ => 0)))] H := hP
  have hD : va_D A [(h0, .inr (8, [.ref (q7), .ref (q15), .ref (q23), .ref (q31), .ref (q39), .int 0, .int 0, .int 0, .int 0])), (q7, .inl (cI, 64, .inl (fun _ => 0))), (q15, .inl (cI, 32, .inl (fun _ => 0))), (q23, .inl (cI, 16, .inl (gfill 16 (-1 : Int32) (fun _ => 0)))), (q31, .inl (cI, 12, .inl (fun _ => 0))), (q39, .inl (cI, 12, .inl (fun _ => 0)))] := hD
  refine lv_aload_n hx hb d_Pl_init_52 rfl (lv_at hl 0 rfl) ?_
  refine va_get (D := D) (ci := 8) (v := .ref (q31)) (C := R_Pl) (T := T_Pl) (N := 9) hx hb hts i_Pl hown hK hP 0 rfl rfl 3 (by decide) (hts _ tw_228) (fun _ h9 => h9) rfl d_Pl_init_53 ?_
  refine lv_iconst (v := (-1)) hx hb d_Pl_init_56 (by decide) ?_
  refine gFill (n := 12) (f := fun _ => 0) (v := (-1 : Int32)) (rest := []) hx hb hml hown hts hK hN hA hS hP hD 4 rfl (by decide) (va_cwS 2 hts (gGS tw_220 tw_221 tw_10 tw_222) rfl rfl rfl ⟨by decide, by decide, by decide +kernel⟩ ⟨Nat.le_of_ble_eq_true rfl, Nat.le_of_ble_eq_true rfl⟩) hl.1 (Nat.le_of_ble_eq_true rfl) d_Pl_init_57 (fun H locs hP hD hS => ?_) (Nat.le_of_ble_eq_true rfl) (Nat.le_of_ble_eq_true rfl)
  have hP : va_P D gCl [(h0, .inr (8, [.ref (q7), .ref (q15), .ref (q23), .ref (q31), .ref (q39), .int 0, .int 0, .int 0, .int 0])), (q7, .inl (cI, 64, .inl (fun _ => 0))), (q15, .inl (cI, 32, .inl (fun _ => 0))), (q23, .inl (cI, 16, .inl (gfill 16 (-1 : Int32) (fun _ => 0)))), (q31, .inl (cI, 12, .inl (gfill 12 (-1 : Int32) (fun _ => 0)))), (q39, .inl (cI, 12, .inl (fun _ => 0)))] H := hP
  have hD : va_D A [(h0, .inr (8, [.ref (q7), .ref (q15), .ref (q23), .ref (q31), .ref (q39), .int 0, .int 0, .int 0, .int 0])), (q7, .inl (cI, 64, .inl (fun _ => 0))), (q15, .inl (cI, 32, .inl (fun _ => 0))), (q23, .inl (cI, 16, .inl (gfill 16 (-1 : Int32) (fun _ => 0)))), (q31, .inl (cI, 12, .inl (gfill 12 (-1 : Int32) (fun _ => 0)))), (q39, .inl (cI, 12, .inl (fun _ => 0)))] := hD
  have hP : va_P D gCl (kW_Pl cI cS cZ h0 (fun k => ([h0, q7, q15, q23, q31, q39] : List Nat).getD k 0)) H := hP
  have hD : va_D A (kW_Pl cI cS cZ h0 (fun k => ([h0, q7, q15, q23, q31, q39] : List Nat).getD k 0)) := hD
  exact hret H locs 60 ls (fun k => ([h0, q7, q15, q23, q31, q39] : List Nat).getD k 0) d_Pl_init_60 hP hD hS rfl

def kW_Mc (cI cS cZ : ClassId) (h0 : Nat) (a1 : Nat) (a2 : Nat) (a3 : Nat) (u : Nat → Nat) : va_W := [(h0, .inr (4, [.ref (a1), .ref (a2), .ref (a3), .ref (u 1), .ref (u 2), .ref (u 3), .int 0, .int 0, .int 0, .int 0, .int 0, .int (-1 : Int32), .int (-1 : Int32), .int 0])), (u 1, .inr (5, [.int 0, .int 0, .int 0])), (u 2, .inr (6, [.int 0, .int 0, .int 0, .int 0, .int 0])), (u 3, .inr (6, [.int 0, .int 0, .int 0, .int 0, .int 0]))]
abbrev rm_Mc_init : Room := { frames := 2, cells := 3, slots := 13, locals := 32 }
set_option maxHeartbeats 4000000 in
set_option maxRecDepth 100000 in
theorem k_Mc (l : Launch) (D : va_G) (cI cS cZ : ClassId) (h0 : Nat) (a1 : Nat) (a2 : Nat) (a3 : Nat) : gK l y_Mc_init b_Mc_init 4 rm_Mc_init D (gT cI cS cZ) [.ref (h0), .ref (a1), .ref (a2), .ref (a3)] [(h0, .inr (4, [.null, .null, .null, .null, .null, .null, .int 0, .int 0, .int 0, .int 0, .int 0, .int 0, .int 0, .int 0]))] (fun u : Nat → Nat => kW_Mc cI cS cZ h0 a1 a2 a3 u) (fun u => u 0 = h0) 3 13 := by
  refine gK.of (by decide) (Nat.le_of_ble_eq_true rfl) ?_
  intro p e s m below meth c Q A hx hb hml hown hts hK hN hA hS hP hD hin hret ls hl
  have hl : lv_has ls 4 [(0, .ref (h0)), (1, .ref (a1)), (2, .ref (a2)), (3, .ref (a3))] := hl
  obtain ⟨H, hH⟩ : ∃ H, H = s.heap := ⟨_, rfl⟩
  obtain ⟨locs, hlocs⟩ : ∃ locs : List Loc, locs = [] := ⟨_, rfl⟩
  have hP : va_P D gCl [(h0, .inr (4, [.null, .null, .null, .null, .null, .null, .int 0, .int 0, .int 0, .int 0, .int 0, .int 0, .int 0, .int 0]))] H := by rw [hH]; exact hP
  have hS : va_S A s.heap H locs := by rw [hH, hlocs]; exact hS
  suffices K : W p l e rm_Mc_init s m ([.ref (h0), .ref (a1), .ref (a2), .ref (a3)] : List Value).toArray below meth c H locs 0 0 Q (F0 m 0 ls []) by rw [hH, hlocs] at K; exact K
  clear hH hlocs
  refine lv_aload_n hx hb d_Mc_init_0 rfl (lv_at hl 0 rfl) ?_
  refine W.objInit hx hb hown (hts _ tw_89) (hts _ tw_19) (hts _ tw_20) rfl (by rw [hml]; exact hl.1) rfl d_Mc_init_1 (Nat.le_of_ble_eq_true rfl) (Nat.le_of_ble_eq_true rfl) ?_
  refine W.eq (g2 := F0 m 4 ls []) rfl ?_
  refine lv_aload_n hx hb d_Mc_init_4 rfl (lv_at hl 0 rfl) ?_
  refine lv_aload_n hx hb d_Mc_init_5 rfl (lv_at hl 1 rfl) ?_
  refine va_putF (D := D) (ci := 4) (v := .ref (a1)) (ty := .object "DelayMachine$Store") (C := R_Mc) (T := T_Mc) (N := 14) hx hb hts i_Mc t_Mc o_Mc n_Mc hown hK hP hD hS 0 rfl rfl 0 (by decide) (hts _ tw_132) (fun _ h9 => h9) rfl hin rfl (by decide +kernel) rfl rfl (Nat.le_of_ble_eq_true rfl) d_Mc_init_6 (fun H locs hP hD hS => ?_)
  have hP : va_P D gCl [(h0, .inr (4, [.ref (a1), .null, .null, .null, .null, .null, .int 0, .int 0, .int 0, .int 0, .int 0, .int 0, .int 0, .int 0]))] H := hP
  have hD : va_D A [(h0, .inr (4, [.ref (a1), .null, .null, .null, .null, .null, .int 0, .int 0, .int 0, .int 0, .int 0, .int 0, .int 0, .int 0]))] := hD
  refine lv_aload_n hx hb d_Mc_init_9 rfl (lv_at hl 0 rfl) ?_
  refine lv_aload_n hx hb d_Mc_init_10 rfl (lv_at hl 2 rfl) ?_
  refine va_putF (D := D) (ci := 4) (v := .ref (a2)) (ty := .object "DelayMachine$Reader") (C := R_Mc) (T := T_Mc) (N := 14) hx hb hts i_Mc t_Mc o_Mc n_Mc hown hK hP hD hS 0 rfl rfl 1 (by decide) (hts _ tw_133) (fun _ h9 => h9) rfl hin rfl (by decide +kernel) rfl rfl (Nat.le_of_ble_eq_true rfl) d_Mc_init_11 (fun H locs hP hD hS => ?_)
  have hP : va_P D gCl [(h0, .inr (4, [.ref (a1), .ref (a2), .null, .null, .null, .null, .int 0, .int 0, .int 0, .int 0, .int 0, .int 0, .int 0, .int 0]))] H := hP
  have hD : va_D A [(h0, .inr (4, [.ref (a1), .ref (a2), .null, .null, .null, .null, .int 0, .int 0, .int 0, .int 0, .int 0, .int 0, .int 0, .int 0]))] := hD
  refine lv_aload_n hx hb d_Mc_init_14 rfl (lv_at hl 0 rfl) ?_
  refine lv_aload_n hx hb d_Mc_init_15 rfl (lv_at hl 3 rfl) ?_
  refine va_putF (D := D) (ci := 4) (v := .ref (a3)) (ty := .object "DelayMachine$Punch") (C := R_Mc) (T := T_Mc) (N := 14) hx hb hts i_Mc t_Mc o_Mc n_Mc hown hK hP hD hS 0 rfl rfl 2 (by decide) (hts _ tw_134) (fun _ h9 => h9) rfl hin rfl (by decide +kernel) rfl rfl (Nat.le_of_ble_eq_true rfl) d_Mc_init_16 (fun H locs hP hD hS => ?_)
  have hP : va_P D gCl [(h0, .inr (4, [.ref (a1), .ref (a2), .ref (a3), .null, .null, .null, .int 0, .int 0, .int 0, .int 0, .int 0, .int 0, .int 0, .int 0]))] H := hP
  have hD : va_D A [(h0, .inr (4, [.ref (a1), .ref (a2), .ref (a3), .null, .null, .null, .int 0, .int 0, .int 0, .int 0, .int 0, .int 0, .int 0, .int 0]))] := hD
  refine lv_aload_n hx hb d_Mc_init_19 rfl (lv_at hl 0 rfl) ?_
  refine va_new (ci := 5) (fs := [.int 0, .int 0, .int 0]) (C := R_Mu) (T := T_Mu) (N := 3) hx hb hts i_Mu t_Mu o_Mu hown (hts _ tw_90) (hts _ tw_91) (hts _ tw_6) hK hP hD hS hA rfl (fun j hj => by rcases (show j = 0 ∨ j = 1 ∨ j = 2 by omega) with rfl | rfl | rfl <;> rfl) (Nat.le_of_ble_eq_true rfl) (Nat.le_of_ble_eq_true rfl) d_Mc_init_20 (fun q20 H hP hD hS => ?_)
  have hP : va_P D gCl [(h0, .inr (4, [.ref (a1), .ref (a2), .ref (a3), .null, .null, .null, .int 0, .int 0, .int 0, .int 0, .int 0, .int 0, .int 0, .int 0])), (q20, .inr (5, [.int 0, .int 0, .int 0]))] H := hP
  have hD : va_D A [(h0, .inr (4, [.ref (a1), .ref (a2), .ref (a3), .null, .null, .null, .int 0, .int 0, .int 0, .int 0, .int 0, .int 0, .int 0, .int 0])), (q20, .inr (5, [.int 0, .int 0, .int 0]))] := hD
  refine lv_dup hx hb d_Mc_init_23 rfl ?_
  refine gCallKN (wr := [(h0, .inr (4, [.ref (a1), .ref (a2), .ref (a3), .null, .null, .null, .int 0, .int 0, .int 0, .int 0, .int 0, .int 0, .int 0, .int 0]))]) (w0 := [(q20, .inr (5, [.int 0, .int 0, .int 0]))]) (b := q20) (As := []) (rest := [.ref (q20), .ref (h0)]) (k_Mu l D cI cS cZ q20) hx hb hml hown hts hK hN hA hS hP hD ⟨va_cnB 0 hts (gGI tw_94) rfl rfl rfl (hN _ tn_92) (hts _ tw_6) ⟨by decide, by decide, by decide +kernel⟩ ⟨Nat.le_of_ble_eq_true rfl, Nat.le_of_ble_eq_true rfl⟩, rfl, hts _ tw_93⟩ rfl hl.1 rfl (Nat.le_of_ble_eq_true rfl) d_Mc_init_24 ⟨(Nat.le_of_ble_eq_true rfl), (Nat.le_of_ble_eq_true rfl)⟩ (fun u24 H locs hu24 hP hD hS => ?_)
  have hP : va_P D gCl [(h0, .inr (4, [.ref (a1), .ref (a2), .ref (a3), .null, .null, .null, .int 0, .int 0, .int 0, .int 0, .int 0, .int 0, .int 0, .int 0])), (q20, .inr (5, [.int 0, .int 0, .int 0]))] H := hP
  have hD : va_D A [(h0, .inr (4, [.ref (a1), .ref (a2), .ref (a3), .null, .null, .null, .int 0, .int 0, .int 0, .int 0, .int 0, .int 0, .int 0, .int 0])), (q20, .inr (5, [.int 0, .int 0, .int 0]))] := hD
  refine va_putF (D := D) (ci := 4) (v := .ref (q20)) (ty := .object "DelayMachine$Multiplier") (C := R_Mc) (T := T_Mc) (N := 14) hx hb hts i_Mc t_Mc o_Mc n_Mc hown hK hP hD hS 0 rfl rfl 3 (by decide) (hts _ tw_135) (fun _ h9 => h9) rfl hin rfl (by decide +kernel) rfl rfl (Nat.le_of_ble_eq_true rfl) d_Mc_init_27 (fun H locs hP hD hS => ?_)
  have hP : va_P D gCl [(h0, .inr (4, [.ref (a1), .ref (a2), .ref (a3), .ref (q20), .null, .null, .int 0, .int 0, .int 0, .int 0, .int 0, .int 0, .int 0, .int 0])), (q20, .inr (5, [.int 0, .int 0, .int 0]))] H := hP
  have hD : va_D A [(h0, .inr (4, [.ref (a1), .ref (a2), .ref (a3), .ref (q20), .null, .null, .int 0, .int 0, .int 0, .int 0, .int 0, .int 0, .int 0, .int 0])), (q20, .inr (5, [.int 0, .int 0, .int 0]))] := hD
  refine lv_aload_n hx hb d_Mc_init_30 rfl (lv_at hl 0 rfl) ?_
  refine va_new (ci := 6) (fs := [.int 0, .int 0, .int 0, .int 0, .int 0]) (C := R_Wi) (T := T_Wi) (N := 5) hx hb hts i_Wi t_Wi o_Wi hown (hts _ tw_107) (hts _ tw_108) (hts _ tw_7) hK hP hD hS hA rfl (fun j hj => by rcases (show j = 0 ∨ j = 1 ∨ j = 2 ∨ j = 3 ∨ j = 4 by omega) with rfl | rfl | rfl | rfl | rfl <;> rfl) (Nat.le_of_ble_eq_true rfl) (Nat.le_of_ble_eq_true rfl) d_Mc_init_31 (fun q31 H hP hD hS => ?_)
  have hP : va_P D gCl [(h0, .inr (4, [.ref (a1), .ref (a2), .ref (a3), .ref (q20), .null, .null, .int 0, .int 0, .int 0, .int 0, .int 0, .int 0, .int 0, .int 0])), (q20, .inr (5, [.int 0, .int 0, .int 0])), (q31, .inr (6, [.int 0, .int 0, .int 0, .int 0, .int 0]))] H := hP
  have hD : va_D A [(h0, .inr (4, [.ref (a1), .ref (a2), .ref (a3), .ref (q20), .null, .null, .int 0, .int 0, .int 0, .int 0, .int 0, .int 0, .int 0, .int 0])), (q20, .inr (5, [.int 0, .int 0, .int 0])), (q31, .inr (6, [.int 0, .int 0, .int 0, .int 0, .int 0]))] := hD
  refine lv_dup hx hb d_Mc_init_34 rfl ?_
  refine gCallKN (wr := [(h0, .inr (4, [.ref (a1), .ref (a2), .ref (a3), .ref (q20), .null, .null, .int 0, .int 0, .int 0, .int 0, .int 0, .int 0, .int 0, .int 0])), (q20, .inr (5, [.int 0, .int 0, .int 0]))]) (w0 := [(q31, .inr (6, [.int 0, .int 0, .int 0, .int 0, .int 0]))]) (b := q31) (As := []) (rest := [.ref (q31), .ref (h0)]) (k_Wi l D cI cS cZ q31) hx hb hml hown hts hK hN hA hS hP hD ⟨va_cnB 0 hts (gGI tw_111) rfl rfl rfl (hN _ tn_109) (hts _ tw_7) ⟨by decide, by decide, by decide +kernel⟩ ⟨Nat.le_of_ble_eq_true rfl, Nat.le_of_ble_eq_true rfl⟩, rfl, hts _ tw_110⟩ rfl hl.1 rfl (Nat.le_of_ble_eq_true rfl) d_Mc_init_35 ⟨(Nat.le_of_ble_eq_true rfl), (Nat.le_of_ble_eq_true rfl)⟩ (fun u35 H locs hu35 hP hD hS => ?_)
  have hP : va_P D gCl [(h0, .inr (4, [.ref (a1), .ref (a2), .ref (a3), .ref (q20), .null, .null, .int 0, .int 0, .int 0, .int 0, .int 0, .int 0, .int 0, .int 0])), (q20, .inr (5, [.int 0, .int 0, .int 0])), (q31, .inr (6, [.int 0, .int 0, .int 0, .int 0, .int 0]))] H := hP
  have hD : va_D A [(h0, .inr (4, [.ref (a1), .ref (a2), .ref (a3), .ref (q20), .null, .null, .int 0, .int 0, .int 0, .int 0, .int 0, .int 0, .int 0, .int 0])), (q20, .inr (5, [.int 0, .int 0, .int 0])), (q31, .inr (6, [.int 0, .int 0, .int 0, .int 0, .int 0]))] := hD
  refine va_put (D := D) (ci := 4) (v := .ref (q31)) (ty := .object "DelayMachine$Window") (C := R_Mc) (T := T_Mc) (N := 14) hx hb hts i_Mc t_Mc o_Mc n_Mc hown hK hP hD hS 0 rfl rfl 4 (by decide) (hts _ tw_137) (fun _ h9 => h9) rfl (by decide +kernel) rfl rfl (Nat.le_of_ble_eq_true rfl) d_Mc_init_38 (fun H locs hP hD hS => ?_)
  have hP : va_P D gCl [(h0, .inr (4, [.ref (a1), .ref (a2), .ref (a3), .ref (q20), .ref (q31), .null, .int 0, .int 0, .int 0, .int 0, .int 0, .int 0, .int 0, .int 0])), (q20, .inr (5, [.int 0, .int 0, .int 0])), (q31, .inr (6, [.int 0, .int 0, .int 0, .int 0, .int 0]))] H := hP
  have hD : va_D A [(h0, .inr (4, [.ref (a1), .ref (a2), .ref (a3), .ref (q20), .ref (q31), .null, .int 0, .int 0, .int 0, .int 0, .int 0, .int 0, .int 0, .int 0])), (q20, .inr (5, [.int 0, .int 0, .int 0])), (q31, .inr (6, [.int 0, .int 0, .int 0, .int 0, .int 0]))] := hD
  refine lv_aload_n hx hb d_Mc_init_41 rfl (lv_at hl 0 rfl) ?_
  refine va_new (ci := 6) (fs := [.int 0, .int 0, .int 0, .int 0, .int 0]) (C := R_Wi) (T := T_Wi) (N := 5) hx hb hts i_Wi t_Wi o_Wi hown (hts _ tw_107) (hts _ tw_108) (hts _ tw_7) hK hP hD hS hA rfl (fun j hj => by rcases (show j = 0 ∨ j = 1 ∨ j = 2 ∨ j = 3 ∨ j = 4 by omega) with rfl | rfl | rfl | rfl | rfl <;> rfl) (Nat.le_of_ble_eq_true rfl) (Nat.le_of_ble_eq_true rfl) d_Mc_init_42 (fun q42 H hP hD hS => ?_)
  have hP : va_P D gCl [(h0, .inr (4, [.ref (a1), .ref (a2), .ref (a3), .ref (q20), .ref (q31), .null, .int 0, .int 0, .int 0, .int 0, .int 0, .int 0, .int 0, .int 0])), (q20, .inr (5, [.int 0, .int 0, .int 0])), (q31, .inr (6, [.int 0, .int 0, .int 0, .int 0, .int 0])), (q42, .inr (6, [.int 0, .int 0, .int 0, .int 0, .int 0]))] H := hP
  have hD : va_D A [(h0, .inr (4, [.ref (a1), .ref (a2), .ref (a3), .ref (q20), .ref (q31), .null, .int 0, .int 0, .int 0, .int 0, .int 0, .int 0, .int 0, .int 0])), (q20, .inr (5, [.int 0, .int 0, .int 0])), (q31, .inr (6, [.int 0, .int 0, .int 0, .int 0, .int 0])), (q42, .inr (6, [.int 0, .int 0, .int 0, .int 0, .int 0]))] := hD
  refine lv_dup hx hb d_Mc_init_45 rfl ?_
  refine gCallKN (wr := [(h0, .inr (4, [.ref (a1), .ref (a2), .ref (a3), .ref (q20), .ref (q31), .null, .int 0, .int 0, .int 0, .int 0, .int 0, .int 0, .int 0, .int 0])), (q20, .inr (5, [.int 0, .int 0, .int 0])), (q31, .inr (6, [.int 0, .int 0, .int 0, .int 0, .int 0]))]) (w0 := [(q42, .inr (6, [.int 0, .int 0, .int 0, .int 0, .int 0]))]) (b := q42) (As := []) (rest := [.ref (q42), .ref (h0)]) (k_Wi l D cI cS cZ q42) hx hb hml hown hts hK hN hA hS hP hD ⟨va_cnB 0 hts (gGI tw_111) rfl rfl rfl (hN _ tn_109) (hts _ tw_7) ⟨by decide, by decide, by decide +kernel⟩ ⟨Nat.le_of_ble_eq_true rfl, Nat.le_of_ble_eq_true rfl⟩, rfl, hts _ tw_110⟩ rfl hl.1 rfl (Nat.le_of_ble_eq_true rfl) d_Mc_init_46 ⟨(Nat.le_of_ble_eq_true rfl), (Nat.le_of_ble_eq_true rfl)⟩ (fun u46 H locs hu46 hP hD hS => ?_)
  have hP : va_P D gCl [(h0, .inr (4, [.ref (a1), .ref (a2), .ref (a3), .ref (q20), .ref (q31), .null, .int 0, .int 0, .int 0, .int 0, .int 0, .int 0, .int 0, .int 0])), (q20, .inr (5, [.int 0, .int 0, .int 0])), (q31, .inr (6, [.int 0, .int 0, .int 0, .int 0, .int 0])), (q42, .inr (6, [.int 0, .int 0, .int 0, .int 0, .int 0]))] H := hP
  have hD : va_D A [(h0, .inr (4, [.ref (a1), .ref (a2), .ref (a3), .ref (q20), .ref (q31), .null, .int 0, .int 0, .int 0, .int 0, .int 0, .int 0, .int 0, .int 0])), (q20, .inr (5, [.int 0, .int 0, .int 0])), (q31, .inr (6, [.int 0, .int 0, .int 0, .int 0, .int 0])), (q42, .inr (6, [.int 0, .int 0, .int 0, .int 0, .int 0]))] := hD
  refine va_put (D := D) (ci := 4) (v := .ref (q42)) (ty := .object "DelayMachine$Window") (C := R_Mc) (T := T_Mc) (N := 14) hx hb hts i_Mc t_Mc o_Mc n_Mc hown hK hP hD hS 0 rfl rfl 5 (by decide) (hts _ tw_138) (fun _ h9 => h9) rfl (by decide +kernel) rfl rfl (Nat.le_of_ble_eq_true rfl) d_Mc_init_49 (fun H locs hP hD hS => ?_)
  have hP : va_P D gCl [(h0, .inr (4, [.ref (a1), .ref (a2), .ref (a3), .ref (q20), .ref (q31), .ref (q42), .int 0, .int 0, .int 0, .int 0, .int 0, .int 0, .int 0, .int 0])), (q20, .inr (5, [.int 0, .int 0, .int 0])), (q31, .inr (6, [.int 0, .int 0, .int 0, .int 0, .int 0])), (q42, .inr (6, [.int 0, .int 0, .int 0, .int 0, .int 0]))] H := hP
  have hD : va_D A [(h0, .inr (4, [.ref (a1), .ref (a2), .ref (a3), .ref (q20), .ref (q31), .ref (q42), .int 0, .int 0, .int 0, .int 0, .int 0, .int 0, .int 0, .int 0])), (q20, .inr (5, [.int 0, .int 0, .int 0])), (q31, .inr (6, [.int 0, .int 0, .int 0, .int 0, .int 0])), (q42, .inr (6, [.int 0, .int 0, .int 0, .int 0, .int 0]))] := hD
  refine lv_aload_n hx hb d_Mc_init_52 rfl (lv_at hl 0 rfl) ?_
  refine lv_iconst (v := (-1)) hx hb d_Mc_init_53 (by decide) ?_
  refine va_put (D := D) (ci := 4) (v := .int (-1 : Int32)) (ty := .int) (C := R_Mc) (T := T_Mc) (N := 14) hx hb hts i_Mc t_Mc o_Mc n_Mc hown hK hP hD hS 0 rfl rfl 11 (by decide) (hts _ tw_147) (fun _ h9 => h9) rfl (by decide +kernel) rfl rfl (Nat.le_of_ble_eq_true rfl) d_Mc_init_54 (fun H locs hP hD hS => ?_)
  have hP : va_P D gCl [(h0, .inr (4, [.ref (a1), .ref (a2), .ref (a3), .ref (q20), .ref (q31), .ref (q42), .int 0, .int 0, .int 0, .int 0, .int 0, .int (-1 : Int32), .int 0, .int 0])), (q20, .inr (5, [.int 0, .int 0, .int 0])), (q31, .inr (6, [.int 0, .int 0, .int 0, .int 0, .int 0])), (q42, .inr (6, [.int 0, .int 0, .int 0, .int 0, .int 0]))] H := hP
  have hD : va_D A [(h0, .inr (4, [.ref (a1), .ref (a2), .ref (a3), .ref (q20), .ref (q31), .ref (q42), .int 0, .int 0, .int 0, .int 0, .int 0, .int (-1 : Int32), .int 0, .int 0])), (q20, .inr (5, [.int 0, .int 0, .int 0])), (q31, .inr (6, [.int 0, .int 0, .int 0, .int 0, .int 0])), (q42, .inr (6, [.int 0, .int 0, .int 0, .int 0, .int 0]))] := hD
  refine lv_aload_n hx hb d_Mc_init_57 rfl (lv_at hl 0 rfl) ?_
  refine lv_iconst (v := (-1)) hx hb d_Mc_init_58 (by decide) ?_
  refine va_put (D := D) (ci := 4) (v := .int (-1 : Int32)) (ty := .int) (C := R_Mc) (T := T_Mc) (N := 14) hx hb hts i_Mc t_Mc o_Mc n_Mc hown hK hP hD hS 0 rfl rfl 12 (by decide) (hts _ tw_149) (fun _ h9 => h9) rfl (by decide +kernel) rfl rfl (Nat.le_of_ble_eq_true rfl) d_Mc_init_59 (fun H locs hP hD hS => ?_)
  have hP : va_P D gCl [(h0, .inr (4, [.ref (a1), .ref (a2), .ref (a3), .ref (q20), .ref (q31), .ref (q42), .int 0, .int 0, .int 0, .int 0, .int 0, .int (-1 : Int32), .int (-1 : Int32), .int 0])), (q20, .inr (5, [.int 0, .int 0, .int 0])), (q31, .inr (6, [.int 0, .int 0, .int 0, .int 0, .int 0])), (q42, .inr (6, [.int 0, .int 0, .int 0, .int 0, .int 0]))] H := hP
  have hD : va_D A [(h0, .inr (4, [.ref (a1), .ref (a2), .ref (a3), .ref (q20), .ref (q31), .ref (q42), .int 0, .int 0, .int 0, .int 0, .int 0, .int (-1 : Int32), .int (-1 : Int32), .int 0])), (q20, .inr (5, [.int 0, .int 0, .int 0])), (q31, .inr (6, [.int 0, .int 0, .int 0, .int 0, .int 0])), (q42, .inr (6, [.int 0, .int 0, .int 0, .int 0, .int 0]))] := hD
  have hP : va_P D gCl (kW_Mc cI cS cZ h0 a1 a2 a3 (fun k => ([h0, q20, q31, q42] : List Nat).getD k 0)) H := hP
  have hD : va_D A (kW_Mc cI cS cZ h0 a1 a2 a3 (fun k => ([h0, q20, q31, q42] : List Nat).getD k 0)) := hD
  exact hret H locs 62 ls (fun k => ([h0, q20, q31, q42] : List Nat).getD k 0) d_Mc_init_62 hP hD hS rfl

def xS0 : Nat → Int32 := (va_up (va_up (fun _ => (0 : Int32)) 12 (-1 : Int32)) 13 (-1 : Int32))
def xA0 : Nat → Nat → Int32 := (va_up (va_up (va_up (va_up (fun _ _ => (0 : Int32)) 21 (gfill 16 (-1 : Int32) (fun _ => 0))) 22 (gfill 12 (-1 : Int32) (fun _ => 0))) 27 (gfill 16 (-1 : Int32) (fun _ => 0))) 28 (gfill 12 (-1 : Int32) (fun _ => 0)))
abbrev rm_Dm_init : Room := { frames := 3, cells := 29, slots := 698, locals := 55 }
set_option maxHeartbeats 4000000 in
set_option maxRecDepth 100000 in
theorem k_Dm (l : Launch) (D : va_G) (cI cS cZ : ClassId) (h0 : Nat) : gK l y_Dm_init b_Dm_init 1 rm_Dm_init D (gT cI cS cZ) [.ref (h0)] [(h0, .inr (0, [.null, .null, .null, .null, .null, .null, .null]))] (fun u : Nat → Nat => xW cI cS cZ u (u 10) (u 11) (fun k => u (18 + k)) (fun k => u (24 + k)) xS0 xA0) (fun u => u 0 = h0) 29 698 := by
  refine gK.of (by decide) (Nat.le_of_ble_eq_true rfl) ?_
  intro p e s m below meth c Q A hx hb hml hown hts hK hN hA hS hP hD hin hret ls hl
  have hl : lv_has ls 1 [(0, .ref (h0))] := hl
  obtain ⟨H, hH⟩ : ∃ H, H = s.heap := ⟨_, rfl⟩
  obtain ⟨locs, hlocs⟩ : ∃ locs : List Loc, locs = [] := ⟨_, rfl⟩
  have hP : va_P D gCl [(h0, .inr (0, [.null, .null, .null, .null, .null, .null, .null]))] H := by rw [hH]; exact hP
  have hS : va_S A s.heap H locs := by rw [hH, hlocs]; exact hS
  suffices K : W p l e rm_Dm_init s m ([.ref (h0)] : List Value).toArray below meth c H locs 0 0 Q (F0 m 0 ls []) by rw [hH, hlocs] at K; exact K
  clear hH hlocs
  refine lv_aload_n hx hb d_Dm_init_0 rfl (lv_at hl 0 rfl) ?_
  refine W.objInit hx hb hown (hts _ tw_18) (hts _ tw_19) (hts _ tw_20) rfl (by rw [hml]; exact hl.1) rfl d_Dm_init_1 (Nat.le_of_ble_eq_true rfl) (Nat.le_of_ble_eq_true rfl) ?_
  refine W.eq (g2 := F0 m 4 ls []) rfl ?_
  refine lv_aload_n hx hb d_Dm_init_4 rfl (lv_at hl 0 rfl) ?_
  refine va_new (ci := 1) (fs := [.null, .null]) (C := R_St) (T := T_St) (N := 2) hx hb hts i_St t_St o_St hown (hts _ tw_21) (hts _ tw_22) (hts _ tw_2) hK hP hD hS hA rfl (fun j hj => by rcases (show j = 0 ∨ j = 1 by omega) with rfl | rfl <;> rfl) (Nat.le_of_ble_eq_true rfl) (Nat.le_of_ble_eq_true rfl) d_Dm_init_5 (fun q5 H hP hD hS => ?_)
  have hP : va_P D gCl [(h0, .inr (0, [.null, .null, .null, .null, .null, .null, .null])), (q5, .inr (1, [.null, .null]))] H := hP
  have hD : va_D A [(h0, .inr (0, [.null, .null, .null, .null, .null, .null, .null])), (q5, .inr (1, [.null, .null]))] := hD
  refine lv_dup hx hb d_Dm_init_8 rfl ?_
  refine gCallK (wr := [(h0, .inr (0, [.null, .null, .null, .null, .null, .null, .null]))]) (w0 := [(q5, .inr (1, [.null, .null]))]) (b := q5) (As := []) (rest := [.ref (q5), .ref (h0)]) (k_St l D cI cS cZ q5) hx hb hml hown hts hK hN hA hS hP hD (cwI 0 hts (gGI tw_25) rfl rfl rfl (hts _ tw_2) (hts _ tw_23) (hts _ tw_24) rfl (by decide +kernel) ⟨Nat.le_of_ble_eq_true rfl, Nat.le_of_ble_eq_true rfl⟩) rfl hl.1 rfl (Nat.le_of_ble_eq_true rfl) d_Dm_init_9 ⟨(Nat.le_of_ble_eq_true rfl), (Nat.le_of_ble_eq_true rfl)⟩ (fun u9 H locs hu9 hP hD hS => ?_)
  have hP : va_P D gCl [(h0, .inr (0, [.null, .null, .null, .null, .null, .null, .null])), (q5, .inr (1, [.ref (u9 1), .ref (u9 2)])), (u9 1, .inl (cI, 64, .inl (fun _ => 0))), (u9 2, .inl (cS, 132, .inl (fun _ => 0)))] H := hP
  have hD : va_D A [(h0, .inr (0, [.null, .null, .null, .null, .null, .null, .null])), (q5, .inr (1, [.ref (u9 1), .ref (u9 2)])), (u9 1, .inl (cI, 64, .inl (fun _ => 0))), (u9 2, .inl (cS, 132, .inl (fun _ => 0)))] := hD
  refine va_putF (D := D) (ci := 0) (v := .ref (q5)) (ty := .object "DelayMachine$Store") (C := R_Dm) (T := T_Dm) (N := 7) hx hb hts i_Dm t_Dm o_Dm n_Dm hown hK hP hD hS 0 rfl rfl 0 (by decide) (hts _ tw_255) (fun _ h9 => h9) rfl hin rfl (by decide +kernel) rfl rfl (Nat.le_of_ble_eq_true rfl) d_Dm_init_12 (fun H locs hP hD hS => ?_)
  have hP : va_P D gCl [(h0, .inr (0, [.ref (q5), .null, .null, .null, .null, .null, .null])), (q5, .inr (1, [.ref (u9 1), .ref (u9 2)])), (u9 1, .inl (cI, 64, .inl (fun _ => 0))), (u9 2, .inl (cS, 132, .inl (fun _ => 0)))] H := hP
  have hD : va_D A [(h0, .inr (0, [.ref (q5), .null, .null, .null, .null, .null, .null])), (q5, .inr (1, [.ref (u9 1), .ref (u9 2)])), (u9 1, .inl (cI, 64, .inl (fun _ => 0))), (u9 2, .inl (cS, 132, .inl (fun _ => 0)))] := hD
  refine lv_aload_n hx hb d_Dm_init_15 rfl (lv_at hl 0 rfl) ?_
  refine va_new (ci := 2) (fs := [.null, .int 0, .int 0, .int 0, .int 0, .int 0]) (C := R_Rd) (T := T_Rd) (N := 6) hx hb hts i_Rd t_Rd o_Rd hown (hts _ tw_41) (hts _ tw_42) (hts _ tw_3) hK hP hD hS hA rfl (fun j hj => by rcases (show j = 0 ∨ j = 1 ∨ j = 2 ∨ j = 3 ∨ j = 4 ∨ j = 5 by omega) with rfl | rfl | rfl | rfl | rfl | rfl <;> rfl) (Nat.le_of_ble_eq_true rfl) (Nat.le_of_ble_eq_true rfl) d_Dm_init_16 (fun q16 H hP hD hS => ?_)
  have hP : va_P D gCl [(h0, .inr (0, [.ref (q5), .null, .null, .null, .null, .null, .null])), (q5, .inr (1, [.ref (u9 1), .ref (u9 2)])), (u9 1, .inl (cI, 64, .inl (fun _ => 0))), (u9 2, .inl (cS, 132, .inl (fun _ => 0))), (q16, .inr (2, [.null, .int 0, .int 0, .int 0, .int 0, .int 0]))] H := hP
  have hD : va_D A [(h0, .inr (0, [.ref (q5), .null, .null, .null, .null, .null, .null])), (q5, .inr (1, [.ref (u9 1), .ref (u9 2)])), (u9 1, .inl (cI, 64, .inl (fun _ => 0))), (u9 2, .inl (cS, 132, .inl (fun _ => 0))), (q16, .inr (2, [.null, .int 0, .int 0, .int 0, .int 0, .int 0]))] := hD
  refine lv_dup hx hb d_Dm_init_19 rfl ?_
  refine gCallK (wr := [(h0, .inr (0, [.ref (q5), .null, .null, .null, .null, .null, .null])), (q5, .inr (1, [.ref (u9 1), .ref (u9 2)])), (u9 1, .inl (cI, 64, .inl (fun _ => 0))), (u9 2, .inl (cS, 132, .inl (fun _ => 0)))]) (w0 := [(q16, .inr (2, [.null, .int 0, .int 0, .int 0, .int 0, .int 0]))]) (b := q16) (As := []) (rest := [.ref (q16), .ref (h0)]) (k_Rd l D cI cS cZ q16) hx hb hml hown hts hK hN hA hS hP hD (cwI 0 hts (gGI tw_45) rfl rfl rfl (hts _ tw_3) (hts _ tw_43) (hts _ tw_44) rfl (by decide +kernel) ⟨Nat.le_of_ble_eq_true rfl, Nat.le_of_ble_eq_true rfl⟩) rfl hl.1 rfl (Nat.le_of_ble_eq_true rfl) d_Dm_init_20 ⟨(Nat.le_of_ble_eq_true rfl), (Nat.le_of_ble_eq_true rfl)⟩ (fun u20 H locs hu20 hP hD hS => ?_)
  have hP : va_P D gCl [(h0, .inr (0, [.ref (q5), .null, .null, .null, .null, .null, .null])), (q5, .inr (1, [.ref (u9 1), .ref (u9 2)])), (u9 1, .inl (cI, 64, .inl (fun _ => 0))), (u9 2, .inl (cS, 132, .inl (fun _ => 0))), (q16, .inr (2, [.ref (u20 1), .int 0, .int 0, .int 0, .int 0, .int 0])), (u20 1, .inl (cS, 48, .inl (fun _ => 0)))] H := hP
  have hD : va_D A [(h0, .inr (0, [.ref (q5), .null, .null, .null, .null, .null, .null])), (q5, .inr (1, [.ref (u9 1), .ref (u9 2)])), (u9 1, .inl (cI, 64, .inl (fun _ => 0))), (u9 2, .inl (cS, 132, .inl (fun _ => 0))), (q16, .inr (2, [.ref (u20 1), .int 0, .int 0, .int 0, .int 0, .int 0])), (u20 1, .inl (cS, 48, .inl (fun _ => 0)))] := hD
  refine va_putF (D := D) (ci := 0) (v := .ref (q16)) (ty := .object "DelayMachine$Reader") (C := R_Dm) (T := T_Dm) (N := 7) hx hb hts i_Dm t_Dm o_Dm n_Dm hown hK hP hD hS 0 rfl rfl 1 (by decide) (hts _ tw_256) (fun _ h9 => h9) rfl hin rfl (by decide +kernel) rfl rfl (Nat.le_of_ble_eq_true rfl) d_Dm_init_23 (fun H locs hP hD hS => ?_)
  have hP : va_P D gCl [(h0, .inr (0, [.ref (q5), .ref (q16), .null, .null, .null, .null, .null])), (q5, .inr (1, [.ref (u9 1), .ref (u9 2)])), (u9 1, .inl (cI, 64, .inl (fun _ => 0))), (u9 2, .inl (cS, 132, .inl (fun _ => 0))), (q16, .inr (2, [.ref (u20 1), .int 0, .int 0, .int 0, .int 0, .int 0])), (u20 1, .inl (cS, 48, .inl (fun _ => 0)))] H := hP
  have hD : va_D A [(h0, .inr (0, [.ref (q5), .ref (q16), .null, .null, .null, .null, .null])), (q5, .inr (1, [.ref (u9 1), .ref (u9 2)])), (u9 1, .inl (cI, 64, .inl (fun _ => 0))), (u9 2, .inl (cS, 132, .inl (fun _ => 0))), (q16, .inr (2, [.ref (u20 1), .int 0, .int 0, .int 0, .int 0, .int 0])), (u20 1, .inl (cS, 48, .inl (fun _ => 0)))] := hD
  refine lv_aload_n hx hb d_Dm_init_26 rfl (lv_at hl 0 rfl) ?_
  refine va_new (ci := 3) (fs := [.null, .int 0, .int 0]) (C := R_Pu) (T := T_Pu) (N := 3) hx hb hts i_Pu t_Pu o_Pu hown (hts _ tw_66) (hts _ tw_67) (hts _ tw_4) hK hP hD hS hA rfl (fun j hj => by rcases (show j = 0 ∨ j = 1 ∨ j = 2 by omega) with rfl | rfl | rfl <;> rfl) (Nat.le_of_ble_eq_true rfl) (Nat.le_of_ble_eq_true rfl) d_Dm_init_27 (fun q27 H hP hD hS => ?_)
  have hP : va_P D gCl [(h0, .inr (0, [.ref (q5), .ref (q16), .null, .null, .null, .null, .null])), (q5, .inr (1, [.ref (u9 1), .ref (u9 2)])), (u9 1, .inl (cI, 64, .inl (fun _ => 0))), (u9 2, .inl (cS, 132, .inl (fun _ => 0))), (q16, .inr (2, [.ref (u20 1), .int 0, .int 0, .int 0, .int 0, .int 0])), (u20 1, .inl (cS, 48, .inl (fun _ => 0))), (q27, .inr (3, [.null, .int 0, .int 0]))] H := hP
  have hD : va_D A [(h0, .inr (0, [.ref (q5), .ref (q16), .null, .null, .null, .null, .null])), (q5, .inr (1, [.ref (u9 1), .ref (u9 2)])), (u9 1, .inl (cI, 64, .inl (fun _ => 0))), (u9 2, .inl (cS, 132, .inl (fun _ => 0))), (q16, .inr (2, [.ref (u20 1), .int 0, .int 0, .int 0, .int 0, .int 0])), (u20 1, .inl (cS, 48, .inl (fun _ => 0))), (q27, .inr (3, [.null, .int 0, .int 0]))] := hD
  refine lv_dup hx hb d_Dm_init_30 rfl ?_
  refine gCallK (wr := [(h0, .inr (0, [.ref (q5), .ref (q16), .null, .null, .null, .null, .null])), (q5, .inr (1, [.ref (u9 1), .ref (u9 2)])), (u9 1, .inl (cI, 64, .inl (fun _ => 0))), (u9 2, .inl (cS, 132, .inl (fun _ => 0))), (q16, .inr (2, [.ref (u20 1), .int 0, .int 0, .int 0, .int 0, .int 0])), (u20 1, .inl (cS, 48, .inl (fun _ => 0)))]) (w0 := [(q27, .inr (3, [.null, .int 0, .int 0]))]) (b := q27) (As := []) (rest := [.ref (q27), .ref (h0)]) (k_Pu l D cI cS cZ q27) hx hb hml hown hts hK hN hA hS hP hD (cwI 0 hts (gGI tw_70) rfl rfl rfl (hts _ tw_4) (hts _ tw_68) (hts _ tw_69) rfl (by decide +kernel) ⟨Nat.le_of_ble_eq_true rfl, Nat.le_of_ble_eq_true rfl⟩) rfl hl.1 rfl (Nat.le_of_ble_eq_true rfl) d_Dm_init_31 ⟨(Nat.le_of_ble_eq_true rfl), (Nat.le_of_ble_eq_true rfl)⟩ (fun u31 H locs hu31 hP hD hS => ?_)
  have hP : va_P D gCl [(h0, .inr (0, [.ref (q5), .ref (q16), .null, .null, .null, .null, .null])), (q5, .inr (1, [.ref (u9 1), .ref (u9 2)])), (u9 1, .inl (cI, 64, .inl (fun _ => 0))), (u9 2, .inl (cS, 132, .inl (fun _ => 0))), (q16, .inr (2, [.ref (u20 1), .int 0, .int 0, .int 0, .int 0, .int 0])), (u20 1, .inl (cS, 48, .inl (fun _ => 0))), (q27, .inr (3, [.ref (u31 1), .int 0, .int 0])), (u31 1, .inl (cS, 60, .inl (fun _ => 0)))] H := hP
  have hD : va_D A [(h0, .inr (0, [.ref (q5), .ref (q16), .null, .null, .null, .null, .null])), (q5, .inr (1, [.ref (u9 1), .ref (u9 2)])), (u9 1, .inl (cI, 64, .inl (fun _ => 0))), (u9 2, .inl (cS, 132, .inl (fun _ => 0))), (q16, .inr (2, [.ref (u20 1), .int 0, .int 0, .int 0, .int 0, .int 0])), (u20 1, .inl (cS, 48, .inl (fun _ => 0))), (q27, .inr (3, [.ref (u31 1), .int 0, .int 0])), (u31 1, .inl (cS, 60, .inl (fun _ => 0)))] := hD
  refine va_putF (D := D) (ci := 0) (v := .ref (q27)) (ty := .object "DelayMachine$Punch") (C := R_Dm) (T := T_Dm) (N := 7) hx hb hts i_Dm t_Dm o_Dm n_Dm hown hK hP hD hS 0 rfl rfl 2 (by decide) (hts _ tw_257) (fun _ h9 => h9) rfl hin rfl (by decide +kernel) rfl rfl (Nat.le_of_ble_eq_true rfl) d_Dm_init_34 (fun H locs hP hD hS => ?_)
  have hP : va_P D gCl [(h0, .inr (0, [.ref (q5), .ref (q16), .ref (q27), .null, .null, .null, .null])), (q5, .inr (1, [.ref (u9 1), .ref (u9 2)])), (u9 1, .inl (cI, 64, .inl (fun _ => 0))), (u9 2, .inl (cS, 132, .inl (fun _ => 0))), (q16, .inr (2, [.ref (u20 1), .int 0, .int 0, .int 0, .int 0, .int 0])), (u20 1, .inl (cS, 48, .inl (fun _ => 0))), (q27, .inr (3, [.ref (u31 1), .int 0, .int 0])), (u31 1, .inl (cS, 60, .inl (fun _ => 0)))] H := hP
  have hD : va_D A [(h0, .inr (0, [.ref (q5), .ref (q16), .ref (q27), .null, .null, .null, .null])), (q5, .inr (1, [.ref (u9 1), .ref (u9 2)])), (u9 1, .inl (cI, 64, .inl (fun _ => 0))), (u9 2, .inl (cS, 132, .inl (fun _ => 0))), (q16, .inr (2, [.ref (u20 1), .int 0, .int 0, .int 0, .int 0, .int 0])), (u20 1, .inl (cS, 48, .inl (fun _ => 0))), (q27, .inr (3, [.ref (u31 1), .int 0, .int 0])), (u31 1, .inl (cS, 60, .inl (fun _ => 0)))] := hD
  refine lv_aload_n hx hb d_Dm_init_37 rfl (lv_at hl 0 rfl) ?_
  refine va_new (ci := 4) (fs := [.null, .null, .null, .null, .null, .null, .int 0, .int 0, .int 0, .int 0, .int 0, .int 0, .int 0, .int 0]) (C := R_Mc) (T := T_Mc) (N := 14) hx hb hts i_Mc t_Mc o_Mc hown (hts _ tw_84) (hts _ tw_85) (hts _ tw_5) hK hP hD hS hA rfl (fun j hj => by rcases (show j = 0 ∨ j = 1 ∨ j = 2 ∨ j = 3 ∨ j = 4 ∨ j = 5 ∨ j = 6 ∨ j = 7 ∨ j = 8 ∨ j = 9 ∨ j = 10 ∨ j = 11 ∨ j = 12 ∨ j = 13 by omega) with rfl | rfl | rfl | rfl | rfl | rfl | rfl | rfl | rfl | rfl | rfl | rfl | rfl | rfl <;> rfl) (Nat.le_of_ble_eq_true rfl) (Nat.le_of_ble_eq_true rfl) d_Dm_init_38 (fun q38 H hP hD hS => ?_)
  have hP : va_P D gCl [(h0, .inr (0, [.ref (q5), .ref (q16), .ref (q27), .null, .null, .null, .null])), (q5, .inr (1, [.ref (u9 1), .ref (u9 2)])), (u9 1, .inl (cI, 64, .inl (fun _ => 0))), (u9 2, .inl (cS, 132, .inl (fun _ => 0))), (q16, .inr (2, [.ref (u20 1), .int 0, .int 0, .int 0, .int 0, .int 0])), (u20 1, .inl (cS, 48, .inl (fun _ => 0))), (q27, .inr (3, [.ref (u31 1), .int 0, .int 0])), (u31 1, .inl (cS, 60, .inl (fun _ => 0))), (q38, .inr (4, [.null, .null, .null, .null, .null, .null, .int 0, .int 0, .int 0, .int 0, .int 0, .int 0, .int 0, .int 0]))] H := hP
  have hD : va_D A [(h0, .inr (0, [.ref (q5), .ref (q16), .ref (q27), .null, .null, .null, .null])), (q5, .inr (1, [.ref (u9 1), .ref (u9 2)])), (u9 1, .inl (cI, 64, .inl (fun _ => 0))), (u9 2, .inl (cS, 132, .inl (fun _ => 0))), (q16, .inr (2, [.ref (u20 1), .int 0, .int 0, .int 0, .int 0, .int 0])), (u20 1, .inl (cS, 48, .inl (fun _ => 0))), (q27, .inr (3, [.ref (u31 1), .int 0, .int 0])), (u31 1, .inl (cS, 60, .inl (fun _ => 0))), (q38, .inr (4, [.null, .null, .null, .null, .null, .null, .int 0, .int 0, .int 0, .int 0, .int 0, .int 0, .int 0, .int 0]))] := hD
  refine lv_dup hx hb d_Dm_init_41 rfl ?_
  refine lv_aload_n hx hb d_Dm_init_42 rfl (lv_at hl 0 rfl) ?_
  refine va_get (D := D) (ci := 0) (v := .ref (q5)) (C := R_Dm) (T := T_Dm) (N := 7) hx hb hts i_Dm hown hK hP 0 rfl rfl 0 (by decide) (hts _ tw_255) (fun _ h9 => h9) rfl d_Dm_init_43 ?_
  refine lv_aload_n hx hb d_Dm_init_46 rfl (lv_at hl 0 rfl) ?_
  refine va_get (D := D) (ci := 0) (v := .ref (q16)) (C := R_Dm) (T := T_Dm) (N := 7) hx hb hts i_Dm hown hK hP 0 rfl rfl 1 (by decide) (hts _ tw_256) (fun _ h9 => h9) rfl d_Dm_init_47 ?_
  refine lv_aload_n hx hb d_Dm_init_50 rfl (lv_at hl 0 rfl) ?_
  refine va_get (D := D) (ci := 0) (v := .ref (q27)) (C := R_Dm) (T := T_Dm) (N := 7) hx hb hts i_Dm hown hK hP 0 rfl rfl 2 (by decide) (hts _ tw_257) (fun _ h9 => h9) rfl d_Dm_init_51 ?_
  refine gCallK (wr := [(h0, .inr (0, [.ref (q5), .ref (q16), .ref (q27), .null, .null, .null, .null])), (q5, .inr (1, [.ref (u9 1), .ref (u9 2)])), (u9 1, .inl (cI, 64, .inl (fun _ => 0))), (u9 2, .inl (cS, 132, .inl (fun _ => 0))), (q16, .inr (2, [.ref (u20 1), .int 0, .int 0, .int 0, .int 0, .int 0])), (u20 1, .inl (cS, 48, .inl (fun _ => 0))), (q27, .inr (3, [.ref (u31 1), .int 0, .int 0])), (u31 1, .inl (cS, 60, .inl (fun _ => 0)))]) (w0 := [(q38, .inr (4, [.null, .null, .null, .null, .null, .null, .int 0, .int 0, .int 0, .int 0, .int 0, .int 0, .int 0, .int 0]))]) (b := q38) (As := [.ref (q5), .ref (q16), .ref (q27)]) (rest := [.ref (q38), .ref (h0)]) (k_Mc l D cI cS cZ q38 q5 q16 q27) hx hb hml hown hts hK hN hA hS hP hD (cwI 3 hts (gGI tw_88) rfl rfl rfl (hts _ tw_5) (hts _ tw_86) (hts _ tw_87) rfl (by decide +kernel) ⟨Nat.le_of_ble_eq_true rfl, Nat.le_of_ble_eq_true rfl⟩) rfl hl.1 rfl (Nat.le_of_ble_eq_true rfl) d_Dm_init_54 ⟨(Nat.le_of_ble_eq_true rfl), (Nat.le_of_ble_eq_true rfl)⟩ (fun u54 H locs hu54 hP hD hS => ?_)
  have hP : va_P D gCl [(h0, .inr (0, [.ref (q5), .ref (q16), .ref (q27), .null, .null, .null, .null])), (q5, .inr (1, [.ref (u9 1), .ref (u9 2)])), (u9 1, .inl (cI, 64, .inl (fun _ => 0))), (u9 2, .inl (cS, 132, .inl (fun _ => 0))), (q16, .inr (2, [.ref (u20 1), .int 0, .int 0, .int 0, .int 0, .int 0])), (u20 1, .inl (cS, 48, .inl (fun _ => 0))), (q27, .inr (3, [.ref (u31 1), .int 0, .int 0])), (u31 1, .inl (cS, 60, .inl (fun _ => 0))), (q38, .inr (4, [.ref (q5), .ref (q16), .ref (q27), .ref (u54 1), .ref (u54 2), .ref (u54 3), .int 0, .int 0, .int 0, .int 0, .int 0, .int (-1 : Int32), .int (-1 : Int32), .int 0])), (u54 1, .inr (5, [.int 0, .int 0, .int 0])), (u54 2, .inr (6, [.int 0, .int 0, .int 0, .int 0, .int 0])), (u54 3, .inr (6, [.int 0, .int 0, .int 0, .int 0, .int 0]))] H := hP
  have hD : va_D A [(h0, .inr (0, [.ref (q5), .ref (q16), .ref (q27), .null, .null, .null, .null])), (q5, .inr (1, [.ref (u9 1), .ref (u9 2)])), (u9 1, .inl (cI, 64, .inl (fun _ => 0))), (u9 2, .inl (cS, 132, .inl (fun _ => 0))), (q16, .inr (2, [.ref (u20 1), .int 0, .int 0, .int 0, .int 0, .int 0])), (u20 1, .inl (cS, 48, .inl (fun _ => 0))), (q27, .inr (3, [.ref (u31 1), .int 0, .int 0])), (u31 1, .inl (cS, 60, .inl (fun _ => 0))), (q38, .inr (4, [.ref (q5), .ref (q16), .ref (q27), .ref (u54 1), .ref (u54 2), .ref (u54 3), .int 0, .int 0, .int 0, .int 0, .int 0, .int (-1 : Int32), .int (-1 : Int32), .int 0])), (u54 1, .inr (5, [.int 0, .int 0, .int 0])), (u54 2, .inr (6, [.int 0, .int 0, .int 0, .int 0, .int 0])), (u54 3, .inr (6, [.int 0, .int 0, .int 0, .int 0, .int 0]))] := hD
  refine va_putF (D := D) (ci := 0) (v := .ref (q38)) (ty := .object "DelayMachine$Machine") (C := R_Dm) (T := T_Dm) (N := 7) hx hb hts i_Dm t_Dm o_Dm n_Dm hown hK hP hD hS 0 rfl rfl 3 (by decide) (hts _ tw_258) (fun _ h9 => h9) rfl hin rfl (by decide +kernel) rfl rfl (Nat.le_of_ble_eq_true rfl) d_Dm_init_57 (fun H locs hP hD hS => ?_)
  have hP : va_P D gCl [(h0, .inr (0, [.ref (q5), .ref (q16), .ref (q27), .ref (q38), .null, .null, .null])), (q5, .inr (1, [.ref (u9 1), .ref (u9 2)])), (u9 1, .inl (cI, 64, .inl (fun _ => 0))), (u9 2, .inl (cS, 132, .inl (fun _ => 0))), (q16, .inr (2, [.ref (u20 1), .int 0, .int 0, .int 0, .int 0, .int 0])), (u20 1, .inl (cS, 48, .inl (fun _ => 0))), (q27, .inr (3, [.ref (u31 1), .int 0, .int 0])), (u31 1, .inl (cS, 60, .inl (fun _ => 0))), (q38, .inr (4, [.ref (q5), .ref (q16), .ref (q27), .ref (u54 1), .ref (u54 2), .ref (u54 3), .int 0, .int 0, .int 0, .int 0, .int 0, .int (-1 : Int32), .int (-1 : Int32), .int 0])), (u54 1, .inr (5, [.int 0, .int 0, .int 0])), (u54 2, .inr (6, [.int 0, .int 0, .int 0, .int 0, .int 0])), (u54 3, .inr (6, [.int 0, .int 0, .int 0, .int 0, .int 0]))] H := hP
  have hD : va_D A [(h0, .inr (0, [.ref (q5), .ref (q16), .ref (q27), .ref (q38), .null, .null, .null])), (q5, .inr (1, [.ref (u9 1), .ref (u9 2)])), (u9 1, .inl (cI, 64, .inl (fun _ => 0))), (u9 2, .inl (cS, 132, .inl (fun _ => 0))), (q16, .inr (2, [.ref (u20 1), .int 0, .int 0, .int 0, .int 0, .int 0])), (u20 1, .inl (cS, 48, .inl (fun _ => 0))), (q27, .inr (3, [.ref (u31 1), .int 0, .int 0])), (u31 1, .inl (cS, 60, .inl (fun _ => 0))), (q38, .inr (4, [.ref (q5), .ref (q16), .ref (q27), .ref (u54 1), .ref (u54 2), .ref (u54 3), .int 0, .int 0, .int 0, .int 0, .int 0, .int (-1 : Int32), .int (-1 : Int32), .int 0])), (u54 1, .inr (5, [.int 0, .int 0, .int 0])), (u54 2, .inr (6, [.int 0, .int 0, .int 0, .int 0, .int 0])), (u54 3, .inr (6, [.int 0, .int 0, .int 0, .int 0, .int 0]))] := hD
  refine lv_aload_n hx hb d_Dm_init_60 rfl (lv_at hl 0 rfl) ?_
  refine va_new (ci := 7) (fs := [.null, .null, .null, .null, .null, .int 0]) (C := R_Pr) (T := T_Pr) (N := 6) hx hb hts i_Pr t_Pr o_Pr hown (hts _ tw_182) (hts _ tw_183) (hts _ tw_8) hK hP hD hS hA rfl (fun j hj => by rcases (show j = 0 ∨ j = 1 ∨ j = 2 ∨ j = 3 ∨ j = 4 ∨ j = 5 by omega) with rfl | rfl | rfl | rfl | rfl | rfl <;> rfl) (Nat.le_of_ble_eq_true rfl) (Nat.le_of_ble_eq_true rfl) d_Dm_init_61 (fun q61 H hP hD hS => ?_)
  have hP : va_P D gCl [(h0, .inr (0, [.ref (q5), .ref (q16), .ref (q27), .ref (q38), .null, .null, .null])), (q5, .inr (1, [.ref (u9 1), .ref (u9 2)])), (u9 1, .inl (cI, 64, .inl (fun _ => 0))), (u9 2, .inl (cS, 132, .inl (fun _ => 0))), (q16, .inr (2, [.ref (u20 1), .int 0, .int 0, .int 0, .int 0, .int 0])), (u20 1, .inl (cS, 48, .inl (fun _ => 0))), (q27, .inr (3, [.ref (u31 1), .int 0, .int 0])), (u31 1, .inl (cS, 60, .inl (fun _ => 0))), (q38, .inr (4, [.ref (q5), .ref (q16), .ref (q27), .ref (u54 1), .ref (u54 2), .ref (u54 3), .int 0, .int 0, .int 0, .int 0, .int 0, .int (-1 : Int32), .int (-1 : Int32), .int 0])), (u54 1, .inr (5, [.int 0, .int 0, .int 0])), (u54 2, .inr (6, [.int 0, .int 0, .int 0, .int 0, .int 0])), (u54 3, .inr (6, [.int 0, .int 0, .int 0, .int 0, .int 0])), (q61, .inr (7, [.null, .null, .null, .null, .null, .int 0]))] H := hP
  have hD : va_D A [(h0, .inr (0, [.ref (q5), .ref (q16), .ref (q27), .ref (q38), .null, .null, .null])), (q5, .inr (1, [.ref (u9 1), .ref (u9 2)])), (u9 1, .inl (cI, 64, .inl (fun _ => 0))), (u9 2, .inl (cS, 132, .inl (fun _ => 0))), (q16, .inr (2, [.ref (u20 1), .int 0, .int 0, .int 0, .int 0, .int 0])), (u20 1, .inl (cS, 48, .inl (fun _ => 0))), (q27, .inr (3, [.ref (u31 1), .int 0, .int 0])), (u31 1, .inl (cS, 60, .inl (fun _ => 0))), (q38, .inr (4, [.ref (q5), .ref (q16), .ref (q27), .ref (u54 1), .ref (u54 2), .ref (u54 3), .int 0, .int 0, .int 0, .int 0, .int 0, .int (-1 : Int32), .int (-1 : Int32), .int 0])), (u54 1, .inr (5, [.int 0, .int 0, .int 0])), (u54 2, .inr (6, [.int 0, .int 0, .int 0, .int 0, .int 0])), (u54 3, .inr (6, [.int 0, .int 0, .int 0, .int 0, .int 0])), (q61, .inr (7, [.null, .null, .null, .null, .null, .int 0]))] := hD
  refine lv_dup hx hb d_Dm_init_64 rfl ?_
  refine gCallK (wr := [(h0, .inr (0, [.ref (q5), .ref (q16), .ref (q27), .ref (q38), .null, .null, .null])), (q5, .inr (1, [.ref (u9 1), .ref (u9 2)])), (u9 1, .inl (cI, 64, .inl (fun _ => 0))), (u9 2, .inl (cS, 132, .inl (fun _ => 0))), (q16, .inr (2, [.ref (u20 1), .int 0, .int 0, .int 0, .int 0, .int 0])), (u20 1, .inl (cS, 48, .inl (fun _ => 0))), (q27, .inr (3, [.ref (u31 1), .int 0, .int 0])), (u31 1, .inl (cS, 60, .inl (fun _ => 0))), (q38, .inr (4, [.ref (q5), .ref (q16), .ref (q27), .ref (u54 1), .ref (u54 2), .ref (u54 3), .int 0, .int 0, .int 0, .int 0, .int 0, .int (-1 : Int32), .int (-1 : Int32), .int 0])), (u54 1, .inr (5, [.int 0, .int 0, .int 0])), (u54 2, .inr (6, [.int 0, .int 0, .int 0, .int 0, .int 0])), (u54 3, .inr (6, [.int 0, .int 0, .int 0, .int 0, .int 0]))]) (w0 := [(q61, .inr (7, [.null, .null, .null, .null, .null, .int 0]))]) (b := q61) (As := []) (rest := [.ref (q61), .ref (h0)]) (k_Pr l D cI cS cZ q61) hx hb hml hown hts hK hN hA hS hP hD (cwI 0 hts (gGI tw_186) rfl rfl rfl (hts _ tw_8) (hts _ tw_184) (hts _ tw_185) rfl (by decide +kernel) ⟨Nat.le_of_ble_eq_true rfl, Nat.le_of_ble_eq_true rfl⟩) rfl hl.1 rfl (Nat.le_of_ble_eq_true rfl) d_Dm_init_65 ⟨(Nat.le_of_ble_eq_true rfl), (Nat.le_of_ble_eq_true rfl)⟩ (fun u65 H locs hu65 hP hD hS => ?_)
  have hP : va_P D gCl [(h0, .inr (0, [.ref (q5), .ref (q16), .ref (q27), .ref (q38), .null, .null, .null])), (q5, .inr (1, [.ref (u9 1), .ref (u9 2)])), (u9 1, .inl (cI, 64, .inl (fun _ => 0))), (u9 2, .inl (cS, 132, .inl (fun _ => 0))), (q16, .inr (2, [.ref (u20 1), .int 0, .int 0, .int 0, .int 0, .int 0])), (u20 1, .inl (cS, 48, .inl (fun _ => 0))), (q27, .inr (3, [.ref (u31 1), .int 0, .int 0])), (u31 1, .inl (cS, 60, .inl (fun _ => 0))), (q38, .inr (4, [.ref (q5), .ref (q16), .ref (q27), .ref (u54 1), .ref (u54 2), .ref (u54 3), .int 0, .int 0, .int 0, .int 0, .int 0, .int (-1 : Int32), .int (-1 : Int32), .int 0])), (u54 1, .inr (5, [.int 0, .int 0, .int 0])), (u54 2, .inr (6, [.int 0, .int 0, .int 0, .int 0, .int 0])), (u54 3, .inr (6, [.int 0, .int 0, .int 0, .int 0, .int 0])), (q61, .inr (7, [.ref (u65 1), .ref (u65 2), .ref (u65 3), .ref (u65 4), .ref (u65 5), .int 0])), (u65 1, .inl (cI, 12, .inl (fun _ => 0))), (u65 2, .inl (cI, 12, .inl (fun _ => 0))), (u65 3, .inl (cI, 12, .inl (fun _ => 0))), (u65 4, .inl (cI, 12, .inl (fun _ => 0))), (u65 5, .inl (cI, 12, .inl (fun _ => 0)))] H := hP
  have hD : va_D A [(h0, .inr (0, [.ref (q5), .ref (q16), .ref (q27), .ref (q38), .null, .null, .null])), (q5, .inr (1, [.ref (u9 1), .ref (u9 2)])), (u9 1, .inl (cI, 64, .inl (fun _ => 0))), (u9 2, .inl (cS, 132, .inl (fun _ => 0))), (q16, .inr (2, [.ref (u20 1), .int 0, .int 0, .int 0, .int 0, .int 0])), (u20 1, .inl (cS, 48, .inl (fun _ => 0))), (q27, .inr (3, [.ref (u31 1), .int 0, .int 0])), (u31 1, .inl (cS, 60, .inl (fun _ => 0))), (q38, .inr (4, [.ref (q5), .ref (q16), .ref (q27), .ref (u54 1), .ref (u54 2), .ref (u54 3), .int 0, .int 0, .int 0, .int 0, .int 0, .int (-1 : Int32), .int (-1 : Int32), .int 0])), (u54 1, .inr (5, [.int 0, .int 0, .int 0])), (u54 2, .inr (6, [.int 0, .int 0, .int 0, .int 0, .int 0])), (u54 3, .inr (6, [.int 0, .int 0, .int 0, .int 0, .int 0])), (q61, .inr (7, [.ref (u65 1), .ref (u65 2), .ref (u65 3), .ref (u65 4), .ref (u65 5), .int 0])), (u65 1, .inl (cI, 12, .inl (fun _ => 0))), (u65 2, .inl (cI, 12, .inl (fun _ => 0))), (u65 3, .inl (cI, 12, .inl (fun _ => 0))), (u65 4, .inl (cI, 12, .inl (fun _ => 0))), (u65 5, .inl (cI, 12, .inl (fun _ => 0)))] := hD
  refine va_putF (D := D) (ci := 0) (v := .ref (q61)) (ty := .object "DelayMachine$Program") (C := R_Dm) (T := T_Dm) (N := 7) hx hb hts i_Dm t_Dm o_Dm n_Dm hown hK hP hD hS 0 rfl rfl 4 (by decide) (hts _ tw_259) (fun _ h9 => h9) rfl hin rfl (by decide +kernel) rfl rfl (Nat.le_of_ble_eq_true rfl) d_Dm_init_68 (fun H locs hP hD hS => ?_)
  have hP : va_P D gCl [(h0, .inr (0, [.ref (q5), .ref (q16), .ref (q27), .ref (q38), .ref (q61), .null, .null])), (q5, .inr (1, [.ref (u9 1), .ref (u9 2)])), (u9 1, .inl (cI, 64, .inl (fun _ => 0))), (u9 2, .inl (cS, 132, .inl (fun _ => 0))), (q16, .inr (2, [.ref (u20 1), .int 0, .int 0, .int 0, .int 0, .int 0])), (u20 1, .inl (cS, 48, .inl (fun _ => 0))), (q27, .inr (3, [.ref (u31 1), .int 0, .int 0])), (u31 1, .inl (cS, 60, .inl (fun _ => 0))), (q38, .inr (4, [.ref (q5), .ref (q16), .ref (q27), .ref (u54 1), .ref (u54 2), .ref (u54 3), .int 0, .int 0, .int 0, .int 0, .int 0, .int (-1 : Int32), .int (-1 : Int32), .int 0])), (u54 1, .inr (5, [.int 0, .int 0, .int 0])), (u54 2, .inr (6, [.int 0, .int 0, .int 0, .int 0, .int 0])), (u54 3, .inr (6, [.int 0, .int 0, .int 0, .int 0, .int 0])), (q61, .inr (7, [.ref (u65 1), .ref (u65 2), .ref (u65 3), .ref (u65 4), .ref (u65 5), .int 0])), (u65 1, .inl (cI, 12, .inl (fun _ => 0))), (u65 2, .inl (cI, 12, .inl (fun _ => 0))), (u65 3, .inl (cI, 12, .inl (fun _ => 0))), (u65 4, .inl (cI, 12, .inl (fun _ => 0))), (u65 5, .inl (cI, 12, .inl (fun _ => 0)))] H := hP
  have hD : va_D A [(h0, .inr (0, [.ref (q5), .ref (q16), .ref (q27), .ref (q38), .ref (q61), .null, .null])), (q5, .inr (1, [.ref (u9 1), .ref (u9 2)])), (u9 1, .inl (cI, 64, .inl (fun _ => 0))), (u9 2, .inl (cS, 132, .inl (fun _ => 0))), (q16, .inr (2, [.ref (u20 1), .int 0, .int 0, .int 0, .int 0, .int 0])), (u20 1, .inl (cS, 48, .inl (fun _ => 0))), (q27, .inr (3, [.ref (u31 1), .int 0, .int 0])), (u31 1, .inl (cS, 60, .inl (fun _ => 0))), (q38, .inr (4, [.ref (q5), .ref (q16), .ref (q27), .ref (u54 1), .ref (u54 2), .ref (u54 3), .int 0, .int 0, .int 0, .int 0, .int 0, .int (-1 : Int32), .int (-1 : Int32), .int 0])), (u54 1, .inr (5, [.int 0, .int 0, .int 0])), (u54 2, .inr (6, [.int 0, .int 0, .int 0, .int 0, .int 0])), (u54 3, .inr (6, [.int 0, .int 0, .int 0, .int 0, .int 0])), (q61, .inr (7, [.ref (u65 1), .ref (u65 2), .ref (u65 3), .ref (u65 4), .ref (u65 5), .int 0])), (u65 1, .inl (cI, 12, .inl (fun _ => 0))), (u65 2, .inl (cI, 12, .inl (fun _ => 0))), (u65 3, .inl (cI, 12, .inl (fun _ => 0))), (u65 4, .inl (cI, 12, .inl (fun _ => 0))), (u65 5, .inl (cI, 12, .inl (fun _ => 0)))] := hD
  refine lv_aload_n hx hb d_Dm_init_71 rfl (lv_at hl 0 rfl) ?_
  refine va_new (ci := 8) (fs := [.null, .null, .null, .null, .null, .int 0, .int 0, .int 0, .int 0]) (C := R_Pl) (T := T_Pl) (N := 9) hx hb hts i_Pl t_Pl o_Pl hown (hts _ tw_214) (hts _ tw_215) (hts _ tw_9) hK hP hD hS hA rfl (fun j hj => by rcases (show j = 0 ∨ j = 1 ∨ j = 2 ∨ j = 3 ∨ j = 4 ∨ j = 5 ∨ j = 6 ∨ j = 7 ∨ j = 8 by omega) with rfl | rfl | rfl | rfl | rfl | rfl | rfl | rfl | rfl <;> rfl) (Nat.le_of_ble_eq_true rfl) (Nat.le_of_ble_eq_true rfl) d_Dm_init_72 (fun q72 H hP hD hS => ?_)
  have hP : va_P D gCl [(h0, .inr (0, [.ref (q5), .ref (q16), .ref (q27), .ref (q38), .ref (q61), .null, .null])), (q5, .inr (1, [.ref (u9 1), .ref (u9 2)])), (u9 1, .inl (cI, 64, .inl (fun _ => 0))), (u9 2, .inl (cS, 132, .inl (fun _ => 0))), (q16, .inr (2, [.ref (u20 1), .int 0, .int 0, .int 0, .int 0, .int 0])), (u20 1, .inl (cS, 48, .inl (fun _ => 0))), (q27, .inr (3, [.ref (u31 1), .int 0, .int 0])), (u31 1, .inl (cS, 60, .inl (fun _ => 0))), (q38, .inr (4, [.ref (q5), .ref (q16), .ref (q27), .ref (u54 1), .ref (u54 2), .ref (u54 3), .int 0, .int 0, .int 0, .int 0, .int 0, .int (-1 : Int32), .int (-1 : Int32), .int 0])), (u54 1, .inr (5, [.int 0, .int 0, .int 0])), (u54 2, .inr (6, [.int 0, .int 0, .int 0, .int 0, .int 0])), (u54 3, .inr (6, [.int 0, .int 0, .int 0, .int 0, .int 0])), (q61, .inr (7, [.ref (u65 1), .ref (u65 2), .ref (u65 3), .ref (u65 4), .ref (u65 5), .int 0])), (u65 1, .inl (cI, 12, .inl (fun _ => 0))), (u65 2, .inl (cI, 12, .inl (fun _ => 0))), (u65 3, .inl (cI, 12, .inl (fun _ => 0))), (u65 4, .inl (cI, 12, .inl (fun _ => 0))), (u65 5, .inl (cI, 12, .inl (fun _ => 0))), (q72, .inr (8, [.null, .null, .null, .null, .null, .int 0, .int 0, .int 0, .int 0]))] H := hP
  have hD : va_D A [(h0, .inr (0, [.ref (q5), .ref (q16), .ref (q27), .ref (q38), .ref (q61), .null, .null])), (q5, .inr (1, [.ref (u9 1), .ref (u9 2)])), (u9 1, .inl (cI, 64, .inl (fun _ => 0))), (u9 2, .inl (cS, 132, .inl (fun _ => 0))), (q16, .inr (2, [.ref (u20 1), .int 0, .int 0, .int 0, .int 0, .int 0])), (u20 1, .inl (cS, 48, .inl (fun _ => 0))), (q27, .inr (3, [.ref (u31 1), .int 0, .int 0])), (u31 1, .inl (cS, 60, .inl (fun _ => 0))), (q38, .inr (4, [.ref (q5), .ref (q16), .ref (q27), .ref (u54 1), .ref (u54 2), .ref (u54 3), .int 0, .int 0, .int 0, .int 0, .int 0, .int (-1 : Int32), .int (-1 : Int32), .int 0])), (u54 1, .inr (5, [.int 0, .int 0, .int 0])), (u54 2, .inr (6, [.int 0, .int 0, .int 0, .int 0, .int 0])), (u54 3, .inr (6, [.int 0, .int 0, .int 0, .int 0, .int 0])), (q61, .inr (7, [.ref (u65 1), .ref (u65 2), .ref (u65 3), .ref (u65 4), .ref (u65 5), .int 0])), (u65 1, .inl (cI, 12, .inl (fun _ => 0))), (u65 2, .inl (cI, 12, .inl (fun _ => 0))), (u65 3, .inl (cI, 12, .inl (fun _ => 0))), (u65 4, .inl (cI, 12, .inl (fun _ => 0))), (u65 5, .inl (cI, 12, .inl (fun _ => 0))), (q72, .inr (8, [.null, .null, .null, .null, .null, .int 0, .int 0, .int 0, .int 0]))] := hD
  refine lv_dup hx hb d_Dm_init_75 rfl ?_
  refine gCallK (wr := [(h0, .inr (0, [.ref (q5), .ref (q16), .ref (q27), .ref (q38), .ref (q61), .null, .null])), (q5, .inr (1, [.ref (u9 1), .ref (u9 2)])), (u9 1, .inl (cI, 64, .inl (fun _ => 0))), (u9 2, .inl (cS, 132, .inl (fun _ => 0))), (q16, .inr (2, [.ref (u20 1), .int 0, .int 0, .int 0, .int 0, .int 0])), (u20 1, .inl (cS, 48, .inl (fun _ => 0))), (q27, .inr (3, [.ref (u31 1), .int 0, .int 0])), (u31 1, .inl (cS, 60, .inl (fun _ => 0))), (q38, .inr (4, [.ref (q5), .ref (q16), .ref (q27), .ref (u54 1), .ref (u54 2), .ref (u54 3), .int 0, .int 0, .int 0, .int 0, .int 0, .int (-1 : Int32), .int (-1 : Int32), .int 0])), (u54 1, .inr (5, [.int 0, .int 0, .int 0])), (u54 2, .inr (6, [.int 0, .int 0, .int 0, .int 0, .int 0])), (u54 3, .inr (6, [.int 0, .int 0, .int 0, .int 0, .int 0])), (q61, .inr (7, [.ref (u65 1), .ref (u65 2), .ref (u65 3), .ref (u65 4), .ref (u65 5), .int 0])), (u65 1, .inl (cI, 12, .inl (fun _ => 0))), (u65 2, .inl (cI, 12, .inl (fun _ => 0))), (u65 3, .inl (cI, 12, .inl (fun _ => 0))), (u65 4, .inl (cI, 12, .inl (fun _ => 0))), (u65 5, .inl (cI, 12, .inl (fun _ => 0)))]) (w0 := [(q72, .inr (8, [.null, .null, .null, .null, .null, .int 0, .int 0, .int 0, .int 0]))]) (b := q72) (As := []) (rest := [.ref (q72), .ref (h0)]) (k_Pl l D cI cS cZ q72) hx hb hml hown hts hK hN hA hS hP hD (cwI 0 hts (gGI tw_218) rfl rfl rfl (hts _ tw_9) (hts _ tw_216) (hts _ tw_217) rfl (by decide +kernel) ⟨Nat.le_of_ble_eq_true rfl, Nat.le_of_ble_eq_true rfl⟩) rfl hl.1 rfl (Nat.le_of_ble_eq_true rfl) d_Dm_init_76 ⟨(Nat.le_of_ble_eq_true rfl), (Nat.le_of_ble_eq_true rfl)⟩ (fun u76 H locs hu76 hP hD hS => ?_)
  have hP : va_P D gCl [(h0, .inr (0, [.ref (q5), .ref (q16), .ref (q27), .ref (q38), .ref (q61), .null, .null])), (q5, .inr (1, [.ref (u9 1), .ref (u9 2)])), (u9 1, .inl (cI, 64, .inl (fun _ => 0))), (u9 2, .inl (cS, 132, .inl (fun _ => 0))), (q16, .inr (2, [.ref (u20 1), .int 0, .int 0, .int 0, .int 0, .int 0])), (u20 1, .inl (cS, 48, .inl (fun _ => 0))), (q27, .inr (3, [.ref (u31 1), .int 0, .int 0])), (u31 1, .inl (cS, 60, .inl (fun _ => 0))), (q38, .inr (4, [.ref (q5), .ref (q16), .ref (q27), .ref (u54 1), .ref (u54 2), .ref (u54 3), .int 0, .int 0, .int 0, .int 0, .int 0, .int (-1 : Int32), .int (-1 : Int32), .int 0])), (u54 1, .inr (5, [.int 0, .int 0, .int 0])), (u54 2, .inr (6, [.int 0, .int 0, .int 0, .int 0, .int 0])), (u54 3, .inr (6, [.int 0, .int 0, .int 0, .int 0, .int 0])), (q61, .inr (7, [.ref (u65 1), .ref (u65 2), .ref (u65 3), .ref (u65 4), .ref (u65 5), .int 0])), (u65 1, .inl (cI, 12, .inl (fun _ => 0))), (u65 2, .inl (cI, 12, .inl (fun _ => 0))), (u65 3, .inl (cI, 12, .inl (fun _ => 0))), (u65 4, .inl (cI, 12, .inl (fun _ => 0))), (u65 5, .inl (cI, 12, .inl (fun _ => 0))), (q72, .inr (8, [.ref (u76 1), .ref (u76 2), .ref (u76 3), .ref (u76 4), .ref (u76 5), .int 0, .int 0, .int 0, .int 0])), (u76 1, .inl (cI, 64, .inl (fun _ => 0))), (u76 2, .inl (cI, 32, .inl (fun _ => 0))), (u76 3, .inl (cI, 16, .inl (gfill 16 (-1 : Int32) (fun _ => 0)))), (u76 4, .inl (cI, 12, .inl (gfill 12 (-1 : Int32) (fun _ => 0)))), (u76 5, .inl (cI, 12, .inl (fun _ => 0)))] H := hP
  have hD : va_D A [(h0, .inr (0, [.ref (q5), .ref (q16), .ref (q27), .ref (q38), .ref (q61), .null, .null])), (q5, .inr (1, [.ref (u9 1), .ref (u9 2)])), (u9 1, .inl (cI, 64, .inl (fun _ => 0))), (u9 2, .inl (cS, 132, .inl (fun _ => 0))), (q16, .inr (2, [.ref (u20 1), .int 0, .int 0, .int 0, .int 0, .int 0])), (u20 1, .inl (cS, 48, .inl (fun _ => 0))), (q27, .inr (3, [.ref (u31 1), .int 0, .int 0])), (u31 1, .inl (cS, 60, .inl (fun _ => 0))), (q38, .inr (4, [.ref (q5), .ref (q16), .ref (q27), .ref (u54 1), .ref (u54 2), .ref (u54 3), .int 0, .int 0, .int 0, .int 0, .int 0, .int (-1 : Int32), .int (-1 : Int32), .int 0])), (u54 1, .inr (5, [.int 0, .int 0, .int 0])), (u54 2, .inr (6, [.int 0, .int 0, .int 0, .int 0, .int 0])), (u54 3, .inr (6, [.int 0, .int 0, .int 0, .int 0, .int 0])), (q61, .inr (7, [.ref (u65 1), .ref (u65 2), .ref (u65 3), .ref (u65 4), .ref (u65 5), .int 0])), (u65 1, .inl (cI, 12, .inl (fun _ => 0))), (u65 2, .inl (cI, 12, .inl (fun _ => 0))), (u65 3, .inl (cI, 12, .inl (fun _ => 0))), (u65 4, .inl (cI, 12, .inl (fun _ => 0))), (u65 5, .inl (cI, 12, .inl (fun _ => 0))), (q72, .inr (8, [.ref (u76 1), .ref (u76 2), .ref (u76 3), .ref (u76 4), .ref (u76 5), .int 0, .int 0, .int 0, .int 0])), (u76 1, .inl (cI, 64, .inl (fun _ => 0))), (u76 2, .inl (cI, 32, .inl (fun _ => 0))), (u76 3, .inl (cI, 16, .inl (gfill 16 (-1 : Int32) (fun _ => 0)))), (u76 4, .inl (cI, 12, .inl (gfill 12 (-1 : Int32) (fun _ => 0)))), (u76 5, .inl (cI, 12, .inl (fun _ => 0)))] := hD
  refine va_put (D := D) (ci := 0) (v := .ref (q72)) (ty := .object "DelayMachine$Placing") (C := R_Dm) (T := T_Dm) (N := 7) hx hb hts i_Dm t_Dm o_Dm n_Dm hown hK hP hD hS 0 rfl rfl 5 (by decide) (hts _ tw_260) (fun _ h9 => h9) rfl (by decide +kernel) rfl rfl (Nat.le_of_ble_eq_true rfl) d_Dm_init_79 (fun H locs hP hD hS => ?_)
  have hP : va_P D gCl [(h0, .inr (0, [.ref (q5), .ref (q16), .ref (q27), .ref (q38), .ref (q61), .ref (q72), .null])), (q5, .inr (1, [.ref (u9 1), .ref (u9 2)])), (u9 1, .inl (cI, 64, .inl (fun _ => 0))), (u9 2, .inl (cS, 132, .inl (fun _ => 0))), (q16, .inr (2, [.ref (u20 1), .int 0, .int 0, .int 0, .int 0, .int 0])), (u20 1, .inl (cS, 48, .inl (fun _ => 0))), (q27, .inr (3, [.ref (u31 1), .int 0, .int 0])), (u31 1, .inl (cS, 60, .inl (fun _ => 0))), (q38, .inr (4, [.ref (q5), .ref (q16), .ref (q27), .ref (u54 1), .ref (u54 2), .ref (u54 3), .int 0, .int 0, .int 0, .int 0, .int 0, .int (-1 : Int32), .int (-1 : Int32), .int 0])), (u54 1, .inr (5, [.int 0, .int 0, .int 0])), (u54 2, .inr (6, [.int 0, .int 0, .int 0, .int 0, .int 0])), (u54 3, .inr (6, [.int 0, .int 0, .int 0, .int 0, .int 0])), (q61, .inr (7, [.ref (u65 1), .ref (u65 2), .ref (u65 3), .ref (u65 4), .ref (u65 5), .int 0])), (u65 1, .inl (cI, 12, .inl (fun _ => 0))), (u65 2, .inl (cI, 12, .inl (fun _ => 0))), (u65 3, .inl (cI, 12, .inl (fun _ => 0))), (u65 4, .inl (cI, 12, .inl (fun _ => 0))), (u65 5, .inl (cI, 12, .inl (fun _ => 0))), (q72, .inr (8, [.ref (u76 1), .ref (u76 2), .ref (u76 3), .ref (u76 4), .ref (u76 5), .int 0, .int 0, .int 0, .int 0])), (u76 1, .inl (cI, 64, .inl (fun _ => 0))), (u76 2, .inl (cI, 32, .inl (fun _ => 0))), (u76 3, .inl (cI, 16, .inl (gfill 16 (-1 : Int32) (fun _ => 0)))), (u76 4, .inl (cI, 12, .inl (gfill 12 (-1 : Int32) (fun _ => 0)))), (u76 5, .inl (cI, 12, .inl (fun _ => 0)))] H := hP
  have hD : va_D A [(h0, .inr (0, [.ref (q5), .ref (q16), .ref (q27), .ref (q38), .ref (q61), .ref (q72), .null])), (q5, .inr (1, [.ref (u9 1), .ref (u9 2)])), (u9 1, .inl (cI, 64, .inl (fun _ => 0))), (u9 2, .inl (cS, 132, .inl (fun _ => 0))), (q16, .inr (2, [.ref (u20 1), .int 0, .int 0, .int 0, .int 0, .int 0])), (u20 1, .inl (cS, 48, .inl (fun _ => 0))), (q27, .inr (3, [.ref (u31 1), .int 0, .int 0])), (u31 1, .inl (cS, 60, .inl (fun _ => 0))), (q38, .inr (4, [.ref (q5), .ref (q16), .ref (q27), .ref (u54 1), .ref (u54 2), .ref (u54 3), .int 0, .int 0, .int 0, .int 0, .int 0, .int (-1 : Int32), .int (-1 : Int32), .int 0])), (u54 1, .inr (5, [.int 0, .int 0, .int 0])), (u54 2, .inr (6, [.int 0, .int 0, .int 0, .int 0, .int 0])), (u54 3, .inr (6, [.int 0, .int 0, .int 0, .int 0, .int 0])), (q61, .inr (7, [.ref (u65 1), .ref (u65 2), .ref (u65 3), .ref (u65 4), .ref (u65 5), .int 0])), (u65 1, .inl (cI, 12, .inl (fun _ => 0))), (u65 2, .inl (cI, 12, .inl (fun _ => 0))), (u65 3, .inl (cI, 12, .inl (fun _ => 0))), (u65 4, .inl (cI, 12, .inl (fun _ => 0))), (u65 5, .inl (cI, 12, .inl (fun _ => 0))), (q72, .inr (8, [.ref (u76 1), .ref (u76 2), .ref (u76 3), .ref (u76 4), .ref (u76 5), .int 0, .int 0, .int 0, .int 0])), (u76 1, .inl (cI, 64, .inl (fun _ => 0))), (u76 2, .inl (cI, 32, .inl (fun _ => 0))), (u76 3, .inl (cI, 16, .inl (gfill 16 (-1 : Int32) (fun _ => 0)))), (u76 4, .inl (cI, 12, .inl (gfill 12 (-1 : Int32) (fun _ => 0)))), (u76 5, .inl (cI, 12, .inl (fun _ => 0)))] := hD
  refine lv_aload_n hx hb d_Dm_init_82 rfl (lv_at hl 0 rfl) ?_
  refine va_new (ci := 8) (fs := [.null, .null, .null, .null, .null, .int 0, .int 0, .int 0, .int 0]) (C := R_Pl) (T := T_Pl) (N := 9) hx hb hts i_Pl t_Pl o_Pl hown (hts _ tw_214) (hts _ tw_215) (hts _ tw_9) hK hP hD hS hA rfl (fun j hj => by rcases (show j = 0 ∨ j = 1 ∨ j = 2 ∨ j = 3 ∨ j = 4 ∨ j = 5 ∨ j = 6 ∨ j = 7 ∨ j = 8 by omega) with rfl | rfl | rfl | rfl | rfl | rfl | rfl | rfl | rfl <;> rfl) (Nat.le_of_ble_eq_true rfl) (Nat.le_of_ble_eq_true rfl) d_Dm_init_83 (fun q83 H hP hD hS => ?_)
  have hP : va_P D gCl [(h0, .inr (0, [.ref (q5), .ref (q16), .ref (q27), .ref (q38), .ref (q61), .ref (q72), .null])), (q5, .inr (1, [.ref (u9 1), .ref (u9 2)])), (u9 1, .inl (cI, 64, .inl (fun _ => 0))), (u9 2, .inl (cS, 132, .inl (fun _ => 0))), (q16, .inr (2, [.ref (u20 1), .int 0, .int 0, .int 0, .int 0, .int 0])), (u20 1, .inl (cS, 48, .inl (fun _ => 0))), (q27, .inr (3, [.ref (u31 1), .int 0, .int 0])), (u31 1, .inl (cS, 60, .inl (fun _ => 0))), (q38, .inr (4, [.ref (q5), .ref (q16), .ref (q27), .ref (u54 1), .ref (u54 2), .ref (u54 3), .int 0, .int 0, .int 0, .int 0, .int 0, .int (-1 : Int32), .int (-1 : Int32), .int 0])), (u54 1, .inr (5, [.int 0, .int 0, .int 0])), (u54 2, .inr (6, [.int 0, .int 0, .int 0, .int 0, .int 0])), (u54 3, .inr (6, [.int 0, .int 0, .int 0, .int 0, .int 0])), (q61, .inr (7, [.ref (u65 1), .ref (u65 2), .ref (u65 3), .ref (u65 4), .ref (u65 5), .int 0])), (u65 1, .inl (cI, 12, .inl (fun _ => 0))), (u65 2, .inl (cI, 12, .inl (fun _ => 0))), (u65 3, .inl (cI, 12, .inl (fun _ => 0))), (u65 4, .inl (cI, 12, .inl (fun _ => 0))), (u65 5, .inl (cI, 12, .inl (fun _ => 0))), (q72, .inr (8, [.ref (u76 1), .ref (u76 2), .ref (u76 3), .ref (u76 4), .ref (u76 5), .int 0, .int 0, .int 0, .int 0])), (u76 1, .inl (cI, 64, .inl (fun _ => 0))), (u76 2, .inl (cI, 32, .inl (fun _ => 0))), (u76 3, .inl (cI, 16, .inl (gfill 16 (-1 : Int32) (fun _ => 0)))), (u76 4, .inl (cI, 12, .inl (gfill 12 (-1 : Int32) (fun _ => 0)))), (u76 5, .inl (cI, 12, .inl (fun _ => 0))), (q83, .inr (8, [.null, .null, .null, .null, .null, .int 0, .int 0, .int 0, .int 0]))] H := hP
  have hD : va_D A [(h0, .inr (0, [.ref (q5), .ref (q16), .ref (q27), .ref (q38), .ref (q61), .ref (q72), .null])), (q5, .inr (1, [.ref (u9 1), .ref (u9 2)])), (u9 1, .inl (cI, 64, .inl (fun _ => 0))), (u9 2, .inl (cS, 132, .inl (fun _ => 0))), (q16, .inr (2, [.ref (u20 1), .int 0, .int 0, .int 0, .int 0, .int 0])), (u20 1, .inl (cS, 48, .inl (fun _ => 0))), (q27, .inr (3, [.ref (u31 1), .int 0, .int 0])), (u31 1, .inl (cS, 60, .inl (fun _ => 0))), (q38, .inr (4, [.ref (q5), .ref (q16), .ref (q27), .ref (u54 1), .ref (u54 2), .ref (u54 3), .int 0, .int 0, .int 0, .int 0, .int 0, .int (-1 : Int32), .int (-1 : Int32), .int 0])), (u54 1, .inr (5, [.int 0, .int 0, .int 0])), (u54 2, .inr (6, [.int 0, .int 0, .int 0, .int 0, .int 0])), (u54 3, .inr (6, [.int 0, .int 0, .int 0, .int 0, .int 0])), (q61, .inr (7, [.ref (u65 1), .ref (u65 2), .ref (u65 3), .ref (u65 4), .ref (u65 5), .int 0])), (u65 1, .inl (cI, 12, .inl (fun _ => 0))), (u65 2, .inl (cI, 12, .inl (fun _ => 0))), (u65 3, .inl (cI, 12, .inl (fun _ => 0))), (u65 4, .inl (cI, 12, .inl (fun _ => 0))), (u65 5, .inl (cI, 12, .inl (fun _ => 0))), (q72, .inr (8, [.ref (u76 1), .ref (u76 2), .ref (u76 3), .ref (u76 4), .ref (u76 5), .int 0, .int 0, .int 0, .int 0])), (u76 1, .inl (cI, 64, .inl (fun _ => 0))), (u76 2, .inl (cI, 32, .inl (fun _ => 0))), (u76 3, .inl (cI, 16, .inl (gfill 16 (-1 : Int32) (fun _ => 0)))), (u76 4, .inl (cI, 12, .inl (gfill 12 (-1 : Int32) (fun _ => 0)))), (u76 5, .inl (cI, 12, .inl (fun _ => 0))), (q83, .inr (8, [.null, .null, .null, .null, .null, .int 0, .int 0, .int 0, .int 0]))] := hD
  refine lv_dup hx hb d_Dm_init_86 rfl ?_
  refine gCallK (wr := [(h0, .inr (0, [.ref (q5), .ref (q16), .ref (q27), .ref (q38), .ref (q61), .ref (q72), .null])), (q5, .inr (1, [.ref (u9 1), .ref (u9 2)])), (u9 1, .inl (cI, 64, .inl (fun _ => 0))), (u9 2, .inl (cS, 132, .inl (fun _ => 0))), (q16, .inr (2, [.ref (u20 1), .int 0, .int 0, .int 0, .int 0, .int 0])), (u20 1, .inl (cS, 48, .inl (fun _ => 0))), (q27, .inr (3, [.ref (u31 1), .int 0, .int 0])), (u31 1, .inl (cS, 60, .inl (fun _ => 0))), (q38, .inr (4, [.ref (q5), .ref (q16), .ref (q27), .ref (u54 1), .ref (u54 2), .ref (u54 3), .int 0, .int 0, .int 0, .int 0, .int 0, .int (-1 : Int32), .int (-1 : Int32), .int 0])), (u54 1, .inr (5, [.int 0, .int 0, .int 0])), (u54 2, .inr (6, [.int 0, .int 0, .int 0, .int 0, .int 0])), (u54 3, .inr (6, [.int 0, .int 0, .int 0, .int 0, .int 0])), (q61, .inr (7, [.ref (u65 1), .ref (u65 2), .ref (u65 3), .ref (u65 4), .ref (u65 5), .int 0])), (u65 1, .inl (cI, 12, .inl (fun _ => 0))), (u65 2, .inl (cI, 12, .inl (fun _ => 0))), (u65 3, .inl (cI, 12, .inl (fun _ => 0))), (u65 4, .inl (cI, 12, .inl (fun _ => 0))), (u65 5, .inl (cI, 12, .inl (fun _ => 0))), (q72, .inr (8, [.ref (u76 1), .ref (u76 2), .ref (u76 3), .ref (u76 4), .ref (u76 5), .int 0, .int 0, .int 0, .int 0])), (u76 1, .inl (cI, 64, .inl (fun _ => 0))), (u76 2, .inl (cI, 32, .inl (fun _ => 0))), (u76 3, .inl (cI, 16, .inl (gfill 16 (-1 : Int32) (fun _ => 0)))), (u76 4, .inl (cI, 12, .inl (gfill 12 (-1 : Int32) (fun _ => 0)))), (u76 5, .inl (cI, 12, .inl (fun _ => 0)))]) (w0 := [(q83, .inr (8, [.null, .null, .null, .null, .null, .int 0, .int 0, .int 0, .int 0]))]) (b := q83) (As := []) (rest := [.ref (q83), .ref (h0)]) (k_Pl l D cI cS cZ q83) hx hb hml hown hts hK hN hA hS hP hD (cwI 0 hts (gGI tw_218) rfl rfl rfl (hts _ tw_9) (hts _ tw_216) (hts _ tw_217) rfl (by decide +kernel) ⟨Nat.le_of_ble_eq_true rfl, Nat.le_of_ble_eq_true rfl⟩) rfl hl.1 rfl (Nat.le_of_ble_eq_true rfl) d_Dm_init_87 ⟨(Nat.le_of_ble_eq_true rfl), (Nat.le_of_ble_eq_true rfl)⟩ (fun u87 H locs hu87 hP hD hS => ?_)
  have hP : va_P D gCl [(h0, .inr (0, [.ref (q5), .ref (q16), .ref (q27), .ref (q38), .ref (q61), .ref (q72), .null])), (q5, .inr (1, [.ref (u9 1), .ref (u9 2)])), (u9 1, .inl (cI, 64, .inl (fun _ => 0))), (u9 2, .inl (cS, 132, .inl (fun _ => 0))), (q16, .inr (2, [.ref (u20 1), .int 0, .int 0, .int 0, .int 0, .int 0])), (u20 1, .inl (cS, 48, .inl (fun _ => 0))), (q27, .inr (3, [.ref (u31 1), .int 0, .int 0])), (u31 1, .inl (cS, 60, .inl (fun _ => 0))), (q38, .inr (4, [.ref (q5), .ref (q16), .ref (q27), .ref (u54 1), .ref (u54 2), .ref (u54 3), .int 0, .int 0, .int 0, .int 0, .int 0, .int (-1 : Int32), .int (-1 : Int32), .int 0])), (u54 1, .inr (5, [.int 0, .int 0, .int 0])), (u54 2, .inr (6, [.int 0, .int 0, .int 0, .int 0, .int 0])), (u54 3, .inr (6, [.int 0, .int 0, .int 0, .int 0, .int 0])), (q61, .inr (7, [.ref (u65 1), .ref (u65 2), .ref (u65 3), .ref (u65 4), .ref (u65 5), .int 0])), (u65 1, .inl (cI, 12, .inl (fun _ => 0))), (u65 2, .inl (cI, 12, .inl (fun _ => 0))), (u65 3, .inl (cI, 12, .inl (fun _ => 0))), (u65 4, .inl (cI, 12, .inl (fun _ => 0))), (u65 5, .inl (cI, 12, .inl (fun _ => 0))), (q72, .inr (8, [.ref (u76 1), .ref (u76 2), .ref (u76 3), .ref (u76 4), .ref (u76 5), .int 0, .int 0, .int 0, .int 0])), (u76 1, .inl (cI, 64, .inl (fun _ => 0))), (u76 2, .inl (cI, 32, .inl (fun _ => 0))), (u76 3, .inl (cI, 16, .inl (gfill 16 (-1 : Int32) (fun _ => 0)))), (u76 4, .inl (cI, 12, .inl (gfill 12 (-1 : Int32) (fun _ => 0)))), (u76 5, .inl (cI, 12, .inl (fun _ => 0))), (q83, .inr (8, [.ref (u87 1), .ref (u87 2), .ref (u87 3), .ref (u87 4), .ref (u87 5), .int 0, .int 0, .int 0, .int 0])), (u87 1, .inl (cI, 64, .inl (fun _ => 0))), (u87 2, .inl (cI, 32, .inl (fun _ => 0))), (u87 3, .inl (cI, 16, .inl (gfill 16 (-1 : Int32) (fun _ => 0)))), (u87 4, .inl (cI, 12, .inl (gfill 12 (-1 : Int32) (fun _ => 0)))), (u87 5, .inl (cI, 12, .inl (fun _ => 0)))] H := hP
  have hD : va_D A [(h0, .inr (0, [.ref (q5), .ref (q16), .ref (q27), .ref (q38), .ref (q61), .ref (q72), .null])), (q5, .inr (1, [.ref (u9 1), .ref (u9 2)])), (u9 1, .inl (cI, 64, .inl (fun _ => 0))), (u9 2, .inl (cS, 132, .inl (fun _ => 0))), (q16, .inr (2, [.ref (u20 1), .int 0, .int 0, .int 0, .int 0, .int 0])), (u20 1, .inl (cS, 48, .inl (fun _ => 0))), (q27, .inr (3, [.ref (u31 1), .int 0, .int 0])), (u31 1, .inl (cS, 60, .inl (fun _ => 0))), (q38, .inr (4, [.ref (q5), .ref (q16), .ref (q27), .ref (u54 1), .ref (u54 2), .ref (u54 3), .int 0, .int 0, .int 0, .int 0, .int 0, .int (-1 : Int32), .int (-1 : Int32), .int 0])), (u54 1, .inr (5, [.int 0, .int 0, .int 0])), (u54 2, .inr (6, [.int 0, .int 0, .int 0, .int 0, .int 0])), (u54 3, .inr (6, [.int 0, .int 0, .int 0, .int 0, .int 0])), (q61, .inr (7, [.ref (u65 1), .ref (u65 2), .ref (u65 3), .ref (u65 4), .ref (u65 5), .int 0])), (u65 1, .inl (cI, 12, .inl (fun _ => 0))), (u65 2, .inl (cI, 12, .inl (fun _ => 0))), (u65 3, .inl (cI, 12, .inl (fun _ => 0))), (u65 4, .inl (cI, 12, .inl (fun _ => 0))), (u65 5, .inl (cI, 12, .inl (fun _ => 0))), (q72, .inr (8, [.ref (u76 1), .ref (u76 2), .ref (u76 3), .ref (u76 4), .ref (u76 5), .int 0, .int 0, .int 0, .int 0])), (u76 1, .inl (cI, 64, .inl (fun _ => 0))), (u76 2, .inl (cI, 32, .inl (fun _ => 0))), (u76 3, .inl (cI, 16, .inl (gfill 16 (-1 : Int32) (fun _ => 0)))), (u76 4, .inl (cI, 12, .inl (gfill 12 (-1 : Int32) (fun _ => 0)))), (u76 5, .inl (cI, 12, .inl (fun _ => 0))), (q83, .inr (8, [.ref (u87 1), .ref (u87 2), .ref (u87 3), .ref (u87 4), .ref (u87 5), .int 0, .int 0, .int 0, .int 0])), (u87 1, .inl (cI, 64, .inl (fun _ => 0))), (u87 2, .inl (cI, 32, .inl (fun _ => 0))), (u87 3, .inl (cI, 16, .inl (gfill 16 (-1 : Int32) (fun _ => 0)))), (u87 4, .inl (cI, 12, .inl (gfill 12 (-1 : Int32) (fun _ => 0)))), (u87 5, .inl (cI, 12, .inl (fun _ => 0)))] := hD
  refine va_put (D := D) (ci := 0) (v := .ref (q83)) (ty := .object "DelayMachine$Placing") (C := R_Dm) (T := T_Dm) (N := 7) hx hb hts i_Dm t_Dm o_Dm n_Dm hown hK hP hD hS 0 rfl rfl 6 (by decide) (hts _ tw_261) (fun _ h9 => h9) rfl (by decide +kernel) rfl rfl (Nat.le_of_ble_eq_true rfl) d_Dm_init_90 (fun H locs hP hD hS => ?_)
  have hP : va_P D gCl [(h0, .inr (0, [.ref (q5), .ref (q16), .ref (q27), .ref (q38), .ref (q61), .ref (q72), .ref (q83)])), (q5, .inr (1, [.ref (u9 1), .ref (u9 2)])), (u9 1, .inl (cI, 64, .inl (fun _ => 0))), (u9 2, .inl (cS, 132, .inl (fun _ => 0))), (q16, .inr (2, [.ref (u20 1), .int 0, .int 0, .int 0, .int 0, .int 0])), (u20 1, .inl (cS, 48, .inl (fun _ => 0))), (q27, .inr (3, [.ref (u31 1), .int 0, .int 0])), (u31 1, .inl (cS, 60, .inl (fun _ => 0))), (q38, .inr (4, [.ref (q5), .ref (q16), .ref (q27), .ref (u54 1), .ref (u54 2), .ref (u54 3), .int 0, .int 0, .int 0, .int 0, .int 0, .int (-1 : Int32), .int (-1 : Int32), .int 0])), (u54 1, .inr (5, [.int 0, .int 0, .int 0])), (u54 2, .inr (6, [.int 0, .int 0, .int 0, .int 0, .int 0])), (u54 3, .inr (6, [.int 0, .int 0, .int 0, .int 0, .int 0])), (q61, .inr (7, [.ref (u65 1), .ref (u65 2), .ref (u65 3), .ref (u65 4), .ref (u65 5), .int 0])), (u65 1, .inl (cI, 12, .inl (fun _ => 0))), (u65 2, .inl (cI, 12, .inl (fun _ => 0))), (u65 3, .inl (cI, 12, .inl (fun _ => 0))), (u65 4, .inl (cI, 12, .inl (fun _ => 0))), (u65 5, .inl (cI, 12, .inl (fun _ => 0))), (q72, .inr (8, [.ref (u76 1), .ref (u76 2), .ref (u76 3), .ref (u76 4), .ref (u76 5), .int 0, .int 0, .int 0, .int 0])), (u76 1, .inl (cI, 64, .inl (fun _ => 0))), (u76 2, .inl (cI, 32, .inl (fun _ => 0))), (u76 3, .inl (cI, 16, .inl (gfill 16 (-1 : Int32) (fun _ => 0)))), (u76 4, .inl (cI, 12, .inl (gfill 12 (-1 : Int32) (fun _ => 0)))), (u76 5, .inl (cI, 12, .inl (fun _ => 0))), (q83, .inr (8, [.ref (u87 1), .ref (u87 2), .ref (u87 3), .ref (u87 4), .ref (u87 5), .int 0, .int 0, .int 0, .int 0])), (u87 1, .inl (cI, 64, .inl (fun _ => 0))), (u87 2, .inl (cI, 32, .inl (fun _ => 0))), (u87 3, .inl (cI, 16, .inl (gfill 16 (-1 : Int32) (fun _ => 0)))), (u87 4, .inl (cI, 12, .inl (gfill 12 (-1 : Int32) (fun _ => 0)))), (u87 5, .inl (cI, 12, .inl (fun _ => 0)))] H := hP
  have hD : va_D A [(h0, .inr (0, [.ref (q5), .ref (q16), .ref (q27), .ref (q38), .ref (q61), .ref (q72), .ref (q83)])), (q5, .inr (1, [.ref (u9 1), .ref (u9 2)])), (u9 1, .inl (cI, 64, .inl (fun _ => 0))), (u9 2, .inl (cS, 132, .inl (fun _ => 0))), (q16, .inr (2, [.ref (u20 1), .int 0, .int 0, .int 0, .int 0, .int 0])), (u20 1, .inl (cS, 48, .inl (fun _ => 0))), (q27, .inr (3, [.ref (u31 1), .int 0, .int 0])), (u31 1, .inl (cS, 60, .inl (fun _ => 0))), (q38, .inr (4, [.ref (q5), .ref (q16), .ref (q27), .ref (u54 1), .ref (u54 2), .ref (u54 3), .int 0, .int 0, .int 0, .int 0, .int 0, .int (-1 : Int32), .int (-1 : Int32), .int 0])), (u54 1, .inr (5, [.int 0, .int 0, .int 0])), (u54 2, .inr (6, [.int 0, .int 0, .int 0, .int 0, .int 0])), (u54 3, .inr (6, [.int 0, .int 0, .int 0, .int 0, .int 0])), (q61, .inr (7, [.ref (u65 1), .ref (u65 2), .ref (u65 3), .ref (u65 4), .ref (u65 5), .int 0])), (u65 1, .inl (cI, 12, .inl (fun _ => 0))), (u65 2, .inl (cI, 12, .inl (fun _ => 0))), (u65 3, .inl (cI, 12, .inl (fun _ => 0))), (u65 4, .inl (cI, 12, .inl (fun _ => 0))), (u65 5, .inl (cI, 12, .inl (fun _ => 0))), (q72, .inr (8, [.ref (u76 1), .ref (u76 2), .ref (u76 3), .ref (u76 4), .ref (u76 5), .int 0, .int 0, .int 0, .int 0])), (u76 1, .inl (cI, 64, .inl (fun _ => 0))), (u76 2, .inl (cI, 32, .inl (fun _ => 0))), (u76 3, .inl (cI, 16, .inl (gfill 16 (-1 : Int32) (fun _ => 0)))), (u76 4, .inl (cI, 12, .inl (gfill 12 (-1 : Int32) (fun _ => 0)))), (u76 5, .inl (cI, 12, .inl (fun _ => 0))), (q83, .inr (8, [.ref (u87 1), .ref (u87 2), .ref (u87 3), .ref (u87 4), .ref (u87 5), .int 0, .int 0, .int 0, .int 0])), (u87 1, .inl (cI, 64, .inl (fun _ => 0))), (u87 2, .inl (cI, 32, .inl (fun _ => 0))), (u87 3, .inl (cI, 16, .inl (gfill 16 (-1 : Int32) (fun _ => 0)))), (u87 4, .inl (cI, 12, .inl (gfill 12 (-1 : Int32) (fun _ => 0)))), (u87 5, .inl (cI, 12, .inl (fun _ => 0)))] := hD
  have hP := hP.sub (ws' := (xW cI cS cZ (fun k => ([h0, q5, u9 1, u9 2, q16, u20 1, q27, u31 1, q38, u54 1, u54 2, u54 3, q61, u65 1, u65 2, u65 3, u65 4, u65 5, q72, u76 1, u76 2, u76 3, u76 4, u76 5, q83, u87 1, u87 2, u87 3, u87 4, u87 5] : List Nat).getD k 0) ((fun k => ([h0, q5, u9 1, u9 2, q16, u20 1, q27, u31 1, q38, u54 1, u54 2, u54 3, q61, u65 1, u65 2, u65 3, u65 4, u65 5, q72, u76 1, u76 2, u76 3, u76 4, u76 5, q83, u87 1, u87 2, u87 3, u87 4, u87 5] : List Nat).getD k 0) 10) ((fun k => ([h0, q5, u9 1, u9 2, q16, u20 1, q27, u31 1, q38, u54 1, u54 2, u54 3, q61, u65 1, u65 2, u65 3, u65 4, u65 5, q72, u76 1, u76 2, u76 3, u76 4, u76 5, q83, u87 1, u87 2, u87 3, u87 4, u87 5] : List Nat).getD k 0) 11) (fun k => (fun k => ([h0, q5, u9 1, u9 2, q16, u20 1, q27, u31 1, q38, u54 1, u54 2, u54 3, q61, u65 1, u65 2, u65 3, u65 4, u65 5, q72, u76 1, u76 2, u76 3, u76 4, u76 5, q83, u87 1, u87 2, u87 3, u87 4, u87 5] : List Nat).getD k 0) (18 + k)) (fun k => (fun k => ([h0, q5, u9 1, u9 2, q16, u20 1, q27, u31 1, q38, u54 1, u54 2, u54 3, q61, u65 1, u65 2, u65 3, u65 4, u65 5, q72, u76 1, u76 2, u76 3, u76 4, u76 5, q83, u87 1, u87 2, u87 3, u87 4, u87 5] : List Nat).getD k 0) (24 + k)) xS0 xA0)) [0, 1, 2, 3, 4, 5, 6, 7, 8, 9, 10, 11, 12, 13, 14, 15, 16, 17, 18, 19, 20, 21, 22, 23, 24, 25, 26, 27, 28, 29] rfl
  have hD := hD.sub (ws' := (xW cI cS cZ (fun k => ([h0, q5, u9 1, u9 2, q16, u20 1, q27, u31 1, q38, u54 1, u54 2, u54 3, q61, u65 1, u65 2, u65 3, u65 4, u65 5, q72, u76 1, u76 2, u76 3, u76 4, u76 5, q83, u87 1, u87 2, u87 3, u87 4, u87 5] : List Nat).getD k 0) ((fun k => ([h0, q5, u9 1, u9 2, q16, u20 1, q27, u31 1, q38, u54 1, u54 2, u54 3, q61, u65 1, u65 2, u65 3, u65 4, u65 5, q72, u76 1, u76 2, u76 3, u76 4, u76 5, q83, u87 1, u87 2, u87 3, u87 4, u87 5] : List Nat).getD k 0) 10) ((fun k => ([h0, q5, u9 1, u9 2, q16, u20 1, q27, u31 1, q38, u54 1, u54 2, u54 3, q61, u65 1, u65 2, u65 3, u65 4, u65 5, q72, u76 1, u76 2, u76 3, u76 4, u76 5, q83, u87 1, u87 2, u87 3, u87 4, u87 5] : List Nat).getD k 0) 11) (fun k => (fun k => ([h0, q5, u9 1, u9 2, q16, u20 1, q27, u31 1, q38, u54 1, u54 2, u54 3, q61, u65 1, u65 2, u65 3, u65 4, u65 5, q72, u76 1, u76 2, u76 3, u76 4, u76 5, q83, u87 1, u87 2, u87 3, u87 4, u87 5] : List Nat).getD k 0) (18 + k)) (fun k => (fun k => ([h0, q5, u9 1, u9 2, q16, u20 1, q27, u31 1, q38, u54 1, u54 2, u54 3, q61, u65 1, u65 2, u65 3, u65 4, u65 5, q72, u76 1, u76 2, u76 3, u76 4, u76 5, q83, u87 1, u87 2, u87 3, u87 4, u87 5] : List Nat).getD k 0) (24 + k)) xS0 xA0)) [0, 1, 2, 3, 4, 5, 6, 7, 8, 9, 10, 11, 12, 13, 14, 15, 16, 17, 18, 19, 20, 21, 22, 23, 24, 25, 26, 27, 28, 29] (by decide) rfl
  exact hret H locs 93 ls (fun k => ([h0, q5, u9 1, u9 2, q16, u20 1, q27, u31 1, q38, u54 1, u54 2, u54 3, q61, u65 1, u65 2, u65 3, u65 4, u65 5, q72, u76 1, u76 2, u76 3, u76 4, u76 5, q83, u87 1, u87 2, u87 3, u87 4, u87 5] : List Nat).getD k 0) d_Dm_init_93 hP hD hS rfl

abbrev rm_Md_init : Room := { frames := 1, cells := 21, slots := 900, locals := 12 }
set_option maxHeartbeats 4000000 in
set_option maxRecDepth 100000 in
theorem k_Md (l : Launch) (D : va_G) (cI cS cZ : ClassId) (h0 : Nat) (post : gSA → Prop) (hw : ∀ ad : Nat → Nat, ad 0 = h0 → wp_Md_init ad mS0 mA0 post) : gK l y_Md_init b_Md_init 2 rm_Md_init D (gT cI cS cZ) [.ref (h0)] [(h0, .inr (9, [.null, .null, .int 0, .int 0, .int 0, .int 0, .int 0, .int 0, .int 0, .int 0, .int 0, .int 0, .int 0, .int 0, .int 0, .int 0, .int 0, .int 0, .int 0, .int 0, .int 0, .null, .null, .int 0, .int 0, .int 0, .null, .int 0, .int 0, .null, .null, .null, .null, .null, .int 0, .null, .null, .null, .null, .null, .null, .null, .null, .null, .int 0, .null, .null]))] (fun u : gSA => mW cI cS cZ u.1 u.2.1 u.2.2) post 21 900 := by
  refine gK.of (by decide) (Nat.le_of_ble_eq_true rfl) ?_
  intro p e s m below meth c Q A hx hb hml hown hts hK hN hA hS hP hD hin hret ls hl
  have hl : lv_has ls 2 [(0, .ref (h0))] := hl
  have L186 : ∀ (ad : Nat → Nat) (σ : Nat → Int32) (α : Nat → Nat → Int32) (a1 : Int32) (ls : Array Slot) (H : Heap) (locs : List Loc), lv_has ls 2 [(0, .ref (ad 0)), (1, .int a1)] → va_P D gCl (mW cI cS cZ ad σ α) H → va_D A (mW cI cS cZ ad σ α) → va_S A s.heap H locs → wp_Md_init_L186 ad σ α a1 post → W p l e rm_Md_init s m ([.ref h0] : List Value).toArray below meth c H locs 21 900 Q (F0 m 186 ls []) := by
    intro ad σ α a1 ls H locs hl hP hD hS hw
    let XL186 : (Nat → Nat) → (Nat → Int32) → (Nat → Nat → Int32) → Int32 → Prop := fun ad σ α a1 => ∀ (ls : Array Slot) (H : Heap) (locs : List Loc), lv_has ls 2 [(0, .ref (ad 0)), (1, .int a1)] → va_P D gCl (mW cI cS cZ ad σ α) H → va_D A (mW cI cS cZ ad σ α) → va_S A s.heap H locs → W p l e rm_Md_init s m ([.ref h0] : List Value).toArray below meth c H locs 21 900 Q (F0 m 186 ls [])
    have hX186 : ∀ (ad : Nat → Nat) (σ : Nat → Int32) (α : Nat → Nat → Int32) (a1 : Int32) (ls : Array Slot) (H : Heap) (locs : List Loc), lv_has ls 2 [(0, .ref (ad 0)), (1, .int a1)] → va_P D gCl (mW cI cS cZ ad σ α) H → va_D A (mW cI cS cZ ad σ α) → va_S A s.heap H locs → XL186 ad σ α a1 → W p l e rm_Md_init s m ([.ref h0] : List Value).toArray below meth c H locs 21 900 Q (F0 m 186 ls []) := fun ad σ α a1 ls H locs hl hP hD hS hw => hw ls H locs hl hP hD hS
    refine hw XL186 ?_ ls H locs hl hP hD hS
    clear hw hl hP hD hS
    intro ad σ α a1 hw ls H locs hl hP hD hS
    unfold wp_Md_init_B186 at hw
    refine lv_iload_n hx hb d_Md_init_186 rfl (lv_at hl 1 rfl) ?_
    refine lv_bipush (v := 16) hx hb d_Md_init_187 (by decide) ?_
    refine lv_icmp_ge (tgt := 205) hx hb d_Md_init_189 (by decide) (fun h => ?_) (fun h => ?_)
    · have hw := hw.1 h
      exact hret H locs 205 ls (ad, σ, α) d_Md_init_205 hP hD hS hw
    · have hw := hw.2 h
      refine lv_aload_n hx hb d_Md_init_192 rfl (lv_at hl 0 rfl) ?_
      refine va_get (D := D) (ci := 9) (v := .ref (ad 21)) (C := R_Md) (T := T_Md) (N := 47) hx hb hts i_Md hown hK hP 0 rfl rfl 46 (by decide) (hts _ tw_580) (fun _ h9 => h9) rfl d_Md_init_193 ?_
      refine lv_iload_n hx hb d_Md_init_196 rfl (lv_at hl 1 rfl) ?_
      refine lv_iconst (v := (-1)) hx hb d_Md_init_197 (by decide) ?_
      obtain ⟨hin, hw⟩ := hw
      refine va_iast (f := α 21) (i := a1) (x := (-1 : Int32)) hx hb hK hP hD hS 21 0 rfl rfl hin d_Md_init_198 (fun H locs hP hD hS => ?_)
      have hP : va_P D gCl (mW cI cS cZ ad σ (va_up α 21 (upd (α 21) a1.toNatClampNeg (-1 : Int32)))) H := hP
      have hD : va_D A (mW cI cS cZ ad σ (va_up α 21 (upd (α 21) a1.toNatClampNeg (-1 : Int32)))) := hD
      refine lv_iinc (k := 1) hx hb d_Md_init_199 hl rfl rfl (by decide) rfl (fun ls hl => ?_)
      have hl : lv_has ls 2 [(1, .int (a1 + Int32.ofInt 1)), (0, .ref (ad 0))] := hl
      refine lv_goto (tgt := 186) hx hb d_Md_init_202 (by decide) ?_
      exact hX186 ad σ (va_up α 21 (upd (α 21) a1.toNatClampNeg (-1 : Int32))) (a1 + Int32.ofInt 1) ls H locs (lv_sub hl [1, 0] rfl) hP hD hS hw
  obtain ⟨H, hH⟩ : ∃ H, H = s.heap := ⟨_, rfl⟩
  obtain ⟨locs, hlocs⟩ : ∃ locs : List Loc, locs = [] := ⟨_, rfl⟩
  have hP : va_P D gCl [(h0, .inr (9, [.null, .null, .int 0, .int 0, .int 0, .int 0, .int 0, .int 0, .int 0, .int 0, .int 0, .int 0, .int 0, .int 0, .int 0, .int 0, .int 0, .int 0, .int 0, .int 0, .int 0, .null, .null, .int 0, .int 0, .int 0, .null, .int 0, .int 0, .null, .null, .null, .null, .null, .int 0, .null, .null, .null, .null, .null, .null, .null, .null, .null, .int 0, .null, .null]))] H := by rw [hH]; exact hP
  have hS : va_S A s.heap H locs := by rw [hH, hlocs]; exact hS
  suffices K : W p l e rm_Md_init s m ([.ref (h0)] : List Value).toArray below meth c H locs 0 0 Q (F0 m 0 ls []) by rw [hH, hlocs] at K; exact K
  clear hH hlocs
  refine lv_aload_n hx hb d_Md_init_0 rfl (lv_at hl 0 rfl) ?_
  refine W.objInit hx hb hown (hts _ tw_533) (hts _ tw_19) (hts _ tw_20) rfl (by rw [hml]; exact hl.1) rfl d_Md_init_1 (Nat.le_of_ble_eq_true rfl) (Nat.le_of_ble_eq_true rfl) ?_
  refine W.eq (g2 := F0 m 4 ls []) rfl ?_
  refine lv_aload_n hx hb d_Md_init_4 rfl (lv_at hl 0 rfl) ?_
  refine lv_bipush (v := 64) hx hb d_Md_init_5 (by decide) ?_
  refine va_newa (ty := .int) (n := 64) (N' := 64) (a0 := (64, .inl (fun _ => 0))) hx hb (hts _ tw_39) rfl hK hP hD hS hA (fun _ => rfl) (by decide) (by decide) (by decide) (Nat.le_of_ble_eq_true rfl) (Nat.le_of_ble_eq_true rfl) d_Md_init_7 (fun q7 cA H hK1 hP hD hS => ?_)
  have hc : cI = cA := Option.some.inj ((hK1.2 0 (cI, .int) rfl).2.symm.trans (hK1.2 3 (cA, .int) rfl).2)
  subst hc
  have hP : va_P D gCl [(h0, .inr (9, [.null, .null, .int 0, .int 0, .int 0, .int 0, .int 0, .int 0, .int 0, .int 0, .int 0, .int 0, .int 0, .int 0, .int 0, .int 0, .int 0, .int 0, .int 0, .int 0, .int 0, .null, .null, .int 0, .int 0, .int 0, .null, .int 0, .int 0, .null, .null, .null, .null, .null, .int 0, .null, .null, .null, .null, .null, .null, .null, .null, .null, .int 0, .null, .null])), (q7, .inl (cI, 64, .inl (fun _ => 0)))] H := hP
  have hD : va_D A [(h0, .inr (9, [.null, .null, .int 0, .int 0, .int 0, .int 0, .int 0, .int 0, .int 0, .int 0, .int 0, .int 0, .int 0, .int 0, .int 0, .int 0, .int 0, .int 0, .int 0, .int 0, .int 0, .null, .null, .int 0, .int 0, .int 0, .null, .int 0, .int 0, .null, .null, .null, .null, .null, .int 0, .null, .null, .null, .null, .null, .null, .null, .null, .null, .int 0, .null, .null])), (q7, .inl (cI, 64, .inl (fun _ => 0)))] := hD
  refine va_putF (D := D) (ci := 9) (v := .ref (q7)) (ty := .array .int) (C := R_Md) (T := T_Md) (N := 47) hx hb hts i_Md t_Md o_Md n_Md hown hK hP hD hS 0 rfl rfl 0 (by decide) (hts _ tw_534) (fun _ h9 => h9) rfl hin rfl (by decide +kernel) rfl rfl (Nat.le_of_ble_eq_true rfl) d_Md_init_9 (fun H locs hP hD hS => ?_)
  have hP : va_P D gCl [(h0, .inr (9, [.ref (q7), .null, .int 0, .int 0, .int 0, .int 0, .int 0, .int 0, .int 0, .int 0, .int 0, .int 0, .int 0, .int 0, .int 0, .int 0, .int 0, .int 0, .int 0, .int 0, .int 0, .null, .null, .int 0, .int 0, .int 0, .null, .int 0, .int 0, .null, .null, .null, .null, .null, .int 0, .null, .null, .null, .null, .null, .null, .null, .null, .null, .int 0, .null, .null])), (q7, .inl (cI, 64, .inl (fun _ => 0)))] H := hP
  have hD : va_D A [(h0, .inr (9, [.ref (q7), .null, .int 0, .int 0, .int 0, .int 0, .int 0, .int 0, .int 0, .int 0, .int 0, .int 0, .int 0, .int 0, .int 0, .int 0, .int 0, .int 0, .int 0, .int 0, .int 0, .null, .null, .int 0, .int 0, .int 0, .null, .int 0, .int 0, .null, .null, .null, .null, .null, .int 0, .null, .null, .null, .null, .null, .null, .null, .null, .null, .int 0, .null, .null])), (q7, .inl (cI, 64, .inl (fun _ => 0)))] := hD
  refine lv_aload_n hx hb d_Md_init_12 rfl (lv_at hl 0 rfl) ?_
  refine lv_sipush (v := 132) hx hb d_Md_init_13 (by decide) ?_
  refine va_newa (ty := .short) (n := 132) (N' := 132) (a0 := (132, .inl (fun _ => 0))) hx hb (hts _ tw_40) rfl hK hP hD hS hA (fun _ => rfl) (by decide) (by decide) (by decide) (Nat.le_of_ble_eq_true rfl) (Nat.le_of_ble_eq_true rfl) d_Md_init_16 (fun q16 cA H hK1 hP hD hS => ?_)
  have hc : cS = cA := Option.some.inj ((hK1.2 1 (cS, .short) rfl).2.symm.trans (hK1.2 3 (cA, .short) rfl).2)
  subst hc
  have hP : va_P D gCl [(h0, .inr (9, [.ref (q7), .null, .int 0, .int 0, .int 0, .int 0, .int 0, .int 0, .int 0, .int 0, .int 0, .int 0, .int 0, .int 0, .int 0, .int 0, .int 0, .int 0, .int 0, .int 0, .int 0, .null, .null, .int 0, .int 0, .int 0, .null, .int 0, .int 0, .null, .null, .null, .null, .null, .int 0, .null, .null, .null, .null, .null, .null, .null, .null, .null, .int 0, .null, .null])), (q7, .inl (cI, 64, .inl (fun _ => 0))), (q16, .inl (cS, 132, .inl (fun _ => 0)))] H := hP
  have hD : va_D A [(h0, .inr (9, [.ref (q7), .null, .int 0, .int 0, .int 0, .int 0, .int 0, .int 0, .int 0, .int 0, .int 0, .int 0, .int 0, .int 0, .int 0, .int 0, .int 0, .int 0, .int 0, .int 0, .int 0, .null, .null, .int 0, .int 0, .int 0, .null, .int 0, .int 0, .null, .null, .null, .null, .null, .int 0, .null, .null, .null, .null, .null, .null, .null, .null, .null, .int 0, .null, .null])), (q7, .inl (cI, 64, .inl (fun _ => 0))), (q16, .inl (cS, 132, .inl (fun _ => 0)))] := hD
  refine va_putF (D := D) (ci := 9) (v := .ref (q16)) (ty := .array .short) (C := R_Md) (T := T_Md) (N := 47) hx hb hts i_Md t_Md o_Md n_Md hown hK hP hD hS 0 rfl rfl 1 (by decide) (hts _ tw_535) (fun _ h9 => h9) rfl hin rfl (by decide +kernel) rfl rfl (Nat.le_of_ble_eq_true rfl) d_Md_init_18 (fun H locs hP hD hS => ?_)
  have hP : va_P D gCl [(h0, .inr (9, [.ref (q7), .ref (q16), .int 0, .int 0, .int 0, .int 0, .int 0, .int 0, .int 0, .int 0, .int 0, .int 0, .int 0, .int 0, .int 0, .int 0, .int 0, .int 0, .int 0, .int 0, .int 0, .null, .null, .int 0, .int 0, .int 0, .null, .int 0, .int 0, .null, .null, .null, .null, .null, .int 0, .null, .null, .null, .null, .null, .null, .null, .null, .null, .int 0, .null, .null])), (q7, .inl (cI, 64, .inl (fun _ => 0))), (q16, .inl (cS, 132, .inl (fun _ => 0)))] H := hP
  have hD : va_D A [(h0, .inr (9, [.ref (q7), .ref (q16), .int 0, .int 0, .int 0, .int 0, .int 0, .int 0, .int 0, .int 0, .int 0, .int 0, .int 0, .int 0, .int 0, .int 0, .int 0, .int 0, .int 0, .int 0, .int 0, .null, .null, .int 0, .int 0, .int 0, .null, .int 0, .int 0, .null, .null, .null, .null, .null, .int 0, .null, .null, .null, .null, .null, .null, .null, .null, .null, .int 0, .null, .null])), (q7, .inl (cI, 64, .inl (fun _ => 0))), (q16, .inl (cS, 132, .inl (fun _ => 0)))] := hD
  refine lv_aload_n hx hb d_Md_init_21 rfl (lv_at hl 0 rfl) ?_
  refine lv_bipush (v := 48) hx hb d_Md_init_22 (by decide) ?_
  refine va_newa (ty := .short) (n := 48) (N' := 48) (a0 := (48, .inl (fun _ => 0))) hx hb (hts _ tw_40) rfl hK hP hD hS hA (fun _ => rfl) (by decide) (by decide) (by decide) (Nat.le_of_ble_eq_true rfl) (Nat.le_of_ble_eq_true rfl) d_Md_init_24 (fun q24 cA H hK1 hP hD hS => ?_)
  have hc : cS = cA := Option.some.inj ((hK1.2 1 (cS, .short) rfl).2.symm.trans (hK1.2 3 (cA, .short) rfl).2)
  subst hc
  have hP : va_P D gCl [(h0, .inr (9, [.ref (q7), .ref (q16), .int 0, .int 0, .int 0, .int 0, .int 0, .int 0, .int 0, .int 0, .int 0, .int 0, .int 0, .int 0, .int 0, .int 0, .int 0, .int 0, .int 0, .int 0, .int 0, .null, .null, .int 0, .int 0, .int 0, .null, .int 0, .int 0, .null, .null, .null, .null, .null, .int 0, .null, .null, .null, .null, .null, .null, .null, .null, .null, .int 0, .null, .null])), (q7, .inl (cI, 64, .inl (fun _ => 0))), (q16, .inl (cS, 132, .inl (fun _ => 0))), (q24, .inl (cS, 48, .inl (fun _ => 0)))] H := hP
  have hD : va_D A [(h0, .inr (9, [.ref (q7), .ref (q16), .int 0, .int 0, .int 0, .int 0, .int 0, .int 0, .int 0, .int 0, .int 0, .int 0, .int 0, .int 0, .int 0, .int 0, .int 0, .int 0, .int 0, .int 0, .int 0, .null, .null, .int 0, .int 0, .int 0, .null, .int 0, .int 0, .null, .null, .null, .null, .null, .int 0, .null, .null, .null, .null, .null, .null, .null, .null, .null, .int 0, .null, .null])), (q7, .inl (cI, 64, .inl (fun _ => 0))), (q16, .inl (cS, 132, .inl (fun _ => 0))), (q24, .inl (cS, 48, .inl (fun _ => 0)))] := hD
  refine va_putF (D := D) (ci := 9) (v := .ref (q24)) (ty := .array .short) (C := R_Md) (T := T_Md) (N := 47) hx hb hts i_Md t_Md o_Md n_Md hown hK hP hD hS 0 rfl rfl 21 (by decide) (hts _ tw_555) (fun _ h9 => h9) rfl hin rfl (by decide +kernel) rfl rfl (Nat.le_of_ble_eq_true rfl) d_Md_init_26 (fun H locs hP hD hS => ?_)
  have hP : va_P D gCl [(h0, .inr (9, [.ref (q7), .ref (q16), .int 0, .int 0, .int 0, .int 0, .int 0, .int 0, .int 0, .int 0, .int 0, .int 0, .int 0, .int 0, .int 0, .int 0, .int 0, .int 0, .int 0, .int 0, .int 0, .ref (q24), .null, .int 0, .int 0, .int 0, .null, .int 0, .int 0, .null, .null, .null, .null, .null, .int 0, .null, .null, .null, .null, .null, .null, .null, .null, .null, .int 0, .null, .null])), (q7, .inl (cI, 64, .inl (fun _ => 0))), (q16, .inl (cS, 132, .inl (fun _ => 0))), (q24, .inl (cS, 48, .inl (fun _ => 0)))] H := hP
  have hD : va_D A [(h0, .inr (9, [.ref (q7), .ref (q16), .int 0, .int 0, .int 0, .int 0, .int 0, .int 0, .int 0, .int 0, .int 0, .int 0, .int 0, .int 0, .int 0, .int 0, .int 0, .int 0, .int 0, .int 0, .int 0, .ref (q24), .null, .int 0, .int 0, .int 0, .null, .int 0, .int 0, .null, .null, .null, .null, .null, .int 0, .null, .null, .null, .null, .null, .null, .null, .null, .null, .int 0, .null, .null])), (q7, .inl (cI, 64, .inl (fun _ => 0))), (q16, .inl (cS, 132, .inl (fun _ => 0))), (q24, .inl (cS, 48, .inl (fun _ => 0)))] := hD
  refine lv_aload_n hx hb d_Md_init_29 rfl (lv_at hl 0 rfl) ?_
  refine lv_bipush (v := 12) hx hb d_Md_init_30 (by decide) ?_
  refine va_newa (ty := .short) (n := 12) (N' := 12) (a0 := (12, .inl (fun _ => 0))) hx hb (hts _ tw_40) rfl hK hP hD hS hA (fun _ => rfl) (by decide) (by decide) (by decide) (Nat.le_of_ble_eq_true rfl) (Nat.le_of_ble_eq_true rfl) d_Md_init_32 (fun q32 cA H hK1 hP hD hS => ?_)
  have hc : cS = cA := Option.some.inj ((hK1.2 1 (cS, .short) rfl).2.symm.trans (hK1.2 3 (cA, .short) rfl).2)
  subst hc
  have hP : va_P D gCl [(h0, .inr (9, [.ref (q7), .ref (q16), .int 0, .int 0, .int 0, .int 0, .int 0, .int 0, .int 0, .int 0, .int 0, .int 0, .int 0, .int 0, .int 0, .int 0, .int 0, .int 0, .int 0, .int 0, .int 0, .ref (q24), .null, .int 0, .int 0, .int 0, .null, .int 0, .int 0, .null, .null, .null, .null, .null, .int 0, .null, .null, .null, .null, .null, .null, .null, .null, .null, .int 0, .null, .null])), (q7, .inl (cI, 64, .inl (fun _ => 0))), (q16, .inl (cS, 132, .inl (fun _ => 0))), (q24, .inl (cS, 48, .inl (fun _ => 0))), (q32, .inl (cS, 12, .inl (fun _ => 0)))] H := hP
  have hD : va_D A [(h0, .inr (9, [.ref (q7), .ref (q16), .int 0, .int 0, .int 0, .int 0, .int 0, .int 0, .int 0, .int 0, .int 0, .int 0, .int 0, .int 0, .int 0, .int 0, .int 0, .int 0, .int 0, .int 0, .int 0, .ref (q24), .null, .int 0, .int 0, .int 0, .null, .int 0, .int 0, .null, .null, .null, .null, .null, .int 0, .null, .null, .null, .null, .null, .null, .null, .null, .null, .int 0, .null, .null])), (q7, .inl (cI, 64, .inl (fun _ => 0))), (q16, .inl (cS, 132, .inl (fun _ => 0))), (q24, .inl (cS, 48, .inl (fun _ => 0))), (q32, .inl (cS, 12, .inl (fun _ => 0)))] := hD
  refine va_putF (D := D) (ci := 9) (v := .ref (q32)) (ty := .array .short) (C := R_Md) (T := T_Md) (N := 47) hx hb hts i_Md t_Md o_Md n_Md hown hK hP hD hS 0 rfl rfl 22 (by decide) (hts _ tw_556) (fun _ h9 => h9) rfl hin rfl (by decide +kernel) rfl rfl (Nat.le_of_ble_eq_true rfl) d_Md_init_34 (fun H locs hP hD hS => ?_)
  have hP : va_P D gCl [(h0, .inr (9, [.ref (q7), .ref (q16), .int 0, .int 0, .int 0, .int 0, .int 0, .int 0, .int 0, .int 0, .int 0, .int 0, .int 0, .int 0, .int 0, .int 0, .int 0, .int 0, .int 0, .int 0, .int 0, .ref (q24), .ref (q32), .int 0, .int 0, .int 0, .null, .int 0, .int 0, .null, .null, .null, .null, .null, .int 0, .null, .null, .null, .null, .null, .null, .null, .null, .null, .int 0, .null, .null])), (q7, .inl (cI, 64, .inl (fun _ => 0))), (q16, .inl (cS, 132, .inl (fun _ => 0))), (q24, .inl (cS, 48, .inl (fun _ => 0))), (q32, .inl (cS, 12, .inl (fun _ => 0)))] H := hP
  have hD : va_D A [(h0, .inr (9, [.ref (q7), .ref (q16), .int 0, .int 0, .int 0, .int 0, .int 0, .int 0, .int 0, .int 0, .int 0, .int 0, .int 0, .int 0, .int 0, .int 0, .int 0, .int 0, .int 0, .int 0, .int 0, .ref (q24), .ref (q32), .int 0, .int 0, .int 0, .null, .int 0, .int 0, .null, .null, .null, .null, .null, .int 0, .null, .null, .null, .null, .null, .null, .null, .null, .null, .int 0, .null, .null])), (q7, .inl (cI, 64, .inl (fun _ => 0))), (q16, .inl (cS, 132, .inl (fun _ => 0))), (q24, .inl (cS, 48, .inl (fun _ => 0))), (q32, .inl (cS, 12, .inl (fun _ => 0)))] := hD
  refine lv_aload_n hx hb d_Md_init_37 rfl (lv_at hl 0 rfl) ?_
  refine lv_iconst (v := (-1)) hx hb d_Md_init_38 (by decide) ?_
  refine va_put (D := D) (ci := 9) (v := .int (-1 : Int32)) (ty := .int) (C := R_Md) (T := T_Md) (N := 47) hx hb hts i_Md t_Md o_Md n_Md hown hK hP hD hS 0 rfl rfl 23 (by decide) (hts _ tw_557) (fun _ h9 => h9) rfl (by decide +kernel) rfl rfl (Nat.le_of_ble_eq_true rfl) d_Md_init_39 (fun H locs hP hD hS => ?_)
  have hP : va_P D gCl [(h0, .inr (9, [.ref (q7), .ref (q16), .int 0, .int 0, .int 0, .int 0, .int 0, .int 0, .int 0, .int 0, .int 0, .int 0, .int 0, .int 0, .int 0, .int 0, .int 0, .int 0, .int 0, .int 0, .int 0, .ref (q24), .ref (q32), .int (-1 : Int32), .int 0, .int 0, .null, .int 0, .int 0, .null, .null, .null, .null, .null, .int 0, .null, .null, .null, .null, .null, .null, .null, .null, .null, .int 0, .null, .null])), (q7, .inl (cI, 64, .inl (fun _ => 0))), (q16, .inl (cS, 132, .inl (fun _ => 0))), (q24, .inl (cS, 48, .inl (fun _ => 0))), (q32, .inl (cS, 12, .inl (fun _ => 0)))] H := hP
  have hD : va_D A [(h0, .inr (9, [.ref (q7), .ref (q16), .int 0, .int 0, .int 0, .int 0, .int 0, .int 0, .int 0, .int 0, .int 0, .int 0, .int 0, .int 0, .int 0, .int 0, .int 0, .int 0, .int 0, .int 0, .int 0, .ref (q24), .ref (q32), .int (-1 : Int32), .int 0, .int 0, .null, .int 0, .int 0, .null, .null, .null, .null, .null, .int 0, .null, .null, .null, .null, .null, .null, .null, .null, .null, .int 0, .null, .null])), (q7, .inl (cI, 64, .inl (fun _ => 0))), (q16, .inl (cS, 132, .inl (fun _ => 0))), (q24, .inl (cS, 48, .inl (fun _ => 0))), (q32, .inl (cS, 12, .inl (fun _ => 0)))] := hD
  refine lv_aload_n hx hb d_Md_init_42 rfl (lv_at hl 0 rfl) ?_
  refine lv_bipush (v := 60) hx hb d_Md_init_43 (by decide) ?_
  refine va_newa (ty := .short) (n := 60) (N' := 60) (a0 := (60, .inl (fun _ => 0))) hx hb (hts _ tw_40) rfl hK hP hD hS hA (fun _ => rfl) (by decide) (by decide) (by decide) (Nat.le_of_ble_eq_true rfl) (Nat.le_of_ble_eq_true rfl) d_Md_init_45 (fun q45 cA H hK1 hP hD hS => ?_)
  have hc : cS = cA := Option.some.inj ((hK1.2 1 (cS, .short) rfl).2.symm.trans (hK1.2 3 (cA, .short) rfl).2)
  subst hc
  have hP : va_P D gCl [(h0, .inr (9, [.ref (q7), .ref (q16), .int 0, .int 0, .int 0, .int 0, .int 0, .int 0, .int 0, .int 0, .int 0, .int 0, .int 0, .int 0, .int 0, .int 0, .int 0, .int 0, .int 0, .int 0, .int 0, .ref (q24), .ref (q32), .int (-1 : Int32), .int 0, .int 0, .null, .int 0, .int 0, .null, .null, .null, .null, .null, .int 0, .null, .null, .null, .null, .null, .null, .null, .null, .null, .int 0, .null, .null])), (q7, .inl (cI, 64, .inl (fun _ => 0))), (q16, .inl (cS, 132, .inl (fun _ => 0))), (q24, .inl (cS, 48, .inl (fun _ => 0))), (q32, .inl (cS, 12, .inl (fun _ => 0))), (q45, .inl (cS, 60, .inl (fun _ => 0)))] H := hP
  have hD : va_D A [(h0, .inr (9, [.ref (q7), .ref (q16), .int 0, .int 0, .int 0, .int 0, .int 0, .int 0, .int 0, .int 0, .int 0, .int 0, .int 0, .int 0, .int 0, .int 0, .int 0, .int 0, .int 0, .int 0, .int 0, .ref (q24), .ref (q32), .int (-1 : Int32), .int 0, .int 0, .null, .int 0, .int 0, .null, .null, .null, .null, .null, .int 0, .null, .null, .null, .null, .null, .null, .null, .null, .null, .int 0, .null, .null])), (q7, .inl (cI, 64, .inl (fun _ => 0))), (q16, .inl (cS, 132, .inl (fun _ => 0))), (q24, .inl (cS, 48, .inl (fun _ => 0))), (q32, .inl (cS, 12, .inl (fun _ => 0))), (q45, .inl (cS, 60, .inl (fun _ => 0)))] := hD
  refine va_putF (D := D) (ci := 9) (v := .ref (q45)) (ty := .array .short) (C := R_Md) (T := T_Md) (N := 47) hx hb hts i_Md t_Md o_Md n_Md hown hK hP hD hS 0 rfl rfl 26 (by decide) (hts _ tw_560) (fun _ h9 => h9) rfl hin rfl (by decide +kernel) rfl rfl (Nat.le_of_ble_eq_true rfl) d_Md_init_47 (fun H locs hP hD hS => ?_)
  have hP : va_P D gCl [(h0, .inr (9, [.ref (q7), .ref (q16), .int 0, .int 0, .int 0, .int 0, .int 0, .int 0, .int 0, .int 0, .int 0, .int 0, .int 0, .int 0, .int 0, .int 0, .int 0, .int 0, .int 0, .int 0, .int 0, .ref (q24), .ref (q32), .int (-1 : Int32), .int 0, .int 0, .ref (q45), .int 0, .int 0, .null, .null, .null, .null, .null, .int 0, .null, .null, .null, .null, .null, .null, .null, .null, .null, .int 0, .null, .null])), (q7, .inl (cI, 64, .inl (fun _ => 0))), (q16, .inl (cS, 132, .inl (fun _ => 0))), (q24, .inl (cS, 48, .inl (fun _ => 0))), (q32, .inl (cS, 12, .inl (fun _ => 0))), (q45, .inl (cS, 60, .inl (fun _ => 0)))] H := hP
  have hD : va_D A [(h0, .inr (9, [.ref (q7), .ref (q16), .int 0, .int 0, .int 0, .int 0, .int 0, .int 0, .int 0, .int 0, .int 0, .int 0, .int 0, .int 0, .int 0, .int 0, .int 0, .int 0, .int 0, .int 0, .int 0, .ref (q24), .ref (q32), .int (-1 : Int32), .int 0, .int 0, .ref (q45), .int 0, .int 0, .null, .null, .null, .null, .null, .int 0, .null, .null, .null, .null, .null, .null, .null, .null, .null, .int 0, .null, .null])), (q7, .inl (cI, 64, .inl (fun _ => 0))), (q16, .inl (cS, 132, .inl (fun _ => 0))), (q24, .inl (cS, 48, .inl (fun _ => 0))), (q32, .inl (cS, 12, .inl (fun _ => 0))), (q45, .inl (cS, 60, .inl (fun _ => 0)))] := hD
  refine lv_aload_n hx hb d_Md_init_50 rfl (lv_at hl 0 rfl) ?_
  refine lv_bipush (v := (-6)) hx hb d_Md_init_51 (by decide) ?_
  refine va_put (D := D) (ci := 9) (v := .int (-6 : Int32)) (ty := .int) (C := R_Md) (T := T_Md) (N := 47) hx hb hts i_Md t_Md o_Md n_Md hown hK hP hD hS 0 rfl rfl 27 (by decide) (hts _ tw_561) (fun _ h9 => h9) rfl (by decide +kernel) rfl rfl (Nat.le_of_ble_eq_true rfl) d_Md_init_53 (fun H locs hP hD hS => ?_)
  have hP : va_P D gCl [(h0, .inr (9, [.ref (q7), .ref (q16), .int 0, .int 0, .int 0, .int 0, .int 0, .int 0, .int 0, .int 0, .int 0, .int 0, .int 0, .int 0, .int 0, .int 0, .int 0, .int 0, .int 0, .int 0, .int 0, .ref (q24), .ref (q32), .int (-1 : Int32), .int 0, .int 0, .ref (q45), .int (-6 : Int32), .int 0, .null, .null, .null, .null, .null, .int 0, .null, .null, .null, .null, .null, .null, .null, .null, .null, .int 0, .null, .null])), (q7, .inl (cI, 64, .inl (fun _ => 0))), (q16, .inl (cS, 132, .inl (fun _ => 0))), (q24, .inl (cS, 48, .inl (fun _ => 0))), (q32, .inl (cS, 12, .inl (fun _ => 0))), (q45, .inl (cS, 60, .inl (fun _ => 0)))] H := hP
  have hD : va_D A [(h0, .inr (9, [.ref (q7), .ref (q16), .int 0, .int 0, .int 0, .int 0, .int 0, .int 0, .int 0, .int 0, .int 0, .int 0, .int 0, .int 0, .int 0, .int 0, .int 0, .int 0, .int 0, .int 0, .int 0, .ref (q24), .ref (q32), .int (-1 : Int32), .int 0, .int 0, .ref (q45), .int (-6 : Int32), .int 0, .null, .null, .null, .null, .null, .int 0, .null, .null, .null, .null, .null, .null, .null, .null, .null, .int 0, .null, .null])), (q7, .inl (cI, 64, .inl (fun _ => 0))), (q16, .inl (cS, 132, .inl (fun _ => 0))), (q24, .inl (cS, 48, .inl (fun _ => 0))), (q32, .inl (cS, 12, .inl (fun _ => 0))), (q45, .inl (cS, 60, .inl (fun _ => 0)))] := hD
  refine lv_aload_n hx hb d_Md_init_56 rfl (lv_at hl 0 rfl) ?_
  refine lv_bipush (v := 12) hx hb d_Md_init_57 (by decide) ?_
  refine va_newa (ty := .int) (n := 12) (N' := 12) (a0 := (12, .inl (fun _ => 0))) hx hb (hts _ tw_39) rfl hK hP hD hS hA (fun _ => rfl) (by decide) (by decide) (by decide) (Nat.le_of_ble_eq_true rfl) (Nat.le_of_ble_eq_true rfl) d_Md_init_59 (fun q59 cA H hK1 hP hD hS => ?_)
  have hc : cI = cA := Option.some.inj ((hK1.2 0 (cI, .int) rfl).2.symm.trans (hK1.2 3 (cA, .int) rfl).2)
  subst hc
  have hP : va_P D gCl [(h0, .inr (9, [.ref (q7), .ref (q16), .int 0, .int 0, .int 0, .int 0, .int 0, .int 0, .int 0, .int 0, .int 0, .int 0, .int 0, .int 0, .int 0, .int 0, .int 0, .int 0, .int 0, .int 0, .int 0, .ref (q24), .ref (q32), .int (-1 : Int32), .int 0, .int 0, .ref (q45), .int (-6 : Int32), .int 0, .null, .null, .null, .null, .null, .int 0, .null, .null, .null, .null, .null, .null, .null, .null, .null, .int 0, .null, .null])), (q7, .inl (cI, 64, .inl (fun _ => 0))), (q16, .inl (cS, 132, .inl (fun _ => 0))), (q24, .inl (cS, 48, .inl (fun _ => 0))), (q32, .inl (cS, 12, .inl (fun _ => 0))), (q45, .inl (cS, 60, .inl (fun _ => 0))), (q59, .inl (cI, 12, .inl (fun _ => 0)))] H := hP
  have hD : va_D A [(h0, .inr (9, [.ref (q7), .ref (q16), .int 0, .int 0, .int 0, .int 0, .int 0, .int 0, .int 0, .int 0, .int 0, .int 0, .int 0, .int 0, .int 0, .int 0, .int 0, .int 0, .int 0, .int 0, .int 0, .ref (q24), .ref (q32), .int (-1 : Int32), .int 0, .int 0, .ref (q45), .int (-6 : Int32), .int 0, .null, .null, .null, .null, .null, .int 0, .null, .null, .null, .null, .null, .null, .null, .null, .null, .int 0, .null, .null])), (q7, .inl (cI, 64, .inl (fun _ => 0))), (q16, .inl (cS, 132, .inl (fun _ => 0))), (q24, .inl (cS, 48, .inl (fun _ => 0))), (q32, .inl (cS, 12, .inl (fun _ => 0))), (q45, .inl (cS, 60, .inl (fun _ => 0))), (q59, .inl (cI, 12, .inl (fun _ => 0)))] := hD
  refine va_putF (D := D) (ci := 9) (v := .ref (q59)) (ty := .array .int) (C := R_Md) (T := T_Md) (N := 47) hx hb hts i_Md t_Md o_Md n_Md hown hK hP hD hS 0 rfl rfl 29 (by decide) (hts _ tw_563) (fun _ h9 => h9) rfl hin rfl (by decide +kernel) rfl rfl (Nat.le_of_ble_eq_true rfl) d_Md_init_61 (fun H locs hP hD hS => ?_)
  have hP : va_P D gCl [(h0, .inr (9, [.ref (q7), .ref (q16), .int 0, .int 0, .int 0, .int 0, .int 0, .int 0, .int 0, .int 0, .int 0, .int 0, .int 0, .int 0, .int 0, .int 0, .int 0, .int 0, .int 0, .int 0, .int 0, .ref (q24), .ref (q32), .int (-1 : Int32), .int 0, .int 0, .ref (q45), .int (-6 : Int32), .int 0, .ref (q59), .null, .null, .null, .null, .int 0, .null, .null, .null, .null, .null, .null, .null, .null, .null, .int 0, .null, .null])), (q7, .inl (cI, 64, .inl (fun _ => 0))), (q16, .inl (cS, 132, .inl (fun _ => 0))), (q24, .inl (cS, 48, .inl (fun _ => 0))), (q32, .inl (cS, 12, .inl (fun _ => 0))), (q45, .inl (cS, 60, .inl (fun _ => 0))), (q59, .inl (cI, 12, .inl (fun _ => 0)))] H := hP
  have hD : va_D A [(h0, .inr (9, [.ref (q7), .ref (q16), .int 0, .int 0, .int 0, .int 0, .int 0, .int 0, .int 0, .int 0, .int 0, .int 0, .int 0, .int 0, .int 0, .int 0, .int 0, .int 0, .int 0, .int 0, .int 0, .ref (q24), .ref (q32), .int (-1 : Int32), .int 0, .int 0, .ref (q45), .int (-6 : Int32), .int 0, .ref (q59), .null, .null, .null, .null, .int 0, .null, .null, .null, .null, .null, .null, .null, .null, .null, .int 0, .null, .null])), (q7, .inl (cI, 64, .inl (fun _ => 0))), (q16, .inl (cS, 132, .inl (fun _ => 0))), (q24, .inl (cS, 48, .inl (fun _ => 0))), (q32, .inl (cS, 12, .inl (fun _ => 0))), (q45, .inl (cS, 60, .inl (fun _ => 0))), (q59, .inl (cI, 12, .inl (fun _ => 0)))] := hD
  refine lv_aload_n hx hb d_Md_init_64 rfl (lv_at hl 0 rfl) ?_
  refine lv_bipush (v := 12) hx hb d_Md_init_65 (by decide) ?_
  refine va_newa (ty := .int) (n := 12) (N' := 12) (a0 := (12, .inl (fun _ => 0))) hx hb (hts _ tw_39) rfl hK hP hD hS hA (fun _ => rfl) (by decide) (by decide) (by decide) (Nat.le_of_ble_eq_true rfl) (Nat.le_of_ble_eq_true rfl) d_Md_init_67 (fun q67 cA H hK1 hP hD hS => ?_)
  have hc : cI = cA := Option.some.inj ((hK1.2 0 (cI, .int) rfl).2.symm.trans (hK1.2 3 (cA, .int) rfl).2)
  subst hc
  have hP : va_P D gCl [(h0, .inr (9, [.ref (q7), .ref (q16), .int 0, .int 0, .int 0, .int 0, .int 0, .int 0, .int 0, .int 0, .int 0, .int 0, .int 0, .int 0, .int 0, .int 0, .int 0, .int 0, .int 0, .int 0, .int 0, .ref (q24), .ref (q32), .int (-1 : Int32), .int 0, .int 0, .ref (q45), .int (-6 : Int32), .int 0, .ref (q59), .null, .null, .null, .null, .int 0, .null, .null, .null, .null, .null, .null, .null, .null, .null, .int 0, .null, .null])), (q7, .inl (cI, 64, .inl (fun _ => 0))), (q16, .inl (cS, 132, .inl (fun _ => 0))), (q24, .inl (cS, 48, .inl (fun _ => 0))), (q32, .inl (cS, 12, .inl (fun _ => 0))), (q45, .inl (cS, 60, .inl (fun _ => 0))), (q59, .inl (cI, 12, .inl (fun _ => 0))), (q67, .inl (cI, 12, .inl (fun _ => 0)))] H := hP
  have hD : va_D A [(h0, .inr (9, [.ref (q7), .ref (q16), .int 0, .int 0, .int 0, .int 0, .int 0, .int 0, .int 0, .int 0, .int 0, .int 0, .int 0, .int 0, .int 0, .int 0, .int 0, .int 0, .int 0, .int 0, .int 0, .ref (q24), .ref (q32), .int (-1 : Int32), .int 0, .int 0, .ref (q45), .int (-6 : Int32), .int 0, .ref (q59), .null, .null, .null, .null, .int 0, .null, .null, .null, .null, .null, .null, .null, .null, .null, .int 0, .null, .null])), (q7, .inl (cI, 64, .inl (fun _ => 0))), (q16, .inl (cS, 132, .inl (fun _ => 0))), (q24, .inl (cS, 48, .inl (fun _ => 0))), (q32, .inl (cS, 12, .inl (fun _ => 0))), (q45, .inl (cS, 60, .inl (fun _ => 0))), (q59, .inl (cI, 12, .inl (fun _ => 0))), (q67, .inl (cI, 12, .inl (fun _ => 0)))] := hD
  refine va_putF (D := D) (ci := 9) (v := .ref (q67)) (ty := .array .int) (C := R_Md) (T := T_Md) (N := 47) hx hb hts i_Md t_Md o_Md n_Md hown hK hP hD hS 0 rfl rfl 30 (by decide) (hts _ tw_564) (fun _ h9 => h9) rfl hin rfl (by decide +kernel) rfl rfl (Nat.le_of_ble_eq_true rfl) d_Md_init_69 (fun H locs hP hD hS => ?_)
  have hP : va_P D gCl [(h0, .inr (9, [.ref (q7), .ref (q16), .int 0, .int 0, .int 0, .int 0, .int 0, .int 0, .int 0, .int 0, .int 0, .int 0, .int 0, .int 0, .int 0, .int 0, .int 0, .int 0, .int 0, .int 0, .int 0, .ref (q24), .ref (q32), .int (-1 : Int32), .int 0, .int 0, .ref (q45), .int (-6 : Int32), .int 0, .ref (q59), .ref (q67), .null, .null, .null, .int 0, .null, .null, .null, .null, .null, .null, .null, .null, .null, .int 0, .null, .null])), (q7, .inl (cI, 64, .inl (fun _ => 0))), (q16, .inl (cS, 132, .inl (fun _ => 0))), (q24, .inl (cS, 48, .inl (fun _ => 0))), (q32, .inl (cS, 12, .inl (fun _ => 0))), (q45, .inl (cS, 60, .inl (fun _ => 0))), (q59, .inl (cI, 12, .inl (fun _ => 0))), (q67, .inl (cI, 12, .inl (fun _ => 0)))] H := hP
  have hD : va_D A [(h0, .inr (9, [.ref (q7), .ref (q16), .int 0, .int 0, .int 0, .int 0, .int 0, .int 0, .int 0, .int 0, .int 0, .int 0, .int 0, .int 0, .int 0, .int 0, .int 0, .int 0, .int 0, .int 0, .int 0, .ref (q24), .ref (q32), .int (-1 : Int32), .int 0, .int 0, .ref (q45), .int (-6 : Int32), .int 0, .ref (q59), .ref (q67), .null, .null, .null, .int 0, .null, .null, .null, .null, .null, .null, .null, .null, .null, .int 0, .null, .null])), (q7, .inl (cI, 64, .inl (fun _ => 0))), (q16, .inl (cS, 132, .inl (fun _ => 0))), (q24, .inl (cS, 48, .inl (fun _ => 0))), (q32, .inl (cS, 12, .inl (fun _ => 0))), (q45, .inl (cS, 60, .inl (fun _ => 0))), (q59, .inl (cI, 12, .inl (fun _ => 0))), (q67, .inl (cI, 12, .inl (fun _ => 0)))] := hD
  refine lv_aload_n hx hb d_Md_init_72 rfl (lv_at hl 0 rfl) ?_
  refine lv_bipush (v := 12) hx hb d_Md_init_73 (by decide) ?_
  refine va_newa (ty := .int) (n := 12) (N' := 12) (a0 := (12, .inl (fun _ => 0))) hx hb (hts _ tw_39) rfl hK hP hD hS hA (fun _ => rfl) (by decide) (by decide) (by decide) (Nat.le_of_ble_eq_true rfl) (Nat.le_of_ble_eq_true rfl) d_Md_init_75 (fun q75 cA H hK1 hP hD hS => ?_)
  have hc : cI = cA := Option.some.inj ((hK1.2 0 (cI, .int) rfl).2.symm.trans (hK1.2 3 (cA, .int) rfl).2)
  subst hc
  have hP : va_P D gCl [(h0, .inr (9, [.ref (q7), .ref (q16), .int 0, .int 0, .int 0, .int 0, .int 0, .int 0, .int 0, .int 0, .int 0, .int 0, .int 0, .int 0, .int 0, .int 0, .int 0, .int 0, .int 0, .int 0, .int 0, .ref (q24), .ref (q32), .int (-1 : Int32), .int 0, .int 0, .ref (q45), .int (-6 : Int32), .int 0, .ref (q59), .ref (q67), .null, .null, .null, .int 0, .null, .null, .null, .null, .null, .null, .null, .null, .null, .int 0, .null, .null])), (q7, .inl (cI, 64, .inl (fun _ => 0))), (q16, .inl (cS, 132, .inl (fun _ => 0))), (q24, .inl (cS, 48, .inl (fun _ => 0))), (q32, .inl (cS, 12, .inl (fun _ => 0))), (q45, .inl (cS, 60, .inl (fun _ => 0))), (q59, .inl (cI, 12, .inl (fun _ => 0))), (q67, .inl (cI, 12, .inl (fun _ => 0))), (q75, .inl (cI, 12, .inl (fun _ => 0)))] H := hP
  have hD : va_D A [(h0, .inr (9, [.ref (q7), .ref (q16), .int 0, .int 0, .int 0, .int 0, .int 0, .int 0, .int 0, .int 0, .int 0, .int 0, .int 0, .int 0, .int 0, .int 0, .int 0, .int 0, .int 0, .int 0, .int 0, .ref (q24), .ref (q32), .int (-1 : Int32), .int 0, .int 0, .ref (q45), .int (-6 : Int32), .int 0, .ref (q59), .ref (q67), .null, .null, .null, .int 0, .null, .null, .null, .null, .null, .null, .null, .null, .null, .int 0, .null, .null])), (q7, .inl (cI, 64, .inl (fun _ => 0))), (q16, .inl (cS, 132, .inl (fun _ => 0))), (q24, .inl (cS, 48, .inl (fun _ => 0))), (q32, .inl (cS, 12, .inl (fun _ => 0))), (q45, .inl (cS, 60, .inl (fun _ => 0))), (q59, .inl (cI, 12, .inl (fun _ => 0))), (q67, .inl (cI, 12, .inl (fun _ => 0))), (q75, .inl (cI, 12, .inl (fun _ => 0)))] := hD
  refine va_putF (D := D) (ci := 9) (v := .ref (q75)) (ty := .array .int) (C := R_Md) (T := T_Md) (N := 47) hx hb hts i_Md t_Md o_Md n_Md hown hK hP hD hS 0 rfl rfl 31 (by decide) (hts _ tw_565) (fun _ h9 => h9) rfl hin rfl (by decide +kernel) rfl rfl (Nat.le_of_ble_eq_true rfl) d_Md_init_77 (fun H locs hP hD hS => ?_)
  have hP : va_P D gCl [(h0, .inr (9, [.ref (q7), .ref (q16), .int 0, .int 0, .int 0, .int 0, .int 0, .int 0, .int 0, .int 0, .int 0, .int 0, .int 0, .int 0, .int 0, .int 0, .int 0, .int 0, .int 0, .int 0, .int 0, .ref (q24), .ref (q32), .int (-1 : Int32), .int 0, .int 0, .ref (q45), .int (-6 : Int32), .int 0, .ref (q59), .ref (q67), .ref (q75), .null, .null, .int 0, .null, .null, .null, .null, .null, .null, .null, .null, .null, .int 0, .null, .null])), (q7, .inl (cI, 64, .inl (fun _ => 0))), (q16, .inl (cS, 132, .inl (fun _ => 0))), (q24, .inl (cS, 48, .inl (fun _ => 0))), (q32, .inl (cS, 12, .inl (fun _ => 0))), (q45, .inl (cS, 60, .inl (fun _ => 0))), (q59, .inl (cI, 12, .inl (fun _ => 0))), (q67, .inl (cI, 12, .inl (fun _ => 0))), (q75, .inl (cI, 12, .inl (fun _ => 0)))] H := hP
  have hD : va_D A [(h0, .inr (9, [.ref (q7), .ref (q16), .int 0, .int 0, .int 0, .int 0, .int 0, .int 0, .int 0, .int 0, .int 0, .int 0, .int 0, .int 0, .int 0, .int 0, .int 0, .int 0, .int 0, .int 0, .int 0, .ref (q24), .ref (q32), .int (-1 : Int32), .int 0, .int 0, .ref (q45), .int (-6 : Int32), .int 0, .ref (q59), .ref (q67), .ref (q75), .null, .null, .int 0, .null, .null, .null, .null, .null, .null, .null, .null, .null, .int 0, .null, .null])), (q7, .inl (cI, 64, .inl (fun _ => 0))), (q16, .inl (cS, 132, .inl (fun _ => 0))), (q24, .inl (cS, 48, .inl (fun _ => 0))), (q32, .inl (cS, 12, .inl (fun _ => 0))), (q45, .inl (cS, 60, .inl (fun _ => 0))), (q59, .inl (cI, 12, .inl (fun _ => 0))), (q67, .inl (cI, 12, .inl (fun _ => 0))), (q75, .inl (cI, 12, .inl (fun _ => 0)))] := hD
  refine lv_aload_n hx hb d_Md_init_80 rfl (lv_at hl 0 rfl) ?_
  refine lv_bipush (v := 12) hx hb d_Md_init_81 (by decide) ?_
  refine va_newa (ty := .int) (n := 12) (N' := 12) (a0 := (12, .inl (fun _ => 0))) hx hb (hts _ tw_39) rfl hK hP hD hS hA (fun _ => rfl) (by decide) (by decide) (by decide) (Nat.le_of_ble_eq_true rfl) (Nat.le_of_ble_eq_true rfl) d_Md_init_83 (fun q83 cA H hK1 hP hD hS => ?_)
  have hc : cI = cA := Option.some.inj ((hK1.2 0 (cI, .int) rfl).2.symm.trans (hK1.2 3 (cA, .int) rfl).2)
  subst hc
  have hP : va_P D gCl [(h0, .inr (9, [.ref (q7), .ref (q16), .int 0, .int 0, .int 0, .int 0, .int 0, .int 0, .int 0, .int 0, .int 0, .int 0, .int 0, .int 0, .int 0, .int 0, .int 0, .int 0, .int 0, .int 0, .int 0, .ref (q24), .ref (q32), .int (-1 : Int32), .int 0, .int 0, .ref (q45), .int (-6 : Int32), .int 0, .ref (q59), .ref (q67), .ref (q75), .null, .null, .int 0, .null, .null, .null, .null, .null, .null, .null, .null, .null, .int 0, .null, .null])), (q7, .inl (cI, 64, .inl (fun _ => 0))), (q16, .inl (cS, 132, .inl (fun _ => 0))), (q24, .inl (cS, 48, .inl (fun _ => 0))), (q32, .inl (cS, 12, .inl (fun _ => 0))), (q45, .inl (cS, 60, .inl (fun _ => 0))), (q59, .inl (cI, 12, .inl (fun _ => 0))), (q67, .inl (cI, 12, .inl (fun _ => 0))), (q75, .inl (cI, 12, .inl (fun _ => 0))), (q83, .inl (cI, 12, .inl (fun _ => 0)))] H := hP
  have hD : va_D A [(h0, .inr (9, [.ref (q7), .ref (q16), .int 0, .int 0, .int 0, .int 0, .int 0, .int 0, .int 0, .int 0, .int 0, .int 0, .int 0, .int 0, .int 0, .int 0, .int 0, .int 0, .int 0, .int 0, .int 0, .ref (q24), .ref (q32), .int (-1 : Int32), .int 0, .int 0, .ref (q45), .int (-6 : Int32), .int 0, .ref (q59), .ref (q67), .ref (q75), .null, .null, .int 0, .null, .null, .null, .null, .null, .null, .null, .null, .null, .int 0, .null, .null])), (q7, .inl (cI, 64, .inl (fun _ => 0))), (q16, .inl (cS, 132, .inl (fun _ => 0))), (q24, .inl (cS, 48, .inl (fun _ => 0))), (q32, .inl (cS, 12, .inl (fun _ => 0))), (q45, .inl (cS, 60, .inl (fun _ => 0))), (q59, .inl (cI, 12, .inl (fun _ => 0))), (q67, .inl (cI, 12, .inl (fun _ => 0))), (q75, .inl (cI, 12, .inl (fun _ => 0))), (q83, .inl (cI, 12, .inl (fun _ => 0)))] := hD
  refine va_putF (D := D) (ci := 9) (v := .ref (q83)) (ty := .array .int) (C := R_Md) (T := T_Md) (N := 47) hx hb hts i_Md t_Md o_Md n_Md hown hK hP hD hS 0 rfl rfl 32 (by decide) (hts _ tw_566) (fun _ h9 => h9) rfl hin rfl (by decide +kernel) rfl rfl (Nat.le_of_ble_eq_true rfl) d_Md_init_85 (fun H locs hP hD hS => ?_)
  have hP : va_P D gCl [(h0, .inr (9, [.ref (q7), .ref (q16), .int 0, .int 0, .int 0, .int 0, .int 0, .int 0, .int 0, .int 0, .int 0, .int 0, .int 0, .int 0, .int 0, .int 0, .int 0, .int 0, .int 0, .int 0, .int 0, .ref (q24), .ref (q32), .int (-1 : Int32), .int 0, .int 0, .ref (q45), .int (-6 : Int32), .int 0, .ref (q59), .ref (q67), .ref (q75), .ref (q83), .null, .int 0, .null, .null, .null, .null, .null, .null, .null, .null, .null, .int 0, .null, .null])), (q7, .inl (cI, 64, .inl (fun _ => 0))), (q16, .inl (cS, 132, .inl (fun _ => 0))), (q24, .inl (cS, 48, .inl (fun _ => 0))), (q32, .inl (cS, 12, .inl (fun _ => 0))), (q45, .inl (cS, 60, .inl (fun _ => 0))), (q59, .inl (cI, 12, .inl (fun _ => 0))), (q67, .inl (cI, 12, .inl (fun _ => 0))), (q75, .inl (cI, 12, .inl (fun _ => 0))), (q83, .inl (cI, 12, .inl (fun _ => 0)))] H := hP
  have hD : va_D A [(h0, .inr (9, [.ref (q7), .ref (q16), .int 0, .int 0, .int 0, .int 0, .int 0, .int 0, .int 0, .int 0, .int 0, .int 0, .int 0, .int 0, .int 0, .int 0, .int 0, .int 0, .int 0, .int 0, .int 0, .ref (q24), .ref (q32), .int (-1 : Int32), .int 0, .int 0, .ref (q45), .int (-6 : Int32), .int 0, .ref (q59), .ref (q67), .ref (q75), .ref (q83), .null, .int 0, .null, .null, .null, .null, .null, .null, .null, .null, .null, .int 0, .null, .null])), (q7, .inl (cI, 64, .inl (fun _ => 0))), (q16, .inl (cS, 132, .inl (fun _ => 0))), (q24, .inl (cS, 48, .inl (fun _ => 0))), (q32, .inl (cS, 12, .inl (fun _ => 0))), (q45, .inl (cS, 60, .inl (fun _ => 0))), (q59, .inl (cI, 12, .inl (fun _ => 0))), (q67, .inl (cI, 12, .inl (fun _ => 0))), (q75, .inl (cI, 12, .inl (fun _ => 0))), (q83, .inl (cI, 12, .inl (fun _ => 0)))] := hD
  refine lv_aload_n hx hb d_Md_init_88 rfl (lv_at hl 0 rfl) ?_
  refine lv_bipush (v := 12) hx hb d_Md_init_89 (by decide) ?_
  refine va_newa (ty := .int) (n := 12) (N' := 12) (a0 := (12, .inl (fun _ => 0))) hx hb (hts _ tw_39) rfl hK hP hD hS hA (fun _ => rfl) (by decide) (by decide) (by decide) (Nat.le_of_ble_eq_true rfl) (Nat.le_of_ble_eq_true rfl) d_Md_init_91 (fun q91 cA H hK1 hP hD hS => ?_)
  have hc : cI = cA := Option.some.inj ((hK1.2 0 (cI, .int) rfl).2.symm.trans (hK1.2 3 (cA, .int) rfl).2)
  subst hc
  have hP : va_P D gCl [(h0, .inr (9, [.ref (q7), .ref (q16), .int 0, .int 0, .int 0, .int 0, .int 0, .int 0, .int 0, .int 0, .int 0, .int 0, .int 0, .int 0, .int 0, .int 0, .int 0, .int 0, .int 0, .int 0, .int 0, .ref (q24), .ref (q32), .int (-1 : Int32), .int 0, .int 0, .ref (q45), .int (-6 : Int32), .int 0, .ref (q59), .ref (q67), .ref (q75), .ref (q83), .null, .int 0, .null, .null, .null, .null, .null, .null, .null, .null, .null, .int 0, .null, .null])), (q7, .inl (cI, 64, .inl (fun _ => 0))), (q16, .inl (cS, 132, .inl (fun _ => 0))), (q24, .inl (cS, 48, .inl (fun _ => 0))), (q32, .inl (cS, 12, .inl (fun _ => 0))), (q45, .inl (cS, 60, .inl (fun _ => 0))), (q59, .inl (cI, 12, .inl (fun _ => 0))), (q67, .inl (cI, 12, .inl (fun _ => 0))), (q75, .inl (cI, 12, .inl (fun _ => 0))), (q83, .inl (cI, 12, .inl (fun _ => 0))), (q91, .inl (cI, 12, .inl (fun _ => 0)))] H := hP
  have hD : va_D A [(h0, .inr (9, [.ref (q7), .ref (q16), .int 0, .int 0, .int 0, .int 0, .int 0, .int 0, .int 0, .int 0, .int 0, .int 0, .int 0, .int 0, .int 0, .int 0, .int 0, .int 0, .int 0, .int 0, .int 0, .ref (q24), .ref (q32), .int (-1 : Int32), .int 0, .int 0, .ref (q45), .int (-6 : Int32), .int 0, .ref (q59), .ref (q67), .ref (q75), .ref (q83), .null, .int 0, .null, .null, .null, .null, .null, .null, .null, .null, .null, .int 0, .null, .null])), (q7, .inl (cI, 64, .inl (fun _ => 0))), (q16, .inl (cS, 132, .inl (fun _ => 0))), (q24, .inl (cS, 48, .inl (fun _ => 0))), (q32, .inl (cS, 12, .inl (fun _ => 0))), (q45, .inl (cS, 60, .inl (fun _ => 0))), (q59, .inl (cI, 12, .inl (fun _ => 0))), (q67, .inl (cI, 12, .inl (fun _ => 0))), (q75, .inl (cI, 12, .inl (fun _ => 0))), (q83, .inl (cI, 12, .inl (fun _ => 0))), (q91, .inl (cI, 12, .inl (fun _ => 0)))] := hD
  refine va_putF (D := D) (ci := 9) (v := .ref (q91)) (ty := .array .int) (C := R_Md) (T := T_Md) (N := 47) hx hb hts i_Md t_Md o_Md n_Md hown hK hP hD hS 0 rfl rfl 33 (by decide) (hts _ tw_567) (fun _ h9 => h9) rfl hin rfl (by decide +kernel) rfl rfl (Nat.le_of_ble_eq_true rfl) d_Md_init_93 (fun H locs hP hD hS => ?_)
  have hP : va_P D gCl [(h0, .inr (9, [.ref (q7), .ref (q16), .int 0, .int 0, .int 0, .int 0, .int 0, .int 0, .int 0, .int 0, .int 0, .int 0, .int 0, .int 0, .int 0, .int 0, .int 0, .int 0, .int 0, .int 0, .int 0, .ref (q24), .ref (q32), .int (-1 : Int32), .int 0, .int 0, .ref (q45), .int (-6 : Int32), .int 0, .ref (q59), .ref (q67), .ref (q75), .ref (q83), .ref (q91), .int 0, .null, .null, .null, .null, .null, .null, .null, .null, .null, .int 0, .null, .null])), (q7, .inl (cI, 64, .inl (fun _ => 0))), (q16, .inl (cS, 132, .inl (fun _ => 0))), (q24, .inl (cS, 48, .inl (fun _ => 0))), (q32, .inl (cS, 12, .inl (fun _ => 0))), (q45, .inl (cS, 60, .inl (fun _ => 0))), (q59, .inl (cI, 12, .inl (fun _ => 0))), (q67, .inl (cI, 12, .inl (fun _ => 0))), (q75, .inl (cI, 12, .inl (fun _ => 0))), (q83, .inl (cI, 12, .inl (fun _ => 0))), (q91, .inl (cI, 12, .inl (fun _ => 0)))] H := hP
  have hD : va_D A [(h0, .inr (9, [.ref (q7), .ref (q16), .int 0, .int 0, .int 0, .int 0, .int 0, .int 0, .int 0, .int 0, .int 0, .int 0, .int 0, .int 0, .int 0, .int 0, .int 0, .int 0, .int 0, .int 0, .int 0, .ref (q24), .ref (q32), .int (-1 : Int32), .int 0, .int 0, .ref (q45), .int (-6 : Int32), .int 0, .ref (q59), .ref (q67), .ref (q75), .ref (q83), .ref (q91), .int 0, .null, .null, .null, .null, .null, .null, .null, .null, .null, .int 0, .null, .null])), (q7, .inl (cI, 64, .inl (fun _ => 0))), (q16, .inl (cS, 132, .inl (fun _ => 0))), (q24, .inl (cS, 48, .inl (fun _ => 0))), (q32, .inl (cS, 12, .inl (fun _ => 0))), (q45, .inl (cS, 60, .inl (fun _ => 0))), (q59, .inl (cI, 12, .inl (fun _ => 0))), (q67, .inl (cI, 12, .inl (fun _ => 0))), (q75, .inl (cI, 12, .inl (fun _ => 0))), (q83, .inl (cI, 12, .inl (fun _ => 0))), (q91, .inl (cI, 12, .inl (fun _ => 0)))] := hD
  refine lv_aload_n hx hb d_Md_init_96 rfl (lv_at hl 0 rfl) ?_
  refine lv_bipush (v := 64) hx hb d_Md_init_97 (by decide) ?_
  refine va_newa (ty := .int) (n := 64) (N' := 64) (a0 := (64, .inl (fun _ => 0))) hx hb (hts _ tw_39) rfl hK hP hD hS hA (fun _ => rfl) (by decide) (by decide) (by decide) (Nat.le_of_ble_eq_true rfl) (Nat.le_of_ble_eq_true rfl) d_Md_init_99 (fun q99 cA H hK1 hP hD hS => ?_)
  have hc : cI = cA := Option.some.inj ((hK1.2 0 (cI, .int) rfl).2.symm.trans (hK1.2 3 (cA, .int) rfl).2)
  subst hc
  have hP : va_P D gCl [(h0, .inr (9, [.ref (q7), .ref (q16), .int 0, .int 0, .int 0, .int 0, .int 0, .int 0, .int 0, .int 0, .int 0, .int 0, .int 0, .int 0, .int 0, .int 0, .int 0, .int 0, .int 0, .int 0, .int 0, .ref (q24), .ref (q32), .int (-1 : Int32), .int 0, .int 0, .ref (q45), .int (-6 : Int32), .int 0, .ref (q59), .ref (q67), .ref (q75), .ref (q83), .ref (q91), .int 0, .null, .null, .null, .null, .null, .null, .null, .null, .null, .int 0, .null, .null])), (q7, .inl (cI, 64, .inl (fun _ => 0))), (q16, .inl (cS, 132, .inl (fun _ => 0))), (q24, .inl (cS, 48, .inl (fun _ => 0))), (q32, .inl (cS, 12, .inl (fun _ => 0))), (q45, .inl (cS, 60, .inl (fun _ => 0))), (q59, .inl (cI, 12, .inl (fun _ => 0))), (q67, .inl (cI, 12, .inl (fun _ => 0))), (q75, .inl (cI, 12, .inl (fun _ => 0))), (q83, .inl (cI, 12, .inl (fun _ => 0))), (q91, .inl (cI, 12, .inl (fun _ => 0))), (q99, .inl (cI, 64, .inl (fun _ => 0)))] H := hP
  have hD : va_D A [(h0, .inr (9, [.ref (q7), .ref (q16), .int 0, .int 0, .int 0, .int 0, .int 0, .int 0, .int 0, .int 0, .int 0, .int 0, .int 0, .int 0, .int 0, .int 0, .int 0, .int 0, .int 0, .int 0, .int 0, .ref (q24), .ref (q32), .int (-1 : Int32), .int 0, .int 0, .ref (q45), .int (-6 : Int32), .int 0, .ref (q59), .ref (q67), .ref (q75), .ref (q83), .ref (q91), .int 0, .null, .null, .null, .null, .null, .null, .null, .null, .null, .int 0, .null, .null])), (q7, .inl (cI, 64, .inl (fun _ => 0))), (q16, .inl (cS, 132, .inl (fun _ => 0))), (q24, .inl (cS, 48, .inl (fun _ => 0))), (q32, .inl (cS, 12, .inl (fun _ => 0))), (q45, .inl (cS, 60, .inl (fun _ => 0))), (q59, .inl (cI, 12, .inl (fun _ => 0))), (q67, .inl (cI, 12, .inl (fun _ => 0))), (q75, .inl (cI, 12, .inl (fun _ => 0))), (q83, .inl (cI, 12, .inl (fun _ => 0))), (q91, .inl (cI, 12, .inl (fun _ => 0))), (q99, .inl (cI, 64, .inl (fun _ => 0)))] := hD
  refine va_putF (D := D) (ci := 9) (v := .ref (q99)) (ty := .array .int) (C := R_Md) (T := T_Md) (N := 47) hx hb hts i_Md t_Md o_Md n_Md hown hK hP hD hS 0 rfl rfl 35 (by decide) (hts _ tw_569) (fun _ h9 => h9) rfl hin rfl (by decide +kernel) rfl rfl (Nat.le_of_ble_eq_true rfl) d_Md_init_101 (fun H locs hP hD hS => ?_)
  have hP : va_P D gCl [(h0, .inr (9, [.ref (q7), .ref (q16), .int 0, .int 0, .int 0, .int 0, .int 0, .int 0, .int 0, .int 0, .int 0, .int 0, .int 0, .int 0, .int 0, .int 0, .int 0, .int 0, .int 0, .int 0, .int 0, .ref (q24), .ref (q32), .int (-1 : Int32), .int 0, .int 0, .ref (q45), .int (-6 : Int32), .int 0, .ref (q59), .ref (q67), .ref (q75), .ref (q83), .ref (q91), .int 0, .ref (q99), .null, .null, .null, .null, .null, .null, .null, .null, .int 0, .null, .null])), (q7, .inl (cI, 64, .inl (fun _ => 0))), (q16, .inl (cS, 132, .inl (fun _ => 0))), (q24, .inl (cS, 48, .inl (fun _ => 0))), (q32, .inl (cS, 12, .inl (fun _ => 0))), (q45, .inl (cS, 60, .inl (fun _ => 0))), (q59, .inl (cI, 12, .inl (fun _ => 0))), (q67, .inl (cI, 12, .inl (fun _ => 0))), (q75, .inl (cI, 12, .inl (fun _ => 0))), (q83, .inl (cI, 12, .inl (fun _ => 0))), (q91, .inl (cI, 12, .inl (fun _ => 0))), (q99, .inl (cI, 64, .inl (fun _ => 0)))] H := hP
  have hD : va_D A [(h0, .inr (9, [.ref (q7), .ref (q16), .int 0, .int 0, .int 0, .int 0, .int 0, .int 0, .int 0, .int 0, .int 0, .int 0, .int 0, .int 0, .int 0, .int 0, .int 0, .int 0, .int 0, .int 0, .int 0, .ref (q24), .ref (q32), .int (-1 : Int32), .int 0, .int 0, .ref (q45), .int (-6 : Int32), .int 0, .ref (q59), .ref (q67), .ref (q75), .ref (q83), .ref (q91), .int 0, .ref (q99), .null, .null, .null, .null, .null, .null, .null, .null, .int 0, .null, .null])), (q7, .inl (cI, 64, .inl (fun _ => 0))), (q16, .inl (cS, 132, .inl (fun _ => 0))), (q24, .inl (cS, 48, .inl (fun _ => 0))), (q32, .inl (cS, 12, .inl (fun _ => 0))), (q45, .inl (cS, 60, .inl (fun _ => 0))), (q59, .inl (cI, 12, .inl (fun _ => 0))), (q67, .inl (cI, 12, .inl (fun _ => 0))), (q75, .inl (cI, 12, .inl (fun _ => 0))), (q83, .inl (cI, 12, .inl (fun _ => 0))), (q91, .inl (cI, 12, .inl (fun _ => 0))), (q99, .inl (cI, 64, .inl (fun _ => 0)))] := hD
  refine lv_aload_n hx hb d_Md_init_104 rfl (lv_at hl 0 rfl) ?_
  refine lv_bipush (v := 64) hx hb d_Md_init_105 (by decide) ?_
  refine va_newa (ty := .int) (n := 64) (N' := 64) (a0 := (64, .inl (fun _ => 0))) hx hb (hts _ tw_39) rfl hK hP hD hS hA (fun _ => rfl) (by decide) (by decide) (by decide) (Nat.le_of_ble_eq_true rfl) (Nat.le_of_ble_eq_true rfl) d_Md_init_107 (fun q107 cA H hK1 hP hD hS => ?_)
  have hc : cI = cA := Option.some.inj ((hK1.2 0 (cI, .int) rfl).2.symm.trans (hK1.2 3 (cA, .int) rfl).2)
  subst hc
  have hP : va_P D gCl [(h0, .inr (9, [.ref (q7), .ref (q16), .int 0, .int 0, .int 0, .int 0, .int 0, .int 0, .int 0, .int 0, .int 0, .int 0, .int 0, .int 0, .int 0, .int 0, .int 0, .int 0, .int 0, .int 0, .int 0, .ref (q24), .ref (q32), .int (-1 : Int32), .int 0, .int 0, .ref (q45), .int (-6 : Int32), .int 0, .ref (q59), .ref (q67), .ref (q75), .ref (q83), .ref (q91), .int 0, .ref (q99), .null, .null, .null, .null, .null, .null, .null, .null, .int 0, .null, .null])), (q7, .inl (cI, 64, .inl (fun _ => 0))), (q16, .inl (cS, 132, .inl (fun _ => 0))), (q24, .inl (cS, 48, .inl (fun _ => 0))), (q32, .inl (cS, 12, .inl (fun _ => 0))), (q45, .inl (cS, 60, .inl (fun _ => 0))), (q59, .inl (cI, 12, .inl (fun _ => 0))), (q67, .inl (cI, 12, .inl (fun _ => 0))), (q75, .inl (cI, 12, .inl (fun _ => 0))), (q83, .inl (cI, 12, .inl (fun _ => 0))), (q91, .inl (cI, 12, .inl (fun _ => 0))), (q99, .inl (cI, 64, .inl (fun _ => 0))), (q107, .inl (cI, 64, .inl (fun _ => 0)))] H := hP
  have hD : va_D A [(h0, .inr (9, [.ref (q7), .ref (q16), .int 0, .int 0, .int 0, .int 0, .int 0, .int 0, .int 0, .int 0, .int 0, .int 0, .int 0, .int 0, .int 0, .int 0, .int 0, .int 0, .int 0, .int 0, .int 0, .ref (q24), .ref (q32), .int (-1 : Int32), .int 0, .int 0, .ref (q45), .int (-6 : Int32), .int 0, .ref (q59), .ref (q67), .ref (q75), .ref (q83), .ref (q91), .int 0, .ref (q99), .null, .null, .null, .null, .null, .null, .null, .null, .int 0, .null, .null])), (q7, .inl (cI, 64, .inl (fun _ => 0))), (q16, .inl (cS, 132, .inl (fun _ => 0))), (q24, .inl (cS, 48, .inl (fun _ => 0))), (q32, .inl (cS, 12, .inl (fun _ => 0))), (q45, .inl (cS, 60, .inl (fun _ => 0))), (q59, .inl (cI, 12, .inl (fun _ => 0))), (q67, .inl (cI, 12, .inl (fun _ => 0))), (q75, .inl (cI, 12, .inl (fun _ => 0))), (q83, .inl (cI, 12, .inl (fun _ => 0))), (q91, .inl (cI, 12, .inl (fun _ => 0))), (q99, .inl (cI, 64, .inl (fun _ => 0))), (q107, .inl (cI, 64, .inl (fun _ => 0)))] := hD
  refine va_putF (D := D) (ci := 9) (v := .ref (q107)) (ty := .array .int) (C := R_Md) (T := T_Md) (N := 47) hx hb hts i_Md t_Md o_Md n_Md hown hK hP hD hS 0 rfl rfl 36 (by decide) (hts _ tw_570) (fun _ h9 => h9) rfl hin rfl (by decide +kernel) rfl rfl (Nat.le_of_ble_eq_true rfl) d_Md_init_109 (fun H locs hP hD hS => ?_)
  have hP : va_P D gCl [(h0, .inr (9, [.ref (q7), .ref (q16), .int 0, .int 0, .int 0, .int 0, .int 0, .int 0, .int 0, .int 0, .int 0, .int 0, .int 0, .int 0, .int 0, .int 0, .int 0, .int 0, .int 0, .int 0, .int 0, .ref (q24), .ref (q32), .int (-1 : Int32), .int 0, .int 0, .ref (q45), .int (-6 : Int32), .int 0, .ref (q59), .ref (q67), .ref (q75), .ref (q83), .ref (q91), .int 0, .ref (q99), .ref (q107), .null, .null, .null, .null, .null, .null, .null, .int 0, .null, .null])), (q7, .inl (cI, 64, .inl (fun _ => 0))), (q16, .inl (cS, 132, .inl (fun _ => 0))), (q24, .inl (cS, 48, .inl (fun _ => 0))), (q32, .inl (cS, 12, .inl (fun _ => 0))), (q45, .inl (cS, 60, .inl (fun _ => 0))), (q59, .inl (cI, 12, .inl (fun _ => 0))), (q67, .inl (cI, 12, .inl (fun _ => 0))), (q75, .inl (cI, 12, .inl (fun _ => 0))), (q83, .inl (cI, 12, .inl (fun _ => 0))), (q91, .inl (cI, 12, .inl (fun _ => 0))), (q99, .inl (cI, 64, .inl (fun _ => 0))), (q107, .inl (cI, 64, .inl (fun _ => 0)))] H := hP
  have hD : va_D A [(h0, .inr (9, [.ref (q7), .ref (q16), .int 0, .int 0, .int 0, .int 0, .int 0, .int 0, .int 0, .int 0, .int 0, .int 0, .int 0, .int 0, .int 0, .int 0, .int 0, .int 0, .int 0, .int 0, .int 0, .ref (q24), .ref (q32), .int (-1 : Int32), .int 0, .int 0, .ref (q45), .int (-6 : Int32), .int 0, .ref (q59), .ref (q67), .ref (q75), .ref (q83), .ref (q91), .int 0, .ref (q99), .ref (q107), .null, .null, .null, .null, .null, .null, .null, .int 0, .null, .null])), (q7, .inl (cI, 64, .inl (fun _ => 0))), (q16, .inl (cS, 132, .inl (fun _ => 0))), (q24, .inl (cS, 48, .inl (fun _ => 0))), (q32, .inl (cS, 12, .inl (fun _ => 0))), (q45, .inl (cS, 60, .inl (fun _ => 0))), (q59, .inl (cI, 12, .inl (fun _ => 0))), (q67, .inl (cI, 12, .inl (fun _ => 0))), (q75, .inl (cI, 12, .inl (fun _ => 0))), (q83, .inl (cI, 12, .inl (fun _ => 0))), (q91, .inl (cI, 12, .inl (fun _ => 0))), (q99, .inl (cI, 64, .inl (fun _ => 0))), (q107, .inl (cI, 64, .inl (fun _ => 0)))] := hD
  refine lv_aload_n hx hb d_Md_init_112 rfl (lv_at hl 0 rfl) ?_
  refine lv_bipush (v := 64) hx hb d_Md_init_113 (by decide) ?_
  refine va_newa (ty := .int) (n := 64) (N' := 64) (a0 := (64, .inl (fun _ => 0))) hx hb (hts _ tw_39) rfl hK hP hD hS hA (fun _ => rfl) (by decide) (by decide) (by decide) (Nat.le_of_ble_eq_true rfl) (Nat.le_of_ble_eq_true rfl) d_Md_init_115 (fun q115 cA H hK1 hP hD hS => ?_)
  have hc : cI = cA := Option.some.inj ((hK1.2 0 (cI, .int) rfl).2.symm.trans (hK1.2 3 (cA, .int) rfl).2)
  subst hc
  have hP : va_P D gCl [(h0, .inr (9, [.ref (q7), .ref (q16), .int 0, .int 0, .int 0, .int 0, .int 0, .int 0, .int 0, .int 0, .int 0, .int 0, .int 0, .int 0, .int 0, .int 0, .int 0, .int 0, .int 0, .int 0, .int 0, .ref (q24), .ref (q32), .int (-1 : Int32), .int 0, .int 0, .ref (q45), .int (-6 : Int32), .int 0, .ref (q59), .ref (q67), .ref (q75), .ref (q83), .ref (q91), .int 0, .ref (q99), .ref (q107), .null, .null, .null, .null, .null, .null, .null, .int 0, .null, .null])), (q7, .inl (cI, 64, .inl (fun _ => 0))), (q16, .inl (cS, 132, .inl (fun _ => 0))), (q24, .inl (cS, 48, .inl (fun _ => 0))), (q32, .inl (cS, 12, .inl (fun _ => 0))), (q45, .inl (cS, 60, .inl (fun _ => 0))), (q59, .inl (cI, 12, .inl (fun _ => 0))), (q67, .inl (cI, 12, .inl (fun _ => 0))), (q75, .inl (cI, 12, .inl (fun _ => 0))), (q83, .inl (cI, 12, .inl (fun _ => 0))), (q91, .inl (cI, 12, .inl (fun _ => 0))), (q99, .inl (cI, 64, .inl (fun _ => 0))), (q107, .inl (cI, 64, .inl (fun _ => 0))), (q115, .inl (cI, 64, .inl (fun _ => 0)))] H := hP
  have hD : va_D A [(h0, .inr (9, [.ref (q7), .ref (q16), .int 0, .int 0, .int 0, .int 0, .int 0, .int 0, .int 0, .int 0, .int 0, .int 0, .int 0, .int 0, .int 0, .int 0, .int 0, .int 0, .int 0, .int 0, .int 0, .ref (q24), .ref (q32), .int (-1 : Int32), .int 0, .int 0, .ref (q45), .int (-6 : Int32), .int 0, .ref (q59), .ref (q67), .ref (q75), .ref (q83), .ref (q91), .int 0, .ref (q99), .ref (q107), .null, .null, .null, .null, .null, .null, .null, .int 0, .null, .null])), (q7, .inl (cI, 64, .inl (fun _ => 0))), (q16, .inl (cS, 132, .inl (fun _ => 0))), (q24, .inl (cS, 48, .inl (fun _ => 0))), (q32, .inl (cS, 12, .inl (fun _ => 0))), (q45, .inl (cS, 60, .inl (fun _ => 0))), (q59, .inl (cI, 12, .inl (fun _ => 0))), (q67, .inl (cI, 12, .inl (fun _ => 0))), (q75, .inl (cI, 12, .inl (fun _ => 0))), (q83, .inl (cI, 12, .inl (fun _ => 0))), (q91, .inl (cI, 12, .inl (fun _ => 0))), (q99, .inl (cI, 64, .inl (fun _ => 0))), (q107, .inl (cI, 64, .inl (fun _ => 0))), (q115, .inl (cI, 64, .inl (fun _ => 0)))] := hD
  refine va_putF (D := D) (ci := 9) (v := .ref (q115)) (ty := .array .int) (C := R_Md) (T := T_Md) (N := 47) hx hb hts i_Md t_Md o_Md n_Md hown hK hP hD hS 0 rfl rfl 37 (by decide) (hts _ tw_571) (fun _ h9 => h9) rfl hin rfl (by decide +kernel) rfl rfl (Nat.le_of_ble_eq_true rfl) d_Md_init_117 (fun H locs hP hD hS => ?_)
  have hP : va_P D gCl [(h0, .inr (9, [.ref (q7), .ref (q16), .int 0, .int 0, .int 0, .int 0, .int 0, .int 0, .int 0, .int 0, .int 0, .int 0, .int 0, .int 0, .int 0, .int 0, .int 0, .int 0, .int 0, .int 0, .int 0, .ref (q24), .ref (q32), .int (-1 : Int32), .int 0, .int 0, .ref (q45), .int (-6 : Int32), .int 0, .ref (q59), .ref (q67), .ref (q75), .ref (q83), .ref (q91), .int 0, .ref (q99), .ref (q107), .ref (q115), .null, .null, .null, .null, .null, .null, .int 0, .null, .null])), (q7, .inl (cI, 64, .inl (fun _ => 0))), (q16, .inl (cS, 132, .inl (fun _ => 0))), (q24, .inl (cS, 48, .inl (fun _ => 0))), (q32, .inl (cS, 12, .inl (fun _ => 0))), (q45, .inl (cS, 60, .inl (fun _ => 0))), (q59, .inl (cI, 12, .inl (fun _ => 0))), (q67, .inl (cI, 12, .inl (fun _ => 0))), (q75, .inl (cI, 12, .inl (fun _ => 0))), (q83, .inl (cI, 12, .inl (fun _ => 0))), (q91, .inl (cI, 12, .inl (fun _ => 0))), (q99, .inl (cI, 64, .inl (fun _ => 0))), (q107, .inl (cI, 64, .inl (fun _ => 0))), (q115, .inl (cI, 64, .inl (fun _ => 0)))] H := hP
  have hD : va_D A [(h0, .inr (9, [.ref (q7), .ref (q16), .int 0, .int 0, .int 0, .int 0, .int 0, .int 0, .int 0, .int 0, .int 0, .int 0, .int 0, .int 0, .int 0, .int 0, .int 0, .int 0, .int 0, .int 0, .int 0, .ref (q24), .ref (q32), .int (-1 : Int32), .int 0, .int 0, .ref (q45), .int (-6 : Int32), .int 0, .ref (q59), .ref (q67), .ref (q75), .ref (q83), .ref (q91), .int 0, .ref (q99), .ref (q107), .ref (q115), .null, .null, .null, .null, .null, .null, .int 0, .null, .null])), (q7, .inl (cI, 64, .inl (fun _ => 0))), (q16, .inl (cS, 132, .inl (fun _ => 0))), (q24, .inl (cS, 48, .inl (fun _ => 0))), (q32, .inl (cS, 12, .inl (fun _ => 0))), (q45, .inl (cS, 60, .inl (fun _ => 0))), (q59, .inl (cI, 12, .inl (fun _ => 0))), (q67, .inl (cI, 12, .inl (fun _ => 0))), (q75, .inl (cI, 12, .inl (fun _ => 0))), (q83, .inl (cI, 12, .inl (fun _ => 0))), (q91, .inl (cI, 12, .inl (fun _ => 0))), (q99, .inl (cI, 64, .inl (fun _ => 0))), (q107, .inl (cI, 64, .inl (fun _ => 0))), (q115, .inl (cI, 64, .inl (fun _ => 0)))] := hD
  refine lv_aload_n hx hb d_Md_init_120 rfl (lv_at hl 0 rfl) ?_
  refine lv_bipush (v := 64) hx hb d_Md_init_121 (by decide) ?_
  refine va_newa (ty := .int) (n := 64) (N' := 64) (a0 := (64, .inl (fun _ => 0))) hx hb (hts _ tw_39) rfl hK hP hD hS hA (fun _ => rfl) (by decide) (by decide) (by decide) (Nat.le_of_ble_eq_true rfl) (Nat.le_of_ble_eq_true rfl) d_Md_init_123 (fun q123 cA H hK1 hP hD hS => ?_)
  have hc : cI = cA := Option.some.inj ((hK1.2 0 (cI, .int) rfl).2.symm.trans (hK1.2 3 (cA, .int) rfl).2)
  subst hc
  have hP : va_P D gCl [(h0, .inr (9, [.ref (q7), .ref (q16), .int 0, .int 0, .int 0, .int 0, .int 0, .int 0, .int 0, .int 0, .int 0, .int 0, .int 0, .int 0, .int 0, .int 0, .int 0, .int 0, .int 0, .int 0, .int 0, .ref (q24), .ref (q32), .int (-1 : Int32), .int 0, .int 0, .ref (q45), .int (-6 : Int32), .int 0, .ref (q59), .ref (q67), .ref (q75), .ref (q83), .ref (q91), .int 0, .ref (q99), .ref (q107), .ref (q115), .null, .null, .null, .null, .null, .null, .int 0, .null, .null])), (q7, .inl (cI, 64, .inl (fun _ => 0))), (q16, .inl (cS, 132, .inl (fun _ => 0))), (q24, .inl (cS, 48, .inl (fun _ => 0))), (q32, .inl (cS, 12, .inl (fun _ => 0))), (q45, .inl (cS, 60, .inl (fun _ => 0))), (q59, .inl (cI, 12, .inl (fun _ => 0))), (q67, .inl (cI, 12, .inl (fun _ => 0))), (q75, .inl (cI, 12, .inl (fun _ => 0))), (q83, .inl (cI, 12, .inl (fun _ => 0))), (q91, .inl (cI, 12, .inl (fun _ => 0))), (q99, .inl (cI, 64, .inl (fun _ => 0))), (q107, .inl (cI, 64, .inl (fun _ => 0))), (q115, .inl (cI, 64, .inl (fun _ => 0))), (q123, .inl (cI, 64, .inl (fun _ => 0)))] H := hP
  have hD : va_D A [(h0, .inr (9, [.ref (q7), .ref (q16), .int 0, .int 0, .int 0, .int 0, .int 0, .int 0, .int 0, .int 0, .int 0, .int 0, .int 0, .int 0, .int 0, .int 0, .int 0, .int 0, .int 0, .int 0, .int 0, .ref (q24), .ref (q32), .int (-1 : Int32), .int 0, .int 0, .ref (q45), .int (-6 : Int32), .int 0, .ref (q59), .ref (q67), .ref (q75), .ref (q83), .ref (q91), .int 0, .ref (q99), .ref (q107), .ref (q115), .null, .null, .null, .null, .null, .null, .int 0, .null, .null])), (q7, .inl (cI, 64, .inl (fun _ => 0))), (q16, .inl (cS, 132, .inl (fun _ => 0))), (q24, .inl (cS, 48, .inl (fun _ => 0))), (q32, .inl (cS, 12, .inl (fun _ => 0))), (q45, .inl (cS, 60, .inl (fun _ => 0))), (q59, .inl (cI, 12, .inl (fun _ => 0))), (q67, .inl (cI, 12, .inl (fun _ => 0))), (q75, .inl (cI, 12, .inl (fun _ => 0))), (q83, .inl (cI, 12, .inl (fun _ => 0))), (q91, .inl (cI, 12, .inl (fun _ => 0))), (q99, .inl (cI, 64, .inl (fun _ => 0))), (q107, .inl (cI, 64, .inl (fun _ => 0))), (q115, .inl (cI, 64, .inl (fun _ => 0))), (q123, .inl (cI, 64, .inl (fun _ => 0)))] := hD
  refine va_putF (D := D) (ci := 9) (v := .ref (q123)) (ty := .array .int) (C := R_Md) (T := T_Md) (N := 47) hx hb hts i_Md t_Md o_Md n_Md hown hK hP hD hS 0 rfl rfl 38 (by decide) (hts _ tw_572) (fun _ h9 => h9) rfl hin rfl (by decide +kernel) rfl rfl (Nat.le_of_ble_eq_true rfl) d_Md_init_125 (fun H locs hP hD hS => ?_)
  have hP : va_P D gCl [(h0, .inr (9, [.ref (q7), .ref (q16), .int 0, .int 0, .int 0, .int 0, .int 0, .int 0, .int 0, .int 0, .int 0, .int 0, .int 0, .int 0, .int 0, .int 0, .int 0, .int 0, .int 0, .int 0, .int 0, .ref (q24), .ref (q32), .int (-1 : Int32), .int 0, .int 0, .ref (q45), .int (-6 : Int32), .int 0, .ref (q59), .ref (q67), .ref (q75), .ref (q83), .ref (q91), .int 0, .ref (q99), .ref (q107), .ref (q115), .ref (q123), .null, .null, .null, .null, .null, .int 0, .null, .null])), (q7, .inl (cI, 64, .inl (fun _ => 0))), (q16, .inl (cS, 132, .inl (fun _ => 0))), (q24, .inl (cS, 48, .inl (fun _ => 0))), (q32, .inl (cS, 12, .inl (fun _ => 0))), (q45, .inl (cS, 60, .inl (fun _ => 0))), (q59, .inl (cI, 12, .inl (fun _ => 0))), (q67, .inl (cI, 12, .inl (fun _ => 0))), (q75, .inl (cI, 12, .inl (fun _ => 0))), (q83, .inl (cI, 12, .inl (fun _ => 0))), (q91, .inl (cI, 12, .inl (fun _ => 0))), (q99, .inl (cI, 64, .inl (fun _ => 0))), (q107, .inl (cI, 64, .inl (fun _ => 0))), (q115, .inl (cI, 64, .inl (fun _ => 0))), (q123, .inl (cI, 64, .inl (fun _ => 0)))] H := hP
  have hD : va_D A [(h0, .inr (9, [.ref (q7), .ref (q16), .int 0, .int 0, .int 0, .int 0, .int 0, .int 0, .int 0, .int 0, .int 0, .int 0, .int 0, .int 0, .int 0, .int 0, .int 0, .int 0, .int 0, .int 0, .int 0, .ref (q24), .ref (q32), .int (-1 : Int32), .int 0, .int 0, .ref (q45), .int (-6 : Int32), .int 0, .ref (q59), .ref (q67), .ref (q75), .ref (q83), .ref (q91), .int 0, .ref (q99), .ref (q107), .ref (q115), .ref (q123), .null, .null, .null, .null, .null, .int 0, .null, .null])), (q7, .inl (cI, 64, .inl (fun _ => 0))), (q16, .inl (cS, 132, .inl (fun _ => 0))), (q24, .inl (cS, 48, .inl (fun _ => 0))), (q32, .inl (cS, 12, .inl (fun _ => 0))), (q45, .inl (cS, 60, .inl (fun _ => 0))), (q59, .inl (cI, 12, .inl (fun _ => 0))), (q67, .inl (cI, 12, .inl (fun _ => 0))), (q75, .inl (cI, 12, .inl (fun _ => 0))), (q83, .inl (cI, 12, .inl (fun _ => 0))), (q91, .inl (cI, 12, .inl (fun _ => 0))), (q99, .inl (cI, 64, .inl (fun _ => 0))), (q107, .inl (cI, 64, .inl (fun _ => 0))), (q115, .inl (cI, 64, .inl (fun _ => 0))), (q123, .inl (cI, 64, .inl (fun _ => 0)))] := hD
  refine lv_aload_n hx hb d_Md_init_128 rfl (lv_at hl 0 rfl) ?_
  refine lv_bipush (v := 64) hx hb d_Md_init_129 (by decide) ?_
  refine va_newa (ty := .int) (n := 64) (N' := 64) (a0 := (64, .inl (fun _ => 0))) hx hb (hts _ tw_39) rfl hK hP hD hS hA (fun _ => rfl) (by decide) (by decide) (by decide) (Nat.le_of_ble_eq_true rfl) (Nat.le_of_ble_eq_true rfl) d_Md_init_131 (fun q131 cA H hK1 hP hD hS => ?_)
  have hc : cI = cA := Option.some.inj ((hK1.2 0 (cI, .int) rfl).2.symm.trans (hK1.2 3 (cA, .int) rfl).2)
  subst hc
  have hP : va_P D gCl [(h0, .inr (9, [.ref (q7), .ref (q16), .int 0, .int 0, .int 0, .int 0, .int 0, .int 0, .int 0, .int 0, .int 0, .int 0, .int 0, .int 0, .int 0, .int 0, .int 0, .int 0, .int 0, .int 0, .int 0, .ref (q24), .ref (q32), .int (-1 : Int32), .int 0, .int 0, .ref (q45), .int (-6 : Int32), .int 0, .ref (q59), .ref (q67), .ref (q75), .ref (q83), .ref (q91), .int 0, .ref (q99), .ref (q107), .ref (q115), .ref (q123), .null, .null, .null, .null, .null, .int 0, .null, .null])), (q7, .inl (cI, 64, .inl (fun _ => 0))), (q16, .inl (cS, 132, .inl (fun _ => 0))), (q24, .inl (cS, 48, .inl (fun _ => 0))), (q32, .inl (cS, 12, .inl (fun _ => 0))), (q45, .inl (cS, 60, .inl (fun _ => 0))), (q59, .inl (cI, 12, .inl (fun _ => 0))), (q67, .inl (cI, 12, .inl (fun _ => 0))), (q75, .inl (cI, 12, .inl (fun _ => 0))), (q83, .inl (cI, 12, .inl (fun _ => 0))), (q91, .inl (cI, 12, .inl (fun _ => 0))), (q99, .inl (cI, 64, .inl (fun _ => 0))), (q107, .inl (cI, 64, .inl (fun _ => 0))), (q115, .inl (cI, 64, .inl (fun _ => 0))), (q123, .inl (cI, 64, .inl (fun _ => 0))), (q131, .inl (cI, 64, .inl (fun _ => 0)))] H := hP
  have hD : va_D A [(h0, .inr (9, [.ref (q7), .ref (q16), .int 0, .int 0, .int 0, .int 0, .int 0, .int 0, .int 0, .int 0, .int 0, .int 0, .int 0, .int 0, .int 0, .int 0, .int 0, .int 0, .int 0, .int 0, .int 0, .ref (q24), .ref (q32), .int (-1 : Int32), .int 0, .int 0, .ref (q45), .int (-6 : Int32), .int 0, .ref (q59), .ref (q67), .ref (q75), .ref (q83), .ref (q91), .int 0, .ref (q99), .ref (q107), .ref (q115), .ref (q123), .null, .null, .null, .null, .null, .int 0, .null, .null])), (q7, .inl (cI, 64, .inl (fun _ => 0))), (q16, .inl (cS, 132, .inl (fun _ => 0))), (q24, .inl (cS, 48, .inl (fun _ => 0))), (q32, .inl (cS, 12, .inl (fun _ => 0))), (q45, .inl (cS, 60, .inl (fun _ => 0))), (q59, .inl (cI, 12, .inl (fun _ => 0))), (q67, .inl (cI, 12, .inl (fun _ => 0))), (q75, .inl (cI, 12, .inl (fun _ => 0))), (q83, .inl (cI, 12, .inl (fun _ => 0))), (q91, .inl (cI, 12, .inl (fun _ => 0))), (q99, .inl (cI, 64, .inl (fun _ => 0))), (q107, .inl (cI, 64, .inl (fun _ => 0))), (q115, .inl (cI, 64, .inl (fun _ => 0))), (q123, .inl (cI, 64, .inl (fun _ => 0))), (q131, .inl (cI, 64, .inl (fun _ => 0)))] := hD
  refine va_putF (D := D) (ci := 9) (v := .ref (q131)) (ty := .array .int) (C := R_Md) (T := T_Md) (N := 47) hx hb hts i_Md t_Md o_Md n_Md hown hK hP hD hS 0 rfl rfl 39 (by decide) (hts _ tw_573) (fun _ h9 => h9) rfl hin rfl (by decide +kernel) rfl rfl (Nat.le_of_ble_eq_true rfl) d_Md_init_133 (fun H locs hP hD hS => ?_)
  have hP : va_P D gCl [(h0, .inr (9, [.ref (q7), .ref (q16), .int 0, .int 0, .int 0, .int 0, .int 0, .int 0, .int 0, .int 0, .int 0, .int 0, .int 0, .int 0, .int 0, .int 0, .int 0, .int 0, .int 0, .int 0, .int 0, .ref (q24), .ref (q32), .int (-1 : Int32), .int 0, .int 0, .ref (q45), .int (-6 : Int32), .int 0, .ref (q59), .ref (q67), .ref (q75), .ref (q83), .ref (q91), .int 0, .ref (q99), .ref (q107), .ref (q115), .ref (q123), .ref (q131), .null, .null, .null, .null, .int 0, .null, .null])), (q7, .inl (cI, 64, .inl (fun _ => 0))), (q16, .inl (cS, 132, .inl (fun _ => 0))), (q24, .inl (cS, 48, .inl (fun _ => 0))), (q32, .inl (cS, 12, .inl (fun _ => 0))), (q45, .inl (cS, 60, .inl (fun _ => 0))), (q59, .inl (cI, 12, .inl (fun _ => 0))), (q67, .inl (cI, 12, .inl (fun _ => 0))), (q75, .inl (cI, 12, .inl (fun _ => 0))), (q83, .inl (cI, 12, .inl (fun _ => 0))), (q91, .inl (cI, 12, .inl (fun _ => 0))), (q99, .inl (cI, 64, .inl (fun _ => 0))), (q107, .inl (cI, 64, .inl (fun _ => 0))), (q115, .inl (cI, 64, .inl (fun _ => 0))), (q123, .inl (cI, 64, .inl (fun _ => 0))), (q131, .inl (cI, 64, .inl (fun _ => 0)))] H := hP
  have hD : va_D A [(h0, .inr (9, [.ref (q7), .ref (q16), .int 0, .int 0, .int 0, .int 0, .int 0, .int 0, .int 0, .int 0, .int 0, .int 0, .int 0, .int 0, .int 0, .int 0, .int 0, .int 0, .int 0, .int 0, .int 0, .ref (q24), .ref (q32), .int (-1 : Int32), .int 0, .int 0, .ref (q45), .int (-6 : Int32), .int 0, .ref (q59), .ref (q67), .ref (q75), .ref (q83), .ref (q91), .int 0, .ref (q99), .ref (q107), .ref (q115), .ref (q123), .ref (q131), .null, .null, .null, .null, .int 0, .null, .null])), (q7, .inl (cI, 64, .inl (fun _ => 0))), (q16, .inl (cS, 132, .inl (fun _ => 0))), (q24, .inl (cS, 48, .inl (fun _ => 0))), (q32, .inl (cS, 12, .inl (fun _ => 0))), (q45, .inl (cS, 60, .inl (fun _ => 0))), (q59, .inl (cI, 12, .inl (fun _ => 0))), (q67, .inl (cI, 12, .inl (fun _ => 0))), (q75, .inl (cI, 12, .inl (fun _ => 0))), (q83, .inl (cI, 12, .inl (fun _ => 0))), (q91, .inl (cI, 12, .inl (fun _ => 0))), (q99, .inl (cI, 64, .inl (fun _ => 0))), (q107, .inl (cI, 64, .inl (fun _ => 0))), (q115, .inl (cI, 64, .inl (fun _ => 0))), (q123, .inl (cI, 64, .inl (fun _ => 0))), (q131, .inl (cI, 64, .inl (fun _ => 0)))] := hD
  refine lv_aload_n hx hb d_Md_init_136 rfl (lv_at hl 0 rfl) ?_
  refine lv_bipush (v := 64) hx hb d_Md_init_137 (by decide) ?_
  refine va_newa (ty := .int) (n := 64) (N' := 64) (a0 := (64, .inl (fun _ => 0))) hx hb (hts _ tw_39) rfl hK hP hD hS hA (fun _ => rfl) (by decide) (by decide) (by decide) (Nat.le_of_ble_eq_true rfl) (Nat.le_of_ble_eq_true rfl) d_Md_init_139 (fun q139 cA H hK1 hP hD hS => ?_)
  have hc : cI = cA := Option.some.inj ((hK1.2 0 (cI, .int) rfl).2.symm.trans (hK1.2 3 (cA, .int) rfl).2)
  subst hc
  have hP : va_P D gCl [(h0, .inr (9, [.ref (q7), .ref (q16), .int 0, .int 0, .int 0, .int 0, .int 0, .int 0, .int 0, .int 0, .int 0, .int 0, .int 0, .int 0, .int 0, .int 0, .int 0, .int 0, .int 0, .int 0, .int 0, .ref (q24), .ref (q32), .int (-1 : Int32), .int 0, .int 0, .ref (q45), .int (-6 : Int32), .int 0, .ref (q59), .ref (q67), .ref (q75), .ref (q83), .ref (q91), .int 0, .ref (q99), .ref (q107), .ref (q115), .ref (q123), .ref (q131), .null, .null, .null, .null, .int 0, .null, .null])), (q7, .inl (cI, 64, .inl (fun _ => 0))), (q16, .inl (cS, 132, .inl (fun _ => 0))), (q24, .inl (cS, 48, .inl (fun _ => 0))), (q32, .inl (cS, 12, .inl (fun _ => 0))), (q45, .inl (cS, 60, .inl (fun _ => 0))), (q59, .inl (cI, 12, .inl (fun _ => 0))), (q67, .inl (cI, 12, .inl (fun _ => 0))), (q75, .inl (cI, 12, .inl (fun _ => 0))), (q83, .inl (cI, 12, .inl (fun _ => 0))), (q91, .inl (cI, 12, .inl (fun _ => 0))), (q99, .inl (cI, 64, .inl (fun _ => 0))), (q107, .inl (cI, 64, .inl (fun _ => 0))), (q115, .inl (cI, 64, .inl (fun _ => 0))), (q123, .inl (cI, 64, .inl (fun _ => 0))), (q131, .inl (cI, 64, .inl (fun _ => 0))), (q139, .inl (cI, 64, .inl (fun _ => 0)))] H := hP
  have hD : va_D A [(h0, .inr (9, [.ref (q7), .ref (q16), .int 0, .int 0, .int 0, .int 0, .int 0, .int 0, .int 0, .int 0, .int 0, .int 0, .int 0, .int 0, .int 0, .int 0, .int 0, .int 0, .int 0, .int 0, .int 0, .ref (q24), .ref (q32), .int (-1 : Int32), .int 0, .int 0, .ref (q45), .int (-6 : Int32), .int 0, .ref (q59), .ref (q67), .ref (q75), .ref (q83), .ref (q91), .int 0, .ref (q99), .ref (q107), .ref (q115), .ref (q123), .ref (q131), .null, .null, .null, .null, .int 0, .null, .null])), (q7, .inl (cI, 64, .inl (fun _ => 0))), (q16, .inl (cS, 132, .inl (fun _ => 0))), (q24, .inl (cS, 48, .inl (fun _ => 0))), (q32, .inl (cS, 12, .inl (fun _ => 0))), (q45, .inl (cS, 60, .inl (fun _ => 0))), (q59, .inl (cI, 12, .inl (fun _ => 0))), (q67, .inl (cI, 12, .inl (fun _ => 0))), (q75, .inl (cI, 12, .inl (fun _ => 0))), (q83, .inl (cI, 12, .inl (fun _ => 0))), (q91, .inl (cI, 12, .inl (fun _ => 0))), (q99, .inl (cI, 64, .inl (fun _ => 0))), (q107, .inl (cI, 64, .inl (fun _ => 0))), (q115, .inl (cI, 64, .inl (fun _ => 0))), (q123, .inl (cI, 64, .inl (fun _ => 0))), (q131, .inl (cI, 64, .inl (fun _ => 0))), (q139, .inl (cI, 64, .inl (fun _ => 0)))] := hD
  refine va_putF (D := D) (ci := 9) (v := .ref (q139)) (ty := .array .int) (C := R_Md) (T := T_Md) (N := 47) hx hb hts i_Md t_Md o_Md n_Md hown hK hP hD hS 0 rfl rfl 40 (by decide) (hts _ tw_574) (fun _ h9 => h9) rfl hin rfl (by decide +kernel) rfl rfl (Nat.le_of_ble_eq_true rfl) d_Md_init_141 (fun H locs hP hD hS => ?_)
  have hP : va_P D gCl [(h0, .inr (9, [.ref (q7), .ref (q16), .int 0, .int 0, .int 0, .int 0, .int 0, .int 0, .int 0, .int 0, .int 0, .int 0, .int 0, .int 0, .int 0, .int 0, .int 0, .int 0, .int 0, .int 0, .int 0, .ref (q24), .ref (q32), .int (-1 : Int32), .int 0, .int 0, .ref (q45), .int (-6 : Int32), .int 0, .ref (q59), .ref (q67), .ref (q75), .ref (q83), .ref (q91), .int 0, .ref (q99), .ref (q107), .ref (q115), .ref (q123), .ref (q131), .ref (q139), .null, .null, .null, .int 0, .null, .null])), (q7, .inl (cI, 64, .inl (fun _ => 0))), (q16, .inl (cS, 132, .inl (fun _ => 0))), (q24, .inl (cS, 48, .inl (fun _ => 0))), (q32, .inl (cS, 12, .inl (fun _ => 0))), (q45, .inl (cS, 60, .inl (fun _ => 0))), (q59, .inl (cI, 12, .inl (fun _ => 0))), (q67, .inl (cI, 12, .inl (fun _ => 0))), (q75, .inl (cI, 12, .inl (fun _ => 0))), (q83, .inl (cI, 12, .inl (fun _ => 0))), (q91, .inl (cI, 12, .inl (fun _ => 0))), (q99, .inl (cI, 64, .inl (fun _ => 0))), (q107, .inl (cI, 64, .inl (fun _ => 0))), (q115, .inl (cI, 64, .inl (fun _ => 0))), (q123, .inl (cI, 64, .inl (fun _ => 0))), (q131, .inl (cI, 64, .inl (fun _ => 0))), (q139, .inl (cI, 64, .inl (fun _ => 0)))] H := hP
  have hD : va_D A [(h0, .inr (9, [.ref (q7), .ref (q16), .int 0, .int 0, .int 0, .int 0, .int 0, .int 0, .int 0, .int 0, .int 0, .int 0, .int 0, .int 0, .int 0, .int 0, .int 0, .int 0, .int 0, .int 0, .int 0, .ref (q24), .ref (q32), .int (-1 : Int32), .int 0, .int 0, .ref (q45), .int (-6 : Int32), .int 0, .ref (q59), .ref (q67), .ref (q75), .ref (q83), .ref (q91), .int 0, .ref (q99), .ref (q107), .ref (q115), .ref (q123), .ref (q131), .ref (q139), .null, .null, .null, .int 0, .null, .null])), (q7, .inl (cI, 64, .inl (fun _ => 0))), (q16, .inl (cS, 132, .inl (fun _ => 0))), (q24, .inl (cS, 48, .inl (fun _ => 0))), (q32, .inl (cS, 12, .inl (fun _ => 0))), (q45, .inl (cS, 60, .inl (fun _ => 0))), (q59, .inl (cI, 12, .inl (fun _ => 0))), (q67, .inl (cI, 12, .inl (fun _ => 0))), (q75, .inl (cI, 12, .inl (fun _ => 0))), (q83, .inl (cI, 12, .inl (fun _ => 0))), (q91, .inl (cI, 12, .inl (fun _ => 0))), (q99, .inl (cI, 64, .inl (fun _ => 0))), (q107, .inl (cI, 64, .inl (fun _ => 0))), (q115, .inl (cI, 64, .inl (fun _ => 0))), (q123, .inl (cI, 64, .inl (fun _ => 0))), (q131, .inl (cI, 64, .inl (fun _ => 0))), (q139, .inl (cI, 64, .inl (fun _ => 0)))] := hD
  refine lv_aload_n hx hb d_Md_init_144 rfl (lv_at hl 0 rfl) ?_
  refine lv_bipush (v := 64) hx hb d_Md_init_145 (by decide) ?_
  refine va_newa (ty := .boolean) (n := 64) (N' := 64) (a0 := (64, .inl (fun _ => 0))) hx hb (hts _ tw_676) rfl hK hP hD hS hA (fun _ => rfl) (by decide) (by decide) (by decide) (Nat.le_of_ble_eq_true rfl) (Nat.le_of_ble_eq_true rfl) d_Md_init_147 (fun q147 cA H hK1 hP hD hS => ?_)
  have hc : cZ = cA := Option.some.inj ((hK1.2 2 (cZ, .boolean) rfl).2.symm.trans (hK1.2 3 (cA, .boolean) rfl).2)
  subst hc
  have hP : va_P D gCl [(h0, .inr (9, [.ref (q7), .ref (q16), .int 0, .int 0, .int 0, .int 0, .int 0, .int 0, .int 0, .int 0, .int 0, .int 0, .int 0, .int 0, .int 0, .int 0, .int 0, .int 0, .int 0, .int 0, .int 0, .ref (q24), .ref (q32), .int (-1 : Int32), .int 0, .int 0, .ref (q45), .int (-6 : Int32), .int 0, .ref (q59), .ref (q67), .ref (q75), .ref (q83), .ref (q91), .int 0, .ref (q99), .ref (q107), .ref (q115), .ref (q123), .ref (q131), .ref (q139), .null, .null, .null, .int 0, .null, .null])), (q7, .inl (cI, 64, .inl (fun _ => 0))), (q16, .inl (cS, 132, .inl (fun _ => 0))), (q24, .inl (cS, 48, .inl (fun _ => 0))), (q32, .inl (cS, 12, .inl (fun _ => 0))), (q45, .inl (cS, 60, .inl (fun _ => 0))), (q59, .inl (cI, 12, .inl (fun _ => 0))), (q67, .inl (cI, 12, .inl (fun _ => 0))), (q75, .inl (cI, 12, .inl (fun _ => 0))), (q83, .inl (cI, 12, .inl (fun _ => 0))), (q91, .inl (cI, 12, .inl (fun _ => 0))), (q99, .inl (cI, 64, .inl (fun _ => 0))), (q107, .inl (cI, 64, .inl (fun _ => 0))), (q115, .inl (cI, 64, .inl (fun _ => 0))), (q123, .inl (cI, 64, .inl (fun _ => 0))), (q131, .inl (cI, 64, .inl (fun _ => 0))), (q139, .inl (cI, 64, .inl (fun _ => 0))), (q147, .inl (cZ, 64, .inl (fun _ => 0)))] H := hP
  have hD : va_D A [(h0, .inr (9, [.ref (q7), .ref (q16), .int 0, .int 0, .int 0, .int 0, .int 0, .int 0, .int 0, .int 0, .int 0, .int 0, .int 0, .int 0, .int 0, .int 0, .int 0, .int 0, .int 0, .int 0, .int 0, .ref (q24), .ref (q32), .int (-1 : Int32), .int 0, .int 0, .ref (q45), .int (-6 : Int32), .int 0, .ref (q59), .ref (q67), .ref (q75), .ref (q83), .ref (q91), .int 0, .ref (q99), .ref (q107), .ref (q115), .ref (q123), .ref (q131), .ref (q139), .null, .null, .null, .int 0, .null, .null])), (q7, .inl (cI, 64, .inl (fun _ => 0))), (q16, .inl (cS, 132, .inl (fun _ => 0))), (q24, .inl (cS, 48, .inl (fun _ => 0))), (q32, .inl (cS, 12, .inl (fun _ => 0))), (q45, .inl (cS, 60, .inl (fun _ => 0))), (q59, .inl (cI, 12, .inl (fun _ => 0))), (q67, .inl (cI, 12, .inl (fun _ => 0))), (q75, .inl (cI, 12, .inl (fun _ => 0))), (q83, .inl (cI, 12, .inl (fun _ => 0))), (q91, .inl (cI, 12, .inl (fun _ => 0))), (q99, .inl (cI, 64, .inl (fun _ => 0))), (q107, .inl (cI, 64, .inl (fun _ => 0))), (q115, .inl (cI, 64, .inl (fun _ => 0))), (q123, .inl (cI, 64, .inl (fun _ => 0))), (q131, .inl (cI, 64, .inl (fun _ => 0))), (q139, .inl (cI, 64, .inl (fun _ => 0))), (q147, .inl (cZ, 64, .inl (fun _ => 0)))] := hD
  refine va_putF (D := D) (ci := 9) (v := .ref (q147)) (ty := .array .boolean) (C := R_Md) (T := T_Md) (N := 47) hx hb hts i_Md t_Md o_Md n_Md hown hK hP hD hS 0 rfl rfl 41 (by decide) (hts _ tw_575) (fun _ h9 => h9) rfl hin rfl (by decide +kernel) rfl rfl (Nat.le_of_ble_eq_true rfl) d_Md_init_149 (fun H locs hP hD hS => ?_)
  have hP : va_P D gCl [(h0, .inr (9, [.ref (q7), .ref (q16), .int 0, .int 0, .int 0, .int 0, .int 0, .int 0, .int 0, .int 0, .int 0, .int 0, .int 0, .int 0, .int 0, .int 0, .int 0, .int 0, .int 0, .int 0, .int 0, .ref (q24), .ref (q32), .int (-1 : Int32), .int 0, .int 0, .ref (q45), .int (-6 : Int32), .int 0, .ref (q59), .ref (q67), .ref (q75), .ref (q83), .ref (q91), .int 0, .ref (q99), .ref (q107), .ref (q115), .ref (q123), .ref (q131), .ref (q139), .ref (q147), .null, .null, .int 0, .null, .null])), (q7, .inl (cI, 64, .inl (fun _ => 0))), (q16, .inl (cS, 132, .inl (fun _ => 0))), (q24, .inl (cS, 48, .inl (fun _ => 0))), (q32, .inl (cS, 12, .inl (fun _ => 0))), (q45, .inl (cS, 60, .inl (fun _ => 0))), (q59, .inl (cI, 12, .inl (fun _ => 0))), (q67, .inl (cI, 12, .inl (fun _ => 0))), (q75, .inl (cI, 12, .inl (fun _ => 0))), (q83, .inl (cI, 12, .inl (fun _ => 0))), (q91, .inl (cI, 12, .inl (fun _ => 0))), (q99, .inl (cI, 64, .inl (fun _ => 0))), (q107, .inl (cI, 64, .inl (fun _ => 0))), (q115, .inl (cI, 64, .inl (fun _ => 0))), (q123, .inl (cI, 64, .inl (fun _ => 0))), (q131, .inl (cI, 64, .inl (fun _ => 0))), (q139, .inl (cI, 64, .inl (fun _ => 0))), (q147, .inl (cZ, 64, .inl (fun _ => 0)))] H := hP
  have hD : va_D A [(h0, .inr (9, [.ref (q7), .ref (q16), .int 0, .int 0, .int 0, .int 0, .int 0, .int 0, .int 0, .int 0, .int 0, .int 0, .int 0, .int 0, .int 0, .int 0, .int 0, .int 0, .int 0, .int 0, .int 0, .ref (q24), .ref (q32), .int (-1 : Int32), .int 0, .int 0, .ref (q45), .int (-6 : Int32), .int 0, .ref (q59), .ref (q67), .ref (q75), .ref (q83), .ref (q91), .int 0, .ref (q99), .ref (q107), .ref (q115), .ref (q123), .ref (q131), .ref (q139), .ref (q147), .null, .null, .int 0, .null, .null])), (q7, .inl (cI, 64, .inl (fun _ => 0))), (q16, .inl (cS, 132, .inl (fun _ => 0))), (q24, .inl (cS, 48, .inl (fun _ => 0))), (q32, .inl (cS, 12, .inl (fun _ => 0))), (q45, .inl (cS, 60, .inl (fun _ => 0))), (q59, .inl (cI, 12, .inl (fun _ => 0))), (q67, .inl (cI, 12, .inl (fun _ => 0))), (q75, .inl (cI, 12, .inl (fun _ => 0))), (q83, .inl (cI, 12, .inl (fun _ => 0))), (q91, .inl (cI, 12, .inl (fun _ => 0))), (q99, .inl (cI, 64, .inl (fun _ => 0))), (q107, .inl (cI, 64, .inl (fun _ => 0))), (q115, .inl (cI, 64, .inl (fun _ => 0))), (q123, .inl (cI, 64, .inl (fun _ => 0))), (q131, .inl (cI, 64, .inl (fun _ => 0))), (q139, .inl (cI, 64, .inl (fun _ => 0))), (q147, .inl (cZ, 64, .inl (fun _ => 0)))] := hD
  refine lv_aload_n hx hb d_Md_init_152 rfl (lv_at hl 0 rfl) ?_
  refine lv_bipush (v := 32) hx hb d_Md_init_153 (by decide) ?_
  refine va_newa (ty := .boolean) (n := 32) (N' := 32) (a0 := (32, .inl (fun _ => 0))) hx hb (hts _ tw_676) rfl hK hP hD hS hA (fun _ => rfl) (by decide) (by decide) (by decide) (Nat.le_of_ble_eq_true rfl) (Nat.le_of_ble_eq_true rfl) d_Md_init_155 (fun q155 cA H hK1 hP hD hS => ?_)
  have hc : cZ = cA := Option.some.inj ((hK1.2 2 (cZ, .boolean) rfl).2.symm.trans (hK1.2 3 (cA, .boolean) rfl).2)
  subst hc
  have hP : va_P D gCl [(h0, .inr (9, [.ref (q7), .ref (q16), .int 0, .int 0, .int 0, .int 0, .int 0, .int 0, .int 0, .int 0, .int 0, .int 0, .int 0, .int 0, .int 0, .int 0, .int 0, .int 0, .int 0, .int 0, .int 0, .ref (q24), .ref (q32), .int (-1 : Int32), .int 0, .int 0, .ref (q45), .int (-6 : Int32), .int 0, .ref (q59), .ref (q67), .ref (q75), .ref (q83), .ref (q91), .int 0, .ref (q99), .ref (q107), .ref (q115), .ref (q123), .ref (q131), .ref (q139), .ref (q147), .null, .null, .int 0, .null, .null])), (q7, .inl (cI, 64, .inl (fun _ => 0))), (q16, .inl (cS, 132, .inl (fun _ => 0))), (q24, .inl (cS, 48, .inl (fun _ => 0))), (q32, .inl (cS, 12, .inl (fun _ => 0))), (q45, .inl (cS, 60, .inl (fun _ => 0))), (q59, .inl (cI, 12, .inl (fun _ => 0))), (q67, .inl (cI, 12, .inl (fun _ => 0))), (q75, .inl (cI, 12, .inl (fun _ => 0))), (q83, .inl (cI, 12, .inl (fun _ => 0))), (q91, .inl (cI, 12, .inl (fun _ => 0))), (q99, .inl (cI, 64, .inl (fun _ => 0))), (q107, .inl (cI, 64, .inl (fun _ => 0))), (q115, .inl (cI, 64, .inl (fun _ => 0))), (q123, .inl (cI, 64, .inl (fun _ => 0))), (q131, .inl (cI, 64, .inl (fun _ => 0))), (q139, .inl (cI, 64, .inl (fun _ => 0))), (q147, .inl (cZ, 64, .inl (fun _ => 0))), (q155, .inl (cZ, 32, .inl (fun _ => 0)))] H := hP
  have hD : va_D A [(h0, .inr (9, [.ref (q7), .ref (q16), .int 0, .int 0, .int 0, .int 0, .int 0, .int 0, .int 0, .int 0, .int 0, .int 0, .int 0, .int 0, .int 0, .int 0, .int 0, .int 0, .int 0, .int 0, .int 0, .ref (q24), .ref (q32), .int (-1 : Int32), .int 0, .int 0, .ref (q45), .int (-6 : Int32), .int 0, .ref (q59), .ref (q67), .ref (q75), .ref (q83), .ref (q91), .int 0, .ref (q99), .ref (q107), .ref (q115), .ref (q123), .ref (q131), .ref (q139), .ref (q147), .null, .null, .int 0, .null, .null])), (q7, .inl (cI, 64, .inl (fun _ => 0))), (q16, .inl (cS, 132, .inl (fun _ => 0))), (q24, .inl (cS, 48, .inl (fun _ => 0))), (q32, .inl (cS, 12, .inl (fun _ => 0))), (q45, .inl (cS, 60, .inl (fun _ => 0))), (q59, .inl (cI, 12, .inl (fun _ => 0))), (q67, .inl (cI, 12, .inl (fun _ => 0))), (q75, .inl (cI, 12, .inl (fun _ => 0))), (q83, .inl (cI, 12, .inl (fun _ => 0))), (q91, .inl (cI, 12, .inl (fun _ => 0))), (q99, .inl (cI, 64, .inl (fun _ => 0))), (q107, .inl (cI, 64, .inl (fun _ => 0))), (q115, .inl (cI, 64, .inl (fun _ => 0))), (q123, .inl (cI, 64, .inl (fun _ => 0))), (q131, .inl (cI, 64, .inl (fun _ => 0))), (q139, .inl (cI, 64, .inl (fun _ => 0))), (q147, .inl (cZ, 64, .inl (fun _ => 0))), (q155, .inl (cZ, 32, .inl (fun _ => 0)))] := hD
  refine va_putF (D := D) (ci := 9) (v := .ref (q155)) (ty := .array .boolean) (C := R_Md) (T := T_Md) (N := 47) hx hb hts i_Md t_Md o_Md n_Md hown hK hP hD hS 0 rfl rfl 42 (by decide) (hts _ tw_576) (fun _ h9 => h9) rfl hin rfl (by decide +kernel) rfl rfl (Nat.le_of_ble_eq_true rfl) d_Md_init_157 (fun H locs hP hD hS => ?_)
  have hP : va_P D gCl [(h0, .inr (9, [.ref (q7), .ref (q16), .int 0, .int 0, .int 0, .int 0, .int 0, .int 0, .int 0, .int 0, .int 0, .int 0, .int 0, .int 0, .int 0, .int 0, .int 0, .int 0, .int 0, .int 0, .int 0, .ref (q24), .ref (q32), .int (-1 : Int32), .int 0, .int 0, .ref (q45), .int (-6 : Int32), .int 0, .ref (q59), .ref (q67), .ref (q75), .ref (q83), .ref (q91), .int 0, .ref (q99), .ref (q107), .ref (q115), .ref (q123), .ref (q131), .ref (q139), .ref (q147), .ref (q155), .null, .int 0, .null, .null])), (q7, .inl (cI, 64, .inl (fun _ => 0))), (q16, .inl (cS, 132, .inl (fun _ => 0))), (q24, .inl (cS, 48, .inl (fun _ => 0))), (q32, .inl (cS, 12, .inl (fun _ => 0))), (q45, .inl (cS, 60, .inl (fun _ => 0))), (q59, .inl (cI, 12, .inl (fun _ => 0))), (q67, .inl (cI, 12, .inl (fun _ => 0))), (q75, .inl (cI, 12, .inl (fun _ => 0))), (q83, .inl (cI, 12, .inl (fun _ => 0))), (q91, .inl (cI, 12, .inl (fun _ => 0))), (q99, .inl (cI, 64, .inl (fun _ => 0))), (q107, .inl (cI, 64, .inl (fun _ => 0))), (q115, .inl (cI, 64, .inl (fun _ => 0))), (q123, .inl (cI, 64, .inl (fun _ => 0))), (q131, .inl (cI, 64, .inl (fun _ => 0))), (q139, .inl (cI, 64, .inl (fun _ => 0))), (q147, .inl (cZ, 64, .inl (fun _ => 0))), (q155, .inl (cZ, 32, .inl (fun _ => 0)))] H := hP
  have hD : va_D A [(h0, .inr (9, [.ref (q7), .ref (q16), .int 0, .int 0, .int 0, .int 0, .int 0, .int 0, .int 0, .int 0, .int 0, .int 0, .int 0, .int 0, .int 0, .int 0, .int 0, .int 0, .int 0, .int 0, .int 0, .ref (q24), .ref (q32), .int (-1 : Int32), .int 0, .int 0, .ref (q45), .int (-6 : Int32), .int 0, .ref (q59), .ref (q67), .ref (q75), .ref (q83), .ref (q91), .int 0, .ref (q99), .ref (q107), .ref (q115), .ref (q123), .ref (q131), .ref (q139), .ref (q147), .ref (q155), .null, .int 0, .null, .null])), (q7, .inl (cI, 64, .inl (fun _ => 0))), (q16, .inl (cS, 132, .inl (fun _ => 0))), (q24, .inl (cS, 48, .inl (fun _ => 0))), (q32, .inl (cS, 12, .inl (fun _ => 0))), (q45, .inl (cS, 60, .inl (fun _ => 0))), (q59, .inl (cI, 12, .inl (fun _ => 0))), (q67, .inl (cI, 12, .inl (fun _ => 0))), (q75, .inl (cI, 12, .inl (fun _ => 0))), (q83, .inl (cI, 12, .inl (fun _ => 0))), (q91, .inl (cI, 12, .inl (fun _ => 0))), (q99, .inl (cI, 64, .inl (fun _ => 0))), (q107, .inl (cI, 64, .inl (fun _ => 0))), (q115, .inl (cI, 64, .inl (fun _ => 0))), (q123, .inl (cI, 64, .inl (fun _ => 0))), (q131, .inl (cI, 64, .inl (fun _ => 0))), (q139, .inl (cI, 64, .inl (fun _ => 0))), (q147, .inl (cZ, 64, .inl (fun _ => 0))), (q155, .inl (cZ, 32, .inl (fun _ => 0)))] := hD
  refine lv_aload_n hx hb d_Md_init_160 rfl (lv_at hl 0 rfl) ?_
  refine lv_bipush (v := 16) hx hb d_Md_init_161 (by decide) ?_
  refine va_newa (ty := .int) (n := 16) (N' := 16) (a0 := (16, .inl (fun _ => 0))) hx hb (hts _ tw_39) rfl hK hP hD hS hA (fun _ => rfl) (by decide) (by decide) (by decide) (Nat.le_of_ble_eq_true rfl) (Nat.le_of_ble_eq_true rfl) d_Md_init_163 (fun q163 cA H hK1 hP hD hS => ?_)
  have hc : cI = cA := Option.some.inj ((hK1.2 0 (cI, .int) rfl).2.symm.trans (hK1.2 3 (cA, .int) rfl).2)
  subst hc
  have hP : va_P D gCl [(h0, .inr (9, [.ref (q7), .ref (q16), .int 0, .int 0, .int 0, .int 0, .int 0, .int 0, .int 0, .int 0, .int 0, .int 0, .int 0, .int 0, .int 0, .int 0, .int 0, .int 0, .int 0, .int 0, .int 0, .ref (q24), .ref (q32), .int (-1 : Int32), .int 0, .int 0, .ref (q45), .int (-6 : Int32), .int 0, .ref (q59), .ref (q67), .ref (q75), .ref (q83), .ref (q91), .int 0, .ref (q99), .ref (q107), .ref (q115), .ref (q123), .ref (q131), .ref (q139), .ref (q147), .ref (q155), .null, .int 0, .null, .null])), (q7, .inl (cI, 64, .inl (fun _ => 0))), (q16, .inl (cS, 132, .inl (fun _ => 0))), (q24, .inl (cS, 48, .inl (fun _ => 0))), (q32, .inl (cS, 12, .inl (fun _ => 0))), (q45, .inl (cS, 60, .inl (fun _ => 0))), (q59, .inl (cI, 12, .inl (fun _ => 0))), (q67, .inl (cI, 12, .inl (fun _ => 0))), (q75, .inl (cI, 12, .inl (fun _ => 0))), (q83, .inl (cI, 12, .inl (fun _ => 0))), (q91, .inl (cI, 12, .inl (fun _ => 0))), (q99, .inl (cI, 64, .inl (fun _ => 0))), (q107, .inl (cI, 64, .inl (fun _ => 0))), (q115, .inl (cI, 64, .inl (fun _ => 0))), (q123, .inl (cI, 64, .inl (fun _ => 0))), (q131, .inl (cI, 64, .inl (fun _ => 0))), (q139, .inl (cI, 64, .inl (fun _ => 0))), (q147, .inl (cZ, 64, .inl (fun _ => 0))), (q155, .inl (cZ, 32, .inl (fun _ => 0))), (q163, .inl (cI, 16, .inl (fun _ => 0)))] H := hP
  have hD : va_D A [(h0, .inr (9, [.ref (q7), .ref (q16), .int 0, .int 0, .int 0, .int 0, .int 0, .int 0, .int 0, .int 0, .int 0, .int 0, .int 0, .int 0, .int 0, .int 0, .int 0, .int 0, .int 0, .int 0, .int 0, .ref (q24), .ref (q32), .int (-1 : Int32), .int 0, .int 0, .ref (q45), .int (-6 : Int32), .int 0, .ref (q59), .ref (q67), .ref (q75), .ref (q83), .ref (q91), .int 0, .ref (q99), .ref (q107), .ref (q115), .ref (q123), .ref (q131), .ref (q139), .ref (q147), .ref (q155), .null, .int 0, .null, .null])), (q7, .inl (cI, 64, .inl (fun _ => 0))), (q16, .inl (cS, 132, .inl (fun _ => 0))), (q24, .inl (cS, 48, .inl (fun _ => 0))), (q32, .inl (cS, 12, .inl (fun _ => 0))), (q45, .inl (cS, 60, .inl (fun _ => 0))), (q59, .inl (cI, 12, .inl (fun _ => 0))), (q67, .inl (cI, 12, .inl (fun _ => 0))), (q75, .inl (cI, 12, .inl (fun _ => 0))), (q83, .inl (cI, 12, .inl (fun _ => 0))), (q91, .inl (cI, 12, .inl (fun _ => 0))), (q99, .inl (cI, 64, .inl (fun _ => 0))), (q107, .inl (cI, 64, .inl (fun _ => 0))), (q115, .inl (cI, 64, .inl (fun _ => 0))), (q123, .inl (cI, 64, .inl (fun _ => 0))), (q131, .inl (cI, 64, .inl (fun _ => 0))), (q139, .inl (cI, 64, .inl (fun _ => 0))), (q147, .inl (cZ, 64, .inl (fun _ => 0))), (q155, .inl (cZ, 32, .inl (fun _ => 0))), (q163, .inl (cI, 16, .inl (fun _ => 0)))] := hD
  refine va_putF (D := D) (ci := 9) (v := .ref (q163)) (ty := .array .int) (C := R_Md) (T := T_Md) (N := 47) hx hb hts i_Md t_Md o_Md n_Md hown hK hP hD hS 0 rfl rfl 43 (by decide) (hts _ tw_577) (fun _ h9 => h9) rfl hin rfl (by decide +kernel) rfl rfl (Nat.le_of_ble_eq_true rfl) d_Md_init_165 (fun H locs hP hD hS => ?_)
  have hP : va_P D gCl [(h0, .inr (9, [.ref (q7), .ref (q16), .int 0, .int 0, .int 0, .int 0, .int 0, .int 0, .int 0, .int 0, .int 0, .int 0, .int 0, .int 0, .int 0, .int 0, .int 0, .int 0, .int 0, .int 0, .int 0, .ref (q24), .ref (q32), .int (-1 : Int32), .int 0, .int 0, .ref (q45), .int (-6 : Int32), .int 0, .ref (q59), .ref (q67), .ref (q75), .ref (q83), .ref (q91), .int 0, .ref (q99), .ref (q107), .ref (q115), .ref (q123), .ref (q131), .ref (q139), .ref (q147), .ref (q155), .ref (q163), .int 0, .null, .null])), (q7, .inl (cI, 64, .inl (fun _ => 0))), (q16, .inl (cS, 132, .inl (fun _ => 0))), (q24, .inl (cS, 48, .inl (fun _ => 0))), (q32, .inl (cS, 12, .inl (fun _ => 0))), (q45, .inl (cS, 60, .inl (fun _ => 0))), (q59, .inl (cI, 12, .inl (fun _ => 0))), (q67, .inl (cI, 12, .inl (fun _ => 0))), (q75, .inl (cI, 12, .inl (fun _ => 0))), (q83, .inl (cI, 12, .inl (fun _ => 0))), (q91, .inl (cI, 12, .inl (fun _ => 0))), (q99, .inl (cI, 64, .inl (fun _ => 0))), (q107, .inl (cI, 64, .inl (fun _ => 0))), (q115, .inl (cI, 64, .inl (fun _ => 0))), (q123, .inl (cI, 64, .inl (fun _ => 0))), (q131, .inl (cI, 64, .inl (fun _ => 0))), (q139, .inl (cI, 64, .inl (fun _ => 0))), (q147, .inl (cZ, 64, .inl (fun _ => 0))), (q155, .inl (cZ, 32, .inl (fun _ => 0))), (q163, .inl (cI, 16, .inl (fun _ => 0)))] H := hP
  have hD : va_D A [(h0, .inr (9, [.ref (q7), .ref (q16), .int 0, .int 0, .int 0, .int 0, .int 0, .int 0, .int 0, .int 0, .int 0, .int 0, .int 0, .int 0, .int 0, .int 0, .int 0, .int 0, .int 0, .int 0, .int 0, .ref (q24), .ref (q32), .int (-1 : Int32), .int 0, .int 0, .ref (q45), .int (-6 : Int32), .int 0, .ref (q59), .ref (q67), .ref (q75), .ref (q83), .ref (q91), .int 0, .ref (q99), .ref (q107), .ref (q115), .ref (q123), .ref (q131), .ref (q139), .ref (q147), .ref (q155), .ref (q163), .int 0, .null, .null])), (q7, .inl (cI, 64, .inl (fun _ => 0))), (q16, .inl (cS, 132, .inl (fun _ => 0))), (q24, .inl (cS, 48, .inl (fun _ => 0))), (q32, .inl (cS, 12, .inl (fun _ => 0))), (q45, .inl (cS, 60, .inl (fun _ => 0))), (q59, .inl (cI, 12, .inl (fun _ => 0))), (q67, .inl (cI, 12, .inl (fun _ => 0))), (q75, .inl (cI, 12, .inl (fun _ => 0))), (q83, .inl (cI, 12, .inl (fun _ => 0))), (q91, .inl (cI, 12, .inl (fun _ => 0))), (q99, .inl (cI, 64, .inl (fun _ => 0))), (q107, .inl (cI, 64, .inl (fun _ => 0))), (q115, .inl (cI, 64, .inl (fun _ => 0))), (q123, .inl (cI, 64, .inl (fun _ => 0))), (q131, .inl (cI, 64, .inl (fun _ => 0))), (q139, .inl (cI, 64, .inl (fun _ => 0))), (q147, .inl (cZ, 64, .inl (fun _ => 0))), (q155, .inl (cZ, 32, .inl (fun _ => 0))), (q163, .inl (cI, 16, .inl (fun _ => 0)))] := hD
  refine lv_aload_n hx hb d_Md_init_168 rfl (lv_at hl 0 rfl) ?_
  refine lv_bipush (v := 12) hx hb d_Md_init_169 (by decide) ?_
  refine va_newa (ty := .int) (n := 12) (N' := 12) (a0 := (12, .inl (fun _ => 0))) hx hb (hts _ tw_39) rfl hK hP hD hS hA (fun _ => rfl) (by decide) (by decide) (by decide) (Nat.le_of_ble_eq_true rfl) (Nat.le_of_ble_eq_true rfl) d_Md_init_171 (fun q171 cA H hK1 hP hD hS => ?_)
  have hc : cI = cA := Option.some.inj ((hK1.2 0 (cI, .int) rfl).2.symm.trans (hK1.2 3 (cA, .int) rfl).2)
  subst hc
  have hP : va_P D gCl [(h0, .inr (9, [.ref (q7), .ref (q16), .int 0, .int 0, .int 0, .int 0, .int 0, .int 0, .int 0, .int 0, .int 0, .int 0, .int 0, .int 0, .int 0, .int 0, .int 0, .int 0, .int 0, .int 0, .int 0, .ref (q24), .ref (q32), .int (-1 : Int32), .int 0, .int 0, .ref (q45), .int (-6 : Int32), .int 0, .ref (q59), .ref (q67), .ref (q75), .ref (q83), .ref (q91), .int 0, .ref (q99), .ref (q107), .ref (q115), .ref (q123), .ref (q131), .ref (q139), .ref (q147), .ref (q155), .ref (q163), .int 0, .null, .null])), (q7, .inl (cI, 64, .inl (fun _ => 0))), (q16, .inl (cS, 132, .inl (fun _ => 0))), (q24, .inl (cS, 48, .inl (fun _ => 0))), (q32, .inl (cS, 12, .inl (fun _ => 0))), (q45, .inl (cS, 60, .inl (fun _ => 0))), (q59, .inl (cI, 12, .inl (fun _ => 0))), (q67, .inl (cI, 12, .inl (fun _ => 0))), (q75, .inl (cI, 12, .inl (fun _ => 0))), (q83, .inl (cI, 12, .inl (fun _ => 0))), (q91, .inl (cI, 12, .inl (fun _ => 0))), (q99, .inl (cI, 64, .inl (fun _ => 0))), (q107, .inl (cI, 64, .inl (fun _ => 0))), (q115, .inl (cI, 64, .inl (fun _ => 0))), (q123, .inl (cI, 64, .inl (fun _ => 0))), (q131, .inl (cI, 64, .inl (fun _ => 0))), (q139, .inl (cI, 64, .inl (fun _ => 0))), (q147, .inl (cZ, 64, .inl (fun _ => 0))), (q155, .inl (cZ, 32, .inl (fun _ => 0))), (q163, .inl (cI, 16, .inl (fun _ => 0))), (q171, .inl (cI, 12, .inl (fun _ => 0)))] H := hP
  have hD : va_D A [(h0, .inr (9, [.ref (q7), .ref (q16), .int 0, .int 0, .int 0, .int 0, .int 0, .int 0, .int 0, .int 0, .int 0, .int 0, .int 0, .int 0, .int 0, .int 0, .int 0, .int 0, .int 0, .int 0, .int 0, .ref (q24), .ref (q32), .int (-1 : Int32), .int 0, .int 0, .ref (q45), .int (-6 : Int32), .int 0, .ref (q59), .ref (q67), .ref (q75), .ref (q83), .ref (q91), .int 0, .ref (q99), .ref (q107), .ref (q115), .ref (q123), .ref (q131), .ref (q139), .ref (q147), .ref (q155), .ref (q163), .int 0, .null, .null])), (q7, .inl (cI, 64, .inl (fun _ => 0))), (q16, .inl (cS, 132, .inl (fun _ => 0))), (q24, .inl (cS, 48, .inl (fun _ => 0))), (q32, .inl (cS, 12, .inl (fun _ => 0))), (q45, .inl (cS, 60, .inl (fun _ => 0))), (q59, .inl (cI, 12, .inl (fun _ => 0))), (q67, .inl (cI, 12, .inl (fun _ => 0))), (q75, .inl (cI, 12, .inl (fun _ => 0))), (q83, .inl (cI, 12, .inl (fun _ => 0))), (q91, .inl (cI, 12, .inl (fun _ => 0))), (q99, .inl (cI, 64, .inl (fun _ => 0))), (q107, .inl (cI, 64, .inl (fun _ => 0))), (q115, .inl (cI, 64, .inl (fun _ => 0))), (q123, .inl (cI, 64, .inl (fun _ => 0))), (q131, .inl (cI, 64, .inl (fun _ => 0))), (q139, .inl (cI, 64, .inl (fun _ => 0))), (q147, .inl (cZ, 64, .inl (fun _ => 0))), (q155, .inl (cZ, 32, .inl (fun _ => 0))), (q163, .inl (cI, 16, .inl (fun _ => 0))), (q171, .inl (cI, 12, .inl (fun _ => 0)))] := hD
  refine va_putF (D := D) (ci := 9) (v := .ref (q171)) (ty := .array .int) (C := R_Md) (T := T_Md) (N := 47) hx hb hts i_Md t_Md o_Md n_Md hown hK hP hD hS 0 rfl rfl 45 (by decide) (hts _ tw_579) (fun _ h9 => h9) rfl hin rfl (by decide +kernel) rfl rfl (Nat.le_of_ble_eq_true rfl) d_Md_init_173 (fun H locs hP hD hS => ?_)
  have hP : va_P D gCl [(h0, .inr (9, [.ref (q7), .ref (q16), .int 0, .int 0, .int 0, .int 0, .int 0, .int 0, .int 0, .int 0, .int 0, .int 0, .int 0, .int 0, .int 0, .int 0, .int 0, .int 0, .int 0, .int 0, .int 0, .ref (q24), .ref (q32), .int (-1 : Int32), .int 0, .int 0, .ref (q45), .int (-6 : Int32), .int 0, .ref (q59), .ref (q67), .ref (q75), .ref (q83), .ref (q91), .int 0, .ref (q99), .ref (q107), .ref (q115), .ref (q123), .ref (q131), .ref (q139), .ref (q147), .ref (q155), .ref (q163), .int 0, .ref (q171), .null])), (q7, .inl (cI, 64, .inl (fun _ => 0))), (q16, .inl (cS, 132, .inl (fun _ => 0))), (q24, .inl (cS, 48, .inl (fun _ => 0))), (q32, .inl (cS, 12, .inl (fun _ => 0))), (q45, .inl (cS, 60, .inl (fun _ => 0))), (q59, .inl (cI, 12, .inl (fun _ => 0))), (q67, .inl (cI, 12, .inl (fun _ => 0))), (q75, .inl (cI, 12, .inl (fun _ => 0))), (q83, .inl (cI, 12, .inl (fun _ => 0))), (q91, .inl (cI, 12, .inl (fun _ => 0))), (q99, .inl (cI, 64, .inl (fun _ => 0))), (q107, .inl (cI, 64, .inl (fun _ => 0))), (q115, .inl (cI, 64, .inl (fun _ => 0))), (q123, .inl (cI, 64, .inl (fun _ => 0))), (q131, .inl (cI, 64, .inl (fun _ => 0))), (q139, .inl (cI, 64, .inl (fun _ => 0))), (q147, .inl (cZ, 64, .inl (fun _ => 0))), (q155, .inl (cZ, 32, .inl (fun _ => 0))), (q163, .inl (cI, 16, .inl (fun _ => 0))), (q171, .inl (cI, 12, .inl (fun _ => 0)))] H := hP
  have hD : va_D A [(h0, .inr (9, [.ref (q7), .ref (q16), .int 0, .int 0, .int 0, .int 0, .int 0, .int 0, .int 0, .int 0, .int 0, .int 0, .int 0, .int 0, .int 0, .int 0, .int 0, .int 0, .int 0, .int 0, .int 0, .ref (q24), .ref (q32), .int (-1 : Int32), .int 0, .int 0, .ref (q45), .int (-6 : Int32), .int 0, .ref (q59), .ref (q67), .ref (q75), .ref (q83), .ref (q91), .int 0, .ref (q99), .ref (q107), .ref (q115), .ref (q123), .ref (q131), .ref (q139), .ref (q147), .ref (q155), .ref (q163), .int 0, .ref (q171), .null])), (q7, .inl (cI, 64, .inl (fun _ => 0))), (q16, .inl (cS, 132, .inl (fun _ => 0))), (q24, .inl (cS, 48, .inl (fun _ => 0))), (q32, .inl (cS, 12, .inl (fun _ => 0))), (q45, .inl (cS, 60, .inl (fun _ => 0))), (q59, .inl (cI, 12, .inl (fun _ => 0))), (q67, .inl (cI, 12, .inl (fun _ => 0))), (q75, .inl (cI, 12, .inl (fun _ => 0))), (q83, .inl (cI, 12, .inl (fun _ => 0))), (q91, .inl (cI, 12, .inl (fun _ => 0))), (q99, .inl (cI, 64, .inl (fun _ => 0))), (q107, .inl (cI, 64, .inl (fun _ => 0))), (q115, .inl (cI, 64, .inl (fun _ => 0))), (q123, .inl (cI, 64, .inl (fun _ => 0))), (q131, .inl (cI, 64, .inl (fun _ => 0))), (q139, .inl (cI, 64, .inl (fun _ => 0))), (q147, .inl (cZ, 64, .inl (fun _ => 0))), (q155, .inl (cZ, 32, .inl (fun _ => 0))), (q163, .inl (cI, 16, .inl (fun _ => 0))), (q171, .inl (cI, 12, .inl (fun _ => 0)))] := hD
  refine lv_aload_n hx hb d_Md_init_176 rfl (lv_at hl 0 rfl) ?_
  refine lv_bipush (v := 16) hx hb d_Md_init_177 (by decide) ?_
  refine va_newa (ty := .int) (n := 16) (N' := 16) (a0 := (16, .inl (fun _ => 0))) hx hb (hts _ tw_39) rfl hK hP hD hS hA (fun _ => rfl) (by decide) (by decide) (by decide) (Nat.le_of_ble_eq_true rfl) (Nat.le_of_ble_eq_true rfl) d_Md_init_179 (fun q179 cA H hK1 hP hD hS => ?_)
  have hc : cI = cA := Option.some.inj ((hK1.2 0 (cI, .int) rfl).2.symm.trans (hK1.2 3 (cA, .int) rfl).2)
  subst hc
  have hP : va_P D gCl [(h0, .inr (9, [.ref (q7), .ref (q16), .int 0, .int 0, .int 0, .int 0, .int 0, .int 0, .int 0, .int 0, .int 0, .int 0, .int 0, .int 0, .int 0, .int 0, .int 0, .int 0, .int 0, .int 0, .int 0, .ref (q24), .ref (q32), .int (-1 : Int32), .int 0, .int 0, .ref (q45), .int (-6 : Int32), .int 0, .ref (q59), .ref (q67), .ref (q75), .ref (q83), .ref (q91), .int 0, .ref (q99), .ref (q107), .ref (q115), .ref (q123), .ref (q131), .ref (q139), .ref (q147), .ref (q155), .ref (q163), .int 0, .ref (q171), .null])), (q7, .inl (cI, 64, .inl (fun _ => 0))), (q16, .inl (cS, 132, .inl (fun _ => 0))), (q24, .inl (cS, 48, .inl (fun _ => 0))), (q32, .inl (cS, 12, .inl (fun _ => 0))), (q45, .inl (cS, 60, .inl (fun _ => 0))), (q59, .inl (cI, 12, .inl (fun _ => 0))), (q67, .inl (cI, 12, .inl (fun _ => 0))), (q75, .inl (cI, 12, .inl (fun _ => 0))), (q83, .inl (cI, 12, .inl (fun _ => 0))), (q91, .inl (cI, 12, .inl (fun _ => 0))), (q99, .inl (cI, 64, .inl (fun _ => 0))), (q107, .inl (cI, 64, .inl (fun _ => 0))), (q115, .inl (cI, 64, .inl (fun _ => 0))), (q123, .inl (cI, 64, .inl (fun _ => 0))), (q131, .inl (cI, 64, .inl (fun _ => 0))), (q139, .inl (cI, 64, .inl (fun _ => 0))), (q147, .inl (cZ, 64, .inl (fun _ => 0))), (q155, .inl (cZ, 32, .inl (fun _ => 0))), (q163, .inl (cI, 16, .inl (fun _ => 0))), (q171, .inl (cI, 12, .inl (fun _ => 0))), (q179, .inl (cI, 16, .inl (fun _ => 0)))] H := hP
  have hD : va_D A [(h0, .inr (9, [.ref (q7), .ref (q16), .int 0, .int 0, .int 0, .int 0, .int 0, .int 0, .int 0, .int 0, .int 0, .int 0, .int 0, .int 0, .int 0, .int 0, .int 0, .int 0, .int 0, .int 0, .int 0, .ref (q24), .ref (q32), .int (-1 : Int32), .int 0, .int 0, .ref (q45), .int (-6 : Int32), .int 0, .ref (q59), .ref (q67), .ref (q75), .ref (q83), .ref (q91), .int 0, .ref (q99), .ref (q107), .ref (q115), .ref (q123), .ref (q131), .ref (q139), .ref (q147), .ref (q155), .ref (q163), .int 0, .ref (q171), .null])), (q7, .inl (cI, 64, .inl (fun _ => 0))), (q16, .inl (cS, 132, .inl (fun _ => 0))), (q24, .inl (cS, 48, .inl (fun _ => 0))), (q32, .inl (cS, 12, .inl (fun _ => 0))), (q45, .inl (cS, 60, .inl (fun _ => 0))), (q59, .inl (cI, 12, .inl (fun _ => 0))), (q67, .inl (cI, 12, .inl (fun _ => 0))), (q75, .inl (cI, 12, .inl (fun _ => 0))), (q83, .inl (cI, 12, .inl (fun _ => 0))), (q91, .inl (cI, 12, .inl (fun _ => 0))), (q99, .inl (cI, 64, .inl (fun _ => 0))), (q107, .inl (cI, 64, .inl (fun _ => 0))), (q115, .inl (cI, 64, .inl (fun _ => 0))), (q123, .inl (cI, 64, .inl (fun _ => 0))), (q131, .inl (cI, 64, .inl (fun _ => 0))), (q139, .inl (cI, 64, .inl (fun _ => 0))), (q147, .inl (cZ, 64, .inl (fun _ => 0))), (q155, .inl (cZ, 32, .inl (fun _ => 0))), (q163, .inl (cI, 16, .inl (fun _ => 0))), (q171, .inl (cI, 12, .inl (fun _ => 0))), (q179, .inl (cI, 16, .inl (fun _ => 0)))] := hD
  refine va_putF (D := D) (ci := 9) (v := .ref (q179)) (ty := .array .int) (C := R_Md) (T := T_Md) (N := 47) hx hb hts i_Md t_Md o_Md n_Md hown hK hP hD hS 0 rfl rfl 46 (by decide) (hts _ tw_580) (fun _ h9 => h9) rfl hin rfl (by decide +kernel) rfl rfl (Nat.le_of_ble_eq_true rfl) d_Md_init_181 (fun H locs hP hD hS => ?_)
  have hP : va_P D gCl [(h0, .inr (9, [.ref (q7), .ref (q16), .int 0, .int 0, .int 0, .int 0, .int 0, .int 0, .int 0, .int 0, .int 0, .int 0, .int 0, .int 0, .int 0, .int 0, .int 0, .int 0, .int 0, .int 0, .int 0, .ref (q24), .ref (q32), .int (-1 : Int32), .int 0, .int 0, .ref (q45), .int (-6 : Int32), .int 0, .ref (q59), .ref (q67), .ref (q75), .ref (q83), .ref (q91), .int 0, .ref (q99), .ref (q107), .ref (q115), .ref (q123), .ref (q131), .ref (q139), .ref (q147), .ref (q155), .ref (q163), .int 0, .ref (q171), .ref (q179)])), (q7, .inl (cI, 64, .inl (fun _ => 0))), (q16, .inl (cS, 132, .inl (fun _ => 0))), (q24, .inl (cS, 48, .inl (fun _ => 0))), (q32, .inl (cS, 12, .inl (fun _ => 0))), (q45, .inl (cS, 60, .inl (fun _ => 0))), (q59, .inl (cI, 12, .inl (fun _ => 0))), (q67, .inl (cI, 12, .inl (fun _ => 0))), (q75, .inl (cI, 12, .inl (fun _ => 0))), (q83, .inl (cI, 12, .inl (fun _ => 0))), (q91, .inl (cI, 12, .inl (fun _ => 0))), (q99, .inl (cI, 64, .inl (fun _ => 0))), (q107, .inl (cI, 64, .inl (fun _ => 0))), (q115, .inl (cI, 64, .inl (fun _ => 0))), (q123, .inl (cI, 64, .inl (fun _ => 0))), (q131, .inl (cI, 64, .inl (fun _ => 0))), (q139, .inl (cI, 64, .inl (fun _ => 0))), (q147, .inl (cZ, 64, .inl (fun _ => 0))), (q155, .inl (cZ, 32, .inl (fun _ => 0))), (q163, .inl (cI, 16, .inl (fun _ => 0))), (q171, .inl (cI, 12, .inl (fun _ => 0))), (q179, .inl (cI, 16, .inl (fun _ => 0)))] H := hP
  have hD : va_D A [(h0, .inr (9, [.ref (q7), .ref (q16), .int 0, .int 0, .int 0, .int 0, .int 0, .int 0, .int 0, .int 0, .int 0, .int 0, .int 0, .int 0, .int 0, .int 0, .int 0, .int 0, .int 0, .int 0, .int 0, .ref (q24), .ref (q32), .int (-1 : Int32), .int 0, .int 0, .ref (q45), .int (-6 : Int32), .int 0, .ref (q59), .ref (q67), .ref (q75), .ref (q83), .ref (q91), .int 0, .ref (q99), .ref (q107), .ref (q115), .ref (q123), .ref (q131), .ref (q139), .ref (q147), .ref (q155), .ref (q163), .int 0, .ref (q171), .ref (q179)])), (q7, .inl (cI, 64, .inl (fun _ => 0))), (q16, .inl (cS, 132, .inl (fun _ => 0))), (q24, .inl (cS, 48, .inl (fun _ => 0))), (q32, .inl (cS, 12, .inl (fun _ => 0))), (q45, .inl (cS, 60, .inl (fun _ => 0))), (q59, .inl (cI, 12, .inl (fun _ => 0))), (q67, .inl (cI, 12, .inl (fun _ => 0))), (q75, .inl (cI, 12, .inl (fun _ => 0))), (q83, .inl (cI, 12, .inl (fun _ => 0))), (q91, .inl (cI, 12, .inl (fun _ => 0))), (q99, .inl (cI, 64, .inl (fun _ => 0))), (q107, .inl (cI, 64, .inl (fun _ => 0))), (q115, .inl (cI, 64, .inl (fun _ => 0))), (q123, .inl (cI, 64, .inl (fun _ => 0))), (q131, .inl (cI, 64, .inl (fun _ => 0))), (q139, .inl (cI, 64, .inl (fun _ => 0))), (q147, .inl (cZ, 64, .inl (fun _ => 0))), (q155, .inl (cZ, 32, .inl (fun _ => 0))), (q163, .inl (cI, 16, .inl (fun _ => 0))), (q171, .inl (cI, 12, .inl (fun _ => 0))), (q179, .inl (cI, 16, .inl (fun _ => 0)))] := hD
  obtain ⟨ad, had⟩ : ∃ ad : Nat → Nat, ad = (fun k => ([h0, q7, q16, q24, q32, q45, q59, q67, q75, q83, q91, q99, q107, q115, q123, q131, q139, q147, q155, q163, q171, q179] : List Nat).getD k 0) := ⟨_, rfl⟩
  have hP := hP.sub (ws' := mW cI cS cZ (fun k => ([h0, q7, q16, q24, q32, q45, q59, q67, q75, q83, q91, q99, q107, q115, q123, q131, q139, q147, q155, q163, q171, q179] : List Nat).getD k 0) mS0 mA0) [0, 1, 2, 3, 4, 5, 6, 7, 8, 9, 10, 11, 12, 13, 14, 15, 16, 17, 18, 19, 20, 21] rfl
  have hD := hD.sub (ws' := mW cI cS cZ (fun k => ([h0, q7, q16, q24, q32, q45, q59, q67, q75, q83, q91, q99, q107, q115, q123, q131, q139, q147, q155, q163, q171, q179] : List Nat).getD k 0) mS0 mA0) [0, 1, 2, 3, 4, 5, 6, 7, 8, 9, 10, 11, 12, 13, 14, 15, 16, 17, 18, 19, 20, 21] (by decide) rfl
  have hP : va_P D gCl (mW cI cS cZ ad mS0 mA0) H := by rw [had]; exact hP
  have hD : va_D A (mW cI cS cZ ad mS0 mA0) := by rw [had]; exact hD
  have h0e : ad 0 = h0 := by rw [had]; rfl
  have hl : lv_has ls 2 [(0, .ref (ad 0))] := by rw [h0e]; exact hl
  have hw := hw ad h0e
  clear had h0e
  generalize mS0 = σ at hw hP hD
  generalize mA0 = α at hw hP hD
  unfold wp_Md_init at hw
  refine lv_iconst (v := 0) hx hb d_Md_init_184 (by decide) ?_
  refine lv_istore_n hx hb d_Md_init_185 rfl hl (by decide) rfl (fun ls hl => ?_)
  have hl : lv_has ls 2 [(1, .int (0 : Int32)), (0, .ref (ad 0))] := hl
  exact L186 ad σ α (0 : Int32) ls H locs (lv_sub hl [1, 0] rfl) hP hD hS hw
end
