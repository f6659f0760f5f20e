/-- a private method of a class that the tables say can be made, by its rows of tables_1 -/
def lw_okq (q : MethodName × Nat) : Prop := (q.1.cls ≠ "java/lang/invoke/MethodHandle" ∧ q.1.cls ≠ "java/lang/invoke/VarHandle") ∧ Cond.instantiable q.1.cls q.2 ∈ tables_1 ∧ Cond.privateMethod q.1 ∈ tables_1 ∧ Cond.instanceMethod q.1 ∈ tables_1
set_option maxRecDepth 40000 in
theorem lw_p0 : lw_okq (⟨"EvenPurse", "forgetShelves", "()V"⟩, 10) := ⟨⟨by decide +kernel, by decide +kernel⟩, List.mem_of_getElem? (i := 13) rfl, List.mem_of_getElem? (i := 196) rfl, List.mem_of_getElem? (i := 197) rfl⟩
set_option maxRecDepth 40000 in
theorem lw_p1 : lw_okq (⟨"EvenPurse$Tally", "addThing", "(II)V"⟩, 2) := ⟨⟨by decide +kernel, by decide +kernel⟩, List.mem_of_getElem? (i := 109) rfl, List.mem_of_getElem? (i := 266) rfl, List.mem_of_getElem? (i := 267) rfl⟩
set_option maxRecDepth 40000 in
theorem lw_p2 : lw_okq (⟨"EvenPurse", "market", "()LEvenPurse$Shelf;"⟩, 10) := ⟨⟨by decide +kernel, by decide +kernel⟩, List.mem_of_getElem? (i := 13) rfl, List.mem_of_getElem? (i := 279) rfl, List.mem_of_getElem? (i := 280) rfl⟩
set_option maxRecDepth 40000 in
theorem lw_p3 : lw_okq (⟨"EvenPurse$Shelf", "addThing", "(II)V"⟩, 4) := ⟨⟨by decide +kernel, by decide +kernel⟩, List.mem_of_getElem? (i := 88) rfl, List.mem_of_getElem? (i := 299) rfl, List.mem_of_getElem? (i := 300) rfl⟩
set_option maxRecDepth 40000 in
theorem lw_p4 : lw_okq (⟨"EvenPurse$Shelf", "bestRank", "(III)J"⟩, 4) := ⟨⟨by decide +kernel, by decide +kernel⟩, List.mem_of_getElem? (i := 88) rfl, List.mem_of_getElem? (i := 306) rfl, List.mem_of_getElem? (i := 307) rfl⟩
set_option maxRecDepth 40000 in
theorem lw_p5 : lw_okq (⟨"EvenPurse", "pick", "(IIIZ)I"⟩, 10) := ⟨⟨by decide +kernel, by decide +kernel⟩, List.mem_of_getElem? (i := 13) rfl, List.mem_of_getElem? (i := 333) rfl, List.mem_of_getElem? (i := 334) rfl⟩
set_option maxRecDepth 40000 in
theorem lw_p6 : lw_okq (⟨"EvenPurse", "fitsSights", "(LEvenPurse$Shelf;I)Z"⟩, 10) := ⟨⟨by decide +kernel, by decide +kernel⟩, List.mem_of_getElem? (i := 13) rfl, List.mem_of_getElem? (i := 337) rfl, List.mem_of_getElem? (i := 338) rfl⟩
set_option maxRecDepth 40000 in
theorem lw_p7 : lw_okq (⟨"EvenPurse", "nearestBelow", "(I)I"⟩, 10) := ⟨⟨by decide +kernel, by decide +kernel⟩, List.mem_of_getElem? (i := 13) rfl, List.mem_of_getElem? (i := 350) rfl, List.mem_of_getElem? (i := 351) rfl⟩
set_option maxRecDepth 40000 in
theorem lw_p8 : lw_okq (⟨"EvenPurse", "nearestAbove", "(I)I"⟩, 10) := ⟨⟨by decide +kernel, by decide +kernel⟩, List.mem_of_getElem? (i := 13) rfl, List.mem_of_getElem? (i := 354) rfl, List.mem_of_getElem? (i := 355) rfl⟩
set_option maxRecDepth 40000 in
theorem lw_p9 : lw_okq (⟨"EvenPurse$Boundless", "addPrice", "(I)V"⟩, 2) := ⟨⟨by decide +kernel, by decide +kernel⟩, List.mem_of_getElem? (i := 122) rfl, List.mem_of_getElem? (i := 369) rfl, List.mem_of_getElem? (i := 370) rfl⟩
set_option maxRecDepth 40000 in
theorem lw_p10 : lw_okq (⟨"EvenPurse$Boundless", "goRound", "(II)V"⟩, 2) := ⟨⟨by decide +kernel, by decide +kernel⟩, List.mem_of_getElem? (i := 122) rfl, List.mem_of_getElem? (i := 376) rfl, List.mem_of_getElem? (i := 377) rfl⟩
set_option maxRecDepth 40000 in
theorem lw_p11 : lw_okq (⟨"EvenPurse$Parting", "settleSet", "(ILEvenPurse$Town;LEvenPurse$Shelf;)V"⟩, 3) := ⟨⟨by decide +kernel, by decide +kernel⟩, List.mem_of_getElem? (i := 135) rfl, List.mem_of_getElem? (i := 420) rfl, List.mem_of_getElem? (i := 421) rfl⟩
set_option maxRecDepth 40000 in
theorem lw_p12 : lw_okq (⟨"EvenPurse", "boughtAt", "(II)I"⟩, 10) := ⟨⟨by decide +kernel, by decide +kernel⟩, List.mem_of_getElem? (i := 13) rfl, List.mem_of_getElem? (i := 453) rfl, List.mem_of_getElem? (i := 454) rfl⟩
set_option maxRecDepth 40000 in
theorem lw_p13 : lw_okq (⟨"EvenPurseModel", "clearBasket", "()V"⟩, 22) := ⟨⟨by decide +kernel, by decide +kernel⟩, List.mem_of_getElem? (i := 516) rfl, List.mem_of_getElem? (i := 616) rfl, List.mem_of_getElem? (i := 617) rfl⟩
set_option maxRecDepth 40000 in
theorem lw_p14 : lw_okq (⟨"EvenPurseModel", "worthOf", "(II)I"⟩, 22) := ⟨⟨by decide +kernel, by decide +kernel⟩, List.mem_of_getElem? (i := 516) rfl, List.mem_of_getElem? (i := 626) rfl, List.mem_of_getElem? (i := 627) rfl⟩
set_option maxRecDepth 40000 in
theorem lw_p15 : lw_okq (⟨"EvenPurseModel", "oneWorth", "(II)I"⟩, 22) := ⟨⟨by decide +kernel, by decide +kernel⟩, List.mem_of_getElem? (i := 516) rfl, List.mem_of_getElem? (i := 630) rfl, List.mem_of_getElem? (i := 631) rfl⟩
def lw_privs_1 : List (MethodName × Nat) := [(⟨"EvenPurse", "forgetShelves", "()V"⟩, 10), (⟨"EvenPurse$Tally", "addThing", "(II)V"⟩, 2), (⟨"EvenPurse", "market", "()LEvenPurse$Shelf;"⟩, 10), (⟨"EvenPurse$Shelf", "addThing", "(II)V"⟩, 4), (⟨"EvenPurse$Shelf", "bestRank", "(III)J"⟩, 4), (⟨"EvenPurse", "pick", "(IIIZ)I"⟩, 10), (⟨"EvenPurse", "fitsSights", "(LEvenPurse$Shelf;I)Z"⟩, 10), (⟨"EvenPurse", "nearestBelow", "(I)I"⟩, 10), (⟨"EvenPurse", "nearestAbove", "(I)I"⟩, 10), (⟨"EvenPurse$Boundless", "addPrice", "(I)V"⟩, 2), (⟨"EvenPurse$Boundless", "goRound", "(II)V"⟩, 2), (⟨"EvenPurse$Parting", "settleSet", "(ILEvenPurse$Town;LEvenPurse$Shelf;)V"⟩, 3), (⟨"EvenPurse", "boughtAt", "(II)I"⟩, 10), (⟨"EvenPurseModel", "clearBasket", "()V"⟩, 22), (⟨"EvenPurseModel", "worthOf", "(II)I"⟩, 22), (⟨"EvenPurseModel", "oneWorth", "(II)I"⟩, 22)]
theorem lw_r1 : ∀ q ∈ lw_privs_1, lw_okq q := List.forall_mem_cons.mpr ⟨lw_p0, List.forall_mem_cons.mpr ⟨lw_p1, List.forall_mem_cons.mpr ⟨lw_p2, List.forall_mem_cons.mpr ⟨lw_p3, List.forall_mem_cons.mpr ⟨lw_p4, List.forall_mem_cons.mpr ⟨lw_p5, List.forall_mem_cons.mpr ⟨lw_p6, List.forall_mem_cons.mpr ⟨lw_p7, List.forall_mem_cons.mpr ⟨lw_p8, List.forall_mem_cons.mpr ⟨lw_p9, List.forall_mem_cons.mpr ⟨lw_p10, List.forall_mem_cons.mpr ⟨lw_p11, List.forall_mem_cons.mpr ⟨lw_p12, List.forall_mem_cons.mpr ⟨lw_p13, List.forall_mem_cons.mpr ⟨lw_p14, List.forall_mem_cons.mpr ⟨lw_p15, fun _ h => absurd h List.not_mem_nil⟩⟩⟩⟩⟩⟩⟩⟩⟩⟩⟩⟩⟩⟩⟩⟩
set_option maxRecDepth 40000 in
theorem lw_p16 : lw_okq (⟨"EvenPurseModel", "fillAll", "()V"⟩, 22) := ⟨⟨by decide +kernel, by decide +kernel⟩, List.mem_of_getElem? (i := 516) rfl, List.mem_of_getElem? (i := 642) rfl, List.mem_of_getElem? (i := 643) rfl⟩
set_option maxRecDepth 40000 in
theorem lw_p17 : lw_okq (⟨"EvenPurseModel", "fill", "(II)V"⟩, 22) := ⟨⟨by decide +kernel, by decide +kernel⟩, List.mem_of_getElem? (i := 516) rfl, List.mem_of_getElem? (i := 646) rfl, List.mem_of_getElem? (i := 647) rfl⟩
set_option maxRecDepth 40000 in
theorem lw_p18 : lw_okq (⟨"EvenPurseModel", "fillRow", "(I)V"⟩, 22) := ⟨⟨by decide +kernel, by decide +kernel⟩, List.mem_of_getElem? (i := 516) rfl, List.mem_of_getElem? (i := 650) rfl, List.mem_of_getElem? (i := 651) rfl⟩
set_option maxRecDepth 40000 in
theorem lw_p19 : lw_okq (⟨"EvenPurseModel", "most", "(I)I"⟩, 22) := ⟨⟨by decide +kernel, by decide +kernel⟩, List.mem_of_getElem? (i := 516) rfl, List.mem_of_getElem? (i := 654) rfl, List.mem_of_getElem? (i := 655) rfl⟩
set_option maxRecDepth 40000 in
theorem lw_p20 : lw_okq (⟨"EvenPurseModel", "comesOut", "(I)Z"⟩, 22) := ⟨⟨by decide +kernel, by decide +kernel⟩, List.mem_of_getElem? (i := 516) rfl, List.mem_of_getElem? (i := 662) rfl, List.mem_of_getElem? (i := 663) rfl⟩
set_option maxRecDepth 40000 in
theorem lw_p21 : lw_okq (⟨"EvenPurseModel", "layBest", "(I)V"⟩, 22) := ⟨⟨by decide +kernel, by decide +kernel⟩, List.mem_of_getElem? (i := 516) rfl, List.mem_of_getElem? (i := 666) rfl, List.mem_of_getElem? (i := 667) rfl⟩
set_option maxRecDepth 40000 in
theorem lw_p22 : lw_okq (⟨"EvenPurseModel", "goesOn", "(III)Z"⟩, 22) := ⟨⟨by decide +kernel, by decide +kernel⟩, List.mem_of_getElem? (i := 516) rfl, List.mem_of_getElem? (i := 670) rfl, List.mem_of_getElem? (i := 671) rfl⟩
set_option maxRecDepth 40000 in
theorem lw_p23 : lw_okq (⟨"EvenPurseModel", "commonPart", "()I"⟩, 22) := ⟨⟨by decide +kernel, by decide +kernel⟩, List.mem_of_getElem? (i := 516) rfl, List.mem_of_getElem? (i := 689) rfl, List.mem_of_getElem? (i := 690) rfl⟩
set_option maxRecDepth 40000 in
theorem lw_p24 : lw_okq (⟨"EvenPurseModel", "isThere", "(I)Z"⟩, 22) := ⟨⟨by decide +kernel, by decide +kernel⟩, List.mem_of_getElem? (i := 516) rfl, List.mem_of_getElem? (i := 714) rfl, List.mem_of_getElem? (i := 715) rfl⟩
set_option maxRecDepth 40000 in
theorem lw_p25 : lw_okq (⟨"EvenPurseModel", "layGroups", "(I)Z"⟩, 22) := ⟨⟨by decide +kernel, by decide +kernel⟩, List.mem_of_getElem? (i := 516) rfl, List.mem_of_getElem? (i := 718) rfl, List.mem_of_getElem? (i := 719) rfl⟩
set_option maxRecDepth 40000 in
theorem lw_p26 : lw_okq (⟨"EvenPurseModel", "hasAll", "()I"⟩, 22) := ⟨⟨by decide +kernel, by decide +kernel⟩, List.mem_of_getElem? (i := 516) rfl, List.mem_of_getElem? (i := 722) rfl, List.mem_of_getElem? (i := 723) rfl⟩
set_option maxRecDepth 40000 in
theorem lw_p27 : lw_okq (⟨"EvenPurseModel", "groupOf", "(I)I"⟩, 22) := ⟨⟨by decide +kernel, by decide +kernel⟩, List.mem_of_getElem? (i := 516) rfl, List.mem_of_getElem? (i := 726) rfl, List.mem_of_getElem? (i := 727) rfl⟩
set_option maxRecDepth 40000 in
theorem lw_p28 : lw_okq (⟨"EvenPurseModel", "hasOf", "(I)I"⟩, 22) := ⟨⟨by decide +kernel, by decide +kernel⟩, List.mem_of_getElem? (i := 516) rfl, List.mem_of_getElem? (i := 730) rfl, List.mem_of_getElem? (i := 731) rfl⟩
set_option maxRecDepth 40000 in
theorem lw_p29 : lw_okq (⟨"EvenPurseModel", "areAhead", "()Z"⟩, 22) := ⟨⟨by decide +kernel, by decide +kernel⟩, List.mem_of_getElem? (i := 516) rfl, List.mem_of_getElem? (i := 734) rfl, List.mem_of_getElem? (i := 735) rfl⟩
set_option maxRecDepth 40000 in
theorem lw_p30 : lw_okq (⟨"EvenPurseModel", "bestGroupOf", "(I)I"⟩, 22) := ⟨⟨by decide +kernel, by decide +kernel⟩, List.mem_of_getElem? (i := 516) rfl, List.mem_of_getElem? (i := 738) rfl, List.mem_of_getElem? (i := 739) rfl⟩
set_option maxRecDepth 40000 in
theorem lw_p31 : lw_okq (⟨"EvenPurseModel", "boughtOf", "(I)I"⟩, 22) := ⟨⟨by decide +kernel, by decide +kernel⟩, List.mem_of_getElem? (i := 516) rfl, List.mem_of_getElem? (i := 754) rfl, List.mem_of_getElem? (i := 755) rfl⟩
def lw_privs_2 : List (MethodName × Nat) := [(⟨"EvenPurseModel", "fillAll", "()V"⟩, 22), (⟨"EvenPurseModel", "fill", "(II)V"⟩, 22), (⟨"EvenPurseModel", "fillRow", "(I)V"⟩, 22), (⟨"EvenPurseModel", "most", "(I)I"⟩, 22), (⟨"EvenPurseModel", "comesOut", "(I)Z"⟩, 22), (⟨"EvenPurseModel", "layBest", "(I)V"⟩, 22), (⟨"EvenPurseModel", "goesOn", "(III)Z"⟩, 22), (⟨"EvenPurseModel", "commonPart", "()I"⟩, 22), (⟨"EvenPurseModel", "isThere", "(I)Z"⟩, 22), (⟨"EvenPurseModel", "layGroups", "(I)Z"⟩, 22), (⟨"EvenPurseModel", "hasAll", "()I"⟩, 22), (⟨"EvenPurseModel", "groupOf", "(I)I"⟩, 22), (⟨"EvenPurseModel", "hasOf", "(I)I"⟩, 22), (⟨"EvenPurseModel", "areAhead", "()Z"⟩, 22), (⟨"EvenPurseModel", "bestGroupOf", "(I)I"⟩, 22), (⟨"EvenPurseModel", "boughtOf", "(I)I"⟩, 22)]
theorem lw_r2 : ∀ q ∈ lw_privs_2, lw_okq q := List.forall_mem_cons.mpr ⟨lw_p16, List.forall_mem_cons.mpr ⟨lw_p17, List.forall_mem_cons.mpr ⟨lw_p18, List.forall_mem_cons.mpr ⟨lw_p19, List.forall_mem_cons.mpr ⟨lw_p20, List.forall_mem_cons.mpr ⟨lw_p21, List.forall_mem_cons.mpr ⟨lw_p22, List.forall_mem_cons.mpr ⟨lw_p23, List.forall_mem_cons.mpr ⟨lw_p24, List.forall_mem_cons.mpr ⟨lw_p25, List.forall_mem_cons.mpr ⟨lw_p26, List.forall_mem_cons.mpr ⟨lw_p27, List.forall_mem_cons.mpr ⟨lw_p28, List.forall_mem_cons.mpr ⟨lw_p29, List.forall_mem_cons.mpr ⟨lw_p30, List.forall_mem_cons.mpr ⟨lw_p31, fun _ h => absurd h List.not_mem_nil⟩⟩⟩⟩⟩⟩⟩⟩⟩⟩⟩⟩⟩⟩⟩⟩
set_option maxRecDepth 40000 in
theorem lw_p32 : lw_okq (⟨"EvenPurseModel", "isAsSeen", "(I)Z"⟩, 22) := ⟨⟨by decide +kernel, by decide +kernel⟩, List.mem_of_getElem? (i := 516) rfl, List.mem_of_getElem? (i := 774) rfl, List.mem_of_getElem? (i := 775) rfl⟩
set_option maxRecDepth 40000 in
theorem lw_p33 : lw_okq (⟨"EvenPurseModel", "passAll", "()V"⟩, 22) := ⟨⟨by decide +kernel, by decide +kernel⟩, List.mem_of_getElem? (i := 516) rfl, List.mem_of_getElem? (i := 794) rfl, List.mem_of_getElem? (i := 795) rfl⟩
set_option maxRecDepth 40000 in
theorem lw_p34 : lw_okq (⟨"EvenPurseModel", "pass", "(I)I"⟩, 22) := ⟨⟨by decide +kernel, by decide +kernel⟩, List.mem_of_getElem? (i := 516) rfl, List.mem_of_getElem? (i := 798) rfl, List.mem_of_getElem? (i := 799) rfl⟩
def lw_privs_3 : List (MethodName × Nat) := [(⟨"EvenPurseModel", "isAsSeen", "(I)Z"⟩, 22), (⟨"EvenPurseModel", "passAll", "()V"⟩, 22), (⟨"EvenPurseModel", "pass", "(I)I"⟩, 22)]
theorem lw_r3 : ∀ q ∈ lw_privs_3, lw_okq q := List.forall_mem_cons.mpr ⟨lw_p32, List.forall_mem_cons.mpr ⟨lw_p33, List.forall_mem_cons.mpr ⟨lw_p34, fun _ h => absurd h List.not_mem_nil⟩⟩⟩
def lw_privs : List (MethodName × Nat) := lw_privs_1 ++ (lw_privs_2 ++ (lw_privs_3))
def lw_tbl : List Cond := k2_sels lw_privs ++ tables_1
set_option maxRecDepth 40000 in
theorem lw_privs_ok : ∀ q ∈ lw_privs, lw_okq q := by
  show ∀ q ∈ lw_privs_1 ++ (lw_privs_2 ++ (lw_privs_3)), lw_okq q
  exact List.forall_mem_append.mpr ⟨lw_r1, List.forall_mem_append.mpr ⟨lw_r2, lw_r3⟩⟩
