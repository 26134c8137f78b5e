section
-- ===== PART A: goes FIRST, ahead of the names: the tables' words, and 'selects' of the private methods out of them =====
/-- a private method of a class that the tables say can be made, by its rows of tables_1 -/
def lw_okq (q : MethodName × Nat) : Prop := (q.1.cls ≠ "java/lang/invoke/MethodHandle" ∧ q.1.cls ≠ "java/lang/invoke/VarHandle") ∧ Cond.instantiable q.1.cls q.2 ∈ tables_1 ∧ Cond.privateMethod q.1 ∈ tables_1 ∧ Cond.instanceMethod q.1 ∈ tables_1
theorem lw_p0 : lw_okq (⟨"RoamingRegisters$Titles", "indexOf", "(II)I"⟩, 4) := ⟨⟨by decide +kernel, by decide +kernel⟩, List.mem_of_getElem? (i := 21) (by decide +kernel), List.mem_of_getElem? (i := 262) (by decide +kernel), List.mem_of_getElem? (i := 263) (by decide +kernel)⟩
theorem lw_p1 : lw_okq (⟨"RoamingRegisters", "isVisited", "(I)Z"⟩, 14) := ⟨⟨by decide +kernel, by decide +kernel⟩, List.mem_of_getElem? (i := 13) (by decide +kernel), List.mem_of_getElem? (i := 270) (by decide +kernel), List.mem_of_getElem? (i := 271) (by decide +kernel)⟩
theorem lw_p2 : lw_okq (⟨"RoamingRegisters$Queries", "indexOf", "(I)I"⟩, 3) := ⟨⟨by decide +kernel, by decide +kernel⟩, List.mem_of_getElem? (i := 56) (by decide +kernel), List.mem_of_getElem? (i := 318) (by decide +kernel), List.mem_of_getElem? (i := 319) (by decide +kernel)⟩
theorem lw_p3 : lw_okq (⟨"RoamingRegisters", "receive", "(LRoamingRegisters$Datagram;)V"⟩, 14) := ⟨⟨by decide +kernel, by decide +kernel⟩, List.mem_of_getElem? (i := 13) (by decide +kernel), List.mem_of_getElem? (i := 338) (by decide +kernel), List.mem_of_getElem? (i := 339) (by decide +kernel)⟩
theorem lw_p4 : lw_okq (⟨"RoamingRegisters", "receiveBeginUpdate", "(LRoamingRegisters$Datagram;)V"⟩, 14) := ⟨⟨by decide +kernel, by decide +kernel⟩, List.mem_of_getElem? (i := 13) (by decide +kernel), List.mem_of_getElem? (i := 342) (by decide +kernel), List.mem_of_getElem? (i := 343) (by decide +kernel)⟩
theorem lw_p5 : lw_okq (⟨"RoamingRegisters", "mayMove", "(II)Z"⟩, 14) := ⟨⟨by decide +kernel, by decide +kernel⟩, List.mem_of_getElem? (i := 13) (by decide +kernel), List.mem_of_getElem? (i := 350) (by decide +kernel), List.mem_of_getElem? (i := 351) (by decide +kernel)⟩
theorem lw_p6 : lw_okq (⟨"RoamingRegisters", "isElsewhere", "(II)Z"⟩, 14) := ⟨⟨by decide +kernel, by decide +kernel⟩, List.mem_of_getElem? (i := 13) (by decide +kernel), List.mem_of_getElem? (i := 354) (by decide +kernel), List.mem_of_getElem? (i := 355) (by decide +kernel)⟩
theorem lw_p7 : lw_okq (⟨"RoamingRegisters$Places", "indexOf", "(I)I"⟩, 2) := ⟨⟨by decide +kernel, by decide +kernel⟩, List.mem_of_getElem? (i := 42) (by decide +kernel), List.mem_of_getElem? (i := 362) (by decide +kernel), List.mem_of_getElem? (i := 363) (by decide +kernel)⟩
theorem lw_p8 : lw_okq (⟨"RoamingRegisters", "sendAbort", "(LRoamingRegisters$Datagram;)V"⟩, 14) := ⟨⟨by decide +kernel, by decide +kernel⟩, List.mem_of_getElem? (i := 13) (by decide +kernel), List.mem_of_getElem? (i := 370) (by decide +kernel), List.mem_of_getElem? (i := 371) (by decide +kernel)⟩
theorem lw_p9 : lw_okq (⟨"RoamingRegisters", "move", "(II)V"⟩, 14) := ⟨⟨by decide +kernel, by decide +kernel⟩, List.mem_of_getElem? (i := 13) (by decide +kernel), List.mem_of_getElem? (i := 374) (by decide +kernel), List.mem_of_getElem? (i := 375) (by decide +kernel)⟩
theorem lw_p10 : lw_okq (⟨"RoamingRegisters", "receiveBeginCancel", "(LRoamingRegisters$Datagram;)V"⟩, 14) := ⟨⟨by decide +kernel, by decide +kernel⟩, List.mem_of_getElem? (i := 13) (by decide +kernel), List.mem_of_getElem? (i := 392) (by decide +kernel), List.mem_of_getElem? (i := 393) (by decide +kernel)⟩
theorem lw_p11 : lw_okq (⟨"RoamingRegisters", "endRegistration", "(III)V"⟩, 14) := ⟨⟨by decide +kernel, by decide +kernel⟩, List.mem_of_getElem? (i := 13) (by decide +kernel), List.mem_of_getElem? (i := 396) (by decide +kernel), List.mem_of_getElem? (i := 397) (by decide +kernel)⟩
theorem lw_p12 : lw_okq (⟨"RoamingRegisters", "receiveBeginProvide", "(LRoamingRegisters$Datagram;)V"⟩, 14) := ⟨⟨by decide +kernel, by decide +kernel⟩, List.mem_of_getElem? (i := 13) (by decide +kernel), List.mem_of_getElem? (i := 400) (by decide +kernel), List.mem_of_getElem? (i := 401) (by decide +kernel)⟩
theorem lw_p13 : lw_okq (⟨"RoamingRegisters", "receiveInsert", "(LRoamingRegisters$Datagram;)V"⟩, 14) := ⟨⟨by decide +kernel, by decide +kernel⟩, List.mem_of_getElem? (i := 13) (by decide +kernel), List.mem_of_getElem? (i := 408) (by decide +kernel), List.mem_of_getElem? (i := 409) (by decide +kernel)⟩
theorem lw_p14 : lw_okq (⟨"RoamingRegisters", "receiveLast", "(LRoamingRegisters$Datagram;)V"⟩, 14) := ⟨⟨by decide +kernel, by decide +kernel⟩, List.mem_of_getElem? (i := 13) (by decide +kernel), List.mem_of_getElem? (i := 416) (by decide +kernel), List.mem_of_getElem? (i := 417) (by decide +kernel)⟩
theorem lw_p15 : lw_okq (⟨"RoamingRegisters", "endThoseDue", "(I)V"⟩, 14) := ⟨⟨by decide +kernel, by decide +kernel⟩, List.mem_of_getElem? (i := 13) (by decide +kernel), List.mem_of_getElem? (i := 454) (by decide +kernel), List.mem_of_getElem? (i := 455) (by decide +kernel)⟩
def lw_privs_1 : List (MethodName × Nat) := [(⟨"RoamingRegisters$Titles", "indexOf", "(II)I"⟩, 4), (⟨"RoamingRegisters", "isVisited", "(I)Z"⟩, 14), (⟨"RoamingRegisters$Queries", "indexOf", "(I)I"⟩, 3), (⟨"RoamingRegisters", "receive", "(LRoamingRegisters$Datagram;)V"⟩, 14), (⟨"RoamingRegisters", "receiveBeginUpdate", "(LRoamingRegisters$Datagram;)V"⟩, 14), (⟨"RoamingRegisters", "mayMove", "(II)Z"⟩, 14), (⟨"RoamingRegisters", "isElsewhere", "(II)Z"⟩, 14), (⟨"RoamingRegisters$Places", "indexOf", "(I)I"⟩, 2), (⟨"RoamingRegisters", "sendAbort", "(LRoamingRegisters$Datagram;)V"⟩, 14), (⟨"RoamingRegisters", "move", "(II)V"⟩, 14), (⟨"RoamingRegisters", "receiveBeginCancel", "(LRoamingRegisters$Datagram;)V"⟩, 14), (⟨"RoamingRegisters", "endRegistration", "(III)V"⟩, 14), (⟨"RoamingRegisters", "receiveBeginProvide", "(LRoamingRegisters$Datagram;)V"⟩, 14), (⟨"RoamingRegisters", "receiveInsert", "(LRoamingRegisters$Datagram;)V"⟩, 14), (⟨"RoamingRegisters", "receiveLast", "(LRoamingRegisters$Datagram;)V"⟩, 14), (⟨"RoamingRegisters", "endThoseDue", "(I)V"⟩, 14)]
theorem lw_r1 : ∀ q ∈ lw_privs_1, lw_okq q := List.forall_mem_cons.mpr ⟨lw_p0, List.forall_mem_cons.mpr ⟨lw_p1, List.forall_mem_cons.mpr ⟨lw_p2, List.forall_mem_cons.mpr ⟨lw_p3, List.forall_mem_cons.mpr ⟨lw_p4, List.forall_mem_cons.mpr ⟨lw_p5, List.forall_mem_cons.mpr ⟨lw_p6, List.forall_mem_cons.mpr ⟨lw_p7, List.forall_mem_cons.mpr ⟨lw_p8, List.forall_mem_cons.mpr ⟨lw_p9, List.forall_mem_cons.mpr ⟨lw_p10, List.forall_mem_cons.mpr ⟨lw_p11, List.forall_mem_cons.mpr ⟨lw_p12, List.forall_mem_cons.mpr ⟨lw_p13, List.forall_mem_cons.mpr ⟨lw_p14, List.forall_mem_cons.mpr ⟨lw_p15, fun _ h => absurd h List.not_mem_nil⟩⟩⟩⟩⟩⟩⟩⟩⟩⟩⟩⟩⟩⟩⟩⟩
theorem lw_p16 : lw_okq (⟨"RoamingRegisters", "giveUp", "(II)V"⟩, 14) := ⟨⟨by decide +kernel, by decide +kernel⟩, List.mem_of_getElem? (i := 13) (by decide +kernel), List.mem_of_getElem? (i := 458) (by decide +kernel), List.mem_of_getElem? (i := 459) (by decide +kernel)⟩
theorem lw_p17 : lw_okq (⟨"RoamingRegisters", "sendCancel", "(I)V"⟩, 14) := ⟨⟨by decide +kernel, by decide +kernel⟩, List.mem_of_getElem? (i := 13) (by decide +kernel), List.mem_of_getElem? (i := 470) (by decide +kernel), List.mem_of_getElem? (i := 471) (by decide +kernel)⟩
theorem lw_p18 : lw_okq (⟨"RoamingRegisters", "isNode", "(I)Z"⟩, 14) := ⟨⟨by decide +kernel, by decide +kernel⟩, List.mem_of_getElem? (i := 13) (by decide +kernel), List.mem_of_getElem? (i := 490) (by decide +kernel), List.mem_of_getElem? (i := 491) (by decide +kernel)⟩
theorem lw_p19 : lw_okq (⟨"RoamingRegistersModel", "isVisited", "(I)Z"⟩, 30) := ⟨⟨by decide +kernel, by decide +kernel⟩, List.mem_of_getElem? (i := 513) (by decide +kernel), List.mem_of_getElem? (i := 629) (by decide +kernel), List.mem_of_getElem? (i := 630) (by decide +kernel)⟩
theorem lw_p20 : lw_okq (⟨"RoamingRegistersModel", "openAt", "(I)I"⟩, 30) := ⟨⟨by decide +kernel, by decide +kernel⟩, List.mem_of_getElem? (i := 513) (by decide +kernel), List.mem_of_getElem? (i := 633) (by decide +kernel), List.mem_of_getElem? (i := 634) (by decide +kernel)⟩
theorem lw_p21 : lw_okq (⟨"RoamingRegistersModel", "about", "(IIII)I"⟩, 30) := ⟨⟨by decide +kernel, by decide +kernel⟩, List.mem_of_getElem? (i := 513) (by decide +kernel), List.mem_of_getElem? (i := 637) (by decide +kernel), List.mem_of_getElem? (i := 638) (by decide +kernel)⟩
theorem lw_p22 : lw_okq (⟨"RoamingRegistersModel", "reached", "(I)Z"⟩, 30) := ⟨⟨by decide +kernel, by decide +kernel⟩, List.mem_of_getElem? (i := 513) (by decide +kernel), List.mem_of_getElem? (i := 641) (by decide +kernel), List.mem_of_getElem? (i := 642) (by decide +kernel)⟩
theorem lw_p23 : lw_okq (⟨"RoamingRegistersModel", "begin", "(IIIII)I"⟩, 30) := ⟨⟨by decide +kernel, by decide +kernel⟩, List.mem_of_getElem? (i := 513) (by decide +kernel), List.mem_of_getElem? (i := 645) (by decide +kernel), List.mem_of_getElem? (i := 646) (by decide +kernel)⟩
theorem lw_p24 : lw_okq (⟨"RoamingRegistersModel", "send", "(IIIIIII)V"⟩, 30) := ⟨⟨by decide +kernel, by decide +kernel⟩, List.mem_of_getElem? (i := 513) (by decide +kernel), List.mem_of_getElem? (i := 649) (by decide +kernel), List.mem_of_getElem? (i := 650) (by decide +kernel)⟩
theorem lw_p25 : lw_okq (⟨"RoamingRegistersModel", "query", "(I)I"⟩, 30) := ⟨⟨by decide +kernel, by decide +kernel⟩, List.mem_of_getElem? (i := 513) (by decide +kernel), List.mem_of_getElem? (i := 661) (by decide +kernel), List.mem_of_getElem? (i := 662) (by decide +kernel)⟩
theorem lw_p26 : lw_okq (⟨"RoamingRegistersModel", "takeOut", "(I)V"⟩, 30) := ⟨⟨by decide +kernel, by decide +kernel⟩, List.mem_of_getElem? (i := 513) (by decide +kernel), List.mem_of_getElem? (i := 669) (by decide +kernel), List.mem_of_getElem? (i := 670) (by decide +kernel)⟩
theorem lw_p27 : lw_okq (⟨"RoamingRegistersModel", "update", "(III)V"⟩, 30) := ⟨⟨by decide +kernel, by decide +kernel⟩, List.mem_of_getElem? (i := 513) (by decide +kernel), List.mem_of_getElem? (i := 673) (by decide +kernel), List.mem_of_getElem? (i := 674) (by decide +kernel)⟩
theorem lw_p28 : lw_okq (⟨"RoamingRegistersModel", "cancelled", "(II)I"⟩, 30) := ⟨⟨by decide +kernel, by decide +kernel⟩, List.mem_of_getElem? (i := 513) (by decide +kernel), List.mem_of_getElem? (i := 677) (by decide +kernel), List.mem_of_getElem? (i := 678) (by decide +kernel)⟩
theorem lw_p29 : lw_okq (⟨"RoamingRegistersModel", "refuse", "(IIII)V"⟩, 30) := ⟨⟨by decide +kernel, by decide +kernel⟩, List.mem_of_getElem? (i := 513) (by decide +kernel), List.mem_of_getElem? (i := 681) (by decide +kernel), List.mem_of_getElem? (i := 682) (by decide +kernel)⟩
theorem lw_p30 : lw_okq (⟨"RoamingRegistersModel", "strike", "(II)V"⟩, 30) := ⟨⟨by decide +kernel, by decide +kernel⟩, List.mem_of_getElem? (i := 513) (by decide +kernel), List.mem_of_getElem? (i := 685) (by decide +kernel), List.mem_of_getElem? (i := 686) (by decide +kernel)⟩
theorem lw_p31 : lw_okq (⟨"RoamingRegistersModel", "close", "(I)V"⟩, 30) := ⟨⟨by decide +kernel, by decide +kernel⟩, List.mem_of_getElem? (i := 513) (by decide +kernel), List.mem_of_getElem? (i := 689) (by decide +kernel), List.mem_of_getElem? (i := 690) (by decide +kernel)⟩
def lw_privs_2 : List (MethodName × Nat) := [(⟨"RoamingRegisters", "giveUp", "(II)V"⟩, 14), (⟨"RoamingRegisters", "sendCancel", "(I)V"⟩, 14), (⟨"RoamingRegisters", "isNode", "(I)Z"⟩, 14), (⟨"RoamingRegistersModel", "isVisited", "(I)Z"⟩, 30), (⟨"RoamingRegistersModel", "openAt", "(I)I"⟩, 30), (⟨"RoamingRegistersModel", "about", "(IIII)I"⟩, 30), (⟨"RoamingRegistersModel", "reached", "(I)Z"⟩, 30), (⟨"RoamingRegistersModel", "begin", "(IIIII)I"⟩, 30), (⟨"RoamingRegistersModel", "send", "(IIIIIII)V"⟩, 30), (⟨"RoamingRegistersModel", "query", "(I)I"⟩, 30), (⟨"RoamingRegistersModel", "takeOut", "(I)V"⟩, 30), (⟨"RoamingRegistersModel", "update", "(III)V"⟩, 30), (⟨"RoamingRegistersModel", "cancelled", "(II)I"⟩, 30), (⟨"RoamingRegistersModel", "refuse", "(IIII)V"⟩, 30), (⟨"RoamingRegistersModel", "strike", "(II)V"⟩, 30), (⟨"RoamingRegistersModel", "close", "(I)V"⟩, 30)]
theorem lw_r2 : ∀ q ∈ lw_privs_2, lw_okq q := List.forall_mem_cons.mpr ⟨lw_p16, List.forall_mem_cons.mpr ⟨lw_p17, List.forall_mem_cons.mpr ⟨lw_p18, List.forall_mem_cons.mpr ⟨lw_p19, List.forall_mem_cons.mpr ⟨lw_p20, List.forall_mem_cons.mpr ⟨lw_p21, List.forall_mem_cons.mpr ⟨lw_p22, List.forall_mem_cons.mpr ⟨lw_p23, List.forall_mem_cons.mpr ⟨lw_p24, List.forall_mem_cons.mpr ⟨lw_p25, List.forall_mem_cons.mpr ⟨lw_p26, List.forall_mem_cons.mpr ⟨lw_p27, List.forall_mem_cons.mpr ⟨lw_p28, List.forall_mem_cons.mpr ⟨lw_p29, List.forall_mem_cons.mpr ⟨lw_p30, List.forall_mem_cons.mpr ⟨lw_p31, fun _ h => absurd h List.not_mem_nil⟩⟩⟩⟩⟩⟩⟩⟩⟩⟩⟩⟩⟩⟩⟩⟩
theorem lw_p32 : lw_okq (⟨"RoamingRegistersModel", "cancel", "(IIII)V"⟩, 30) := ⟨⟨by decide +kernel, by decide +kernel⟩, List.mem_of_getElem? (i := 513) (by decide +kernel), List.mem_of_getElem? (i := 693) (by decide +kernel), List.mem_of_getElem? (i := 694) (by decide +kernel)⟩
theorem lw_p33 : lw_okq (⟨"RoamingRegistersModel", "end", "(II)V"⟩, 30) := ⟨⟨by decide +kernel, by decide +kernel⟩, List.mem_of_getElem? (i := 513) (by decide +kernel), List.mem_of_getElem? (i := 697) (by decide +kernel), List.mem_of_getElem? (i := 698) (by decide +kernel)⟩
theorem lw_p34 : lw_okq (⟨"RoamingRegistersModel", "provide", "(IIII)V"⟩, 30) := ⟨⟨by decide +kernel, by decide +kernel⟩, List.mem_of_getElem? (i := 513) (by decide +kernel), List.mem_of_getElem? (i := 701) (by decide +kernel), List.mem_of_getElem? (i := 702) (by decide +kernel)⟩
theorem lw_p35 : lw_okq (⟨"RoamingRegistersModel", "insert", "(IIII)V"⟩, 30) := ⟨⟨by decide +kernel, by decide +kernel⟩, List.mem_of_getElem? (i := 513) (by decide +kernel), List.mem_of_getElem? (i := 705) (by decide +kernel), List.mem_of_getElem? (i := 706) (by decide +kernel)⟩
theorem lw_p36 : lw_okq (⟨"RoamingRegistersModel", "find", "(II)I"⟩, 30) := ⟨⟨by decide +kernel, by decide +kernel⟩, List.mem_of_getElem? (i := 513) (by decide +kernel), List.mem_of_getElem? (i := 709) (by decide +kernel), List.mem_of_getElem? (i := 710) (by decide +kernel)⟩
theorem lw_p37 : lw_okq (⟨"RoamingRegistersModel", "closing", "(IIIII)V"⟩, 30) := ⟨⟨by decide +kernel, by decide +kernel⟩, List.mem_of_getElem? (i := 513) (by decide +kernel), List.mem_of_getElem? (i := 713) (by decide +kernel), List.mem_of_getElem? (i := 714) (by decide +kernel)⟩
theorem lw_p38 : lw_okq (⟨"RoamingRegistersModel", "expire", "(I)V"⟩, 30) := ⟨⟨by decide +kernel, by decide +kernel⟩, List.mem_of_getElem? (i := 513) (by decide +kernel), List.mem_of_getElem? (i := 737) (by decide +kernel), List.mem_of_getElem? (i := 738) (by decide +kernel)⟩
def lw_privs_3 : List (MethodName × Nat) := [(⟨"RoamingRegistersModel", "cancel", "(IIII)V"⟩, 30), (⟨"RoamingRegistersModel", "end", "(II)V"⟩, 30), (⟨"RoamingRegistersModel", "provide", "(IIII)V"⟩, 30), (⟨"RoamingRegistersModel", "insert", "(IIII)V"⟩, 30), (⟨"RoamingRegistersModel", "find", "(II)I"⟩, 30), (⟨"RoamingRegistersModel", "closing", "(IIIII)V"⟩, 30), (⟨"RoamingRegistersModel", "expire", "(I)V"⟩, 30)]
theorem lw_r3 : ∀ q ∈ lw_privs_3, lw_okq q := List.forall_mem_cons.mpr ⟨lw_p32, List.forall_mem_cons.mpr ⟨lw_p33, List.forall_mem_cons.mpr ⟨lw_p34, List.forall_mem_cons.mpr ⟨lw_p35, List.forall_mem_cons.mpr ⟨lw_p36, List.forall_mem_cons.mpr ⟨lw_p37, List.forall_mem_cons.mpr ⟨lw_p38, fun _ h => absurd h List.not_mem_nil⟩⟩⟩⟩⟩⟩⟩
def lw_privs : List (MethodName × Nat) := lw_privs_1 ++ (lw_privs_2 ++ (lw_privs_3))
def lw_tbl : List Cond := k2_sels lw_privs ++ tables_1
theorem lw_privs_ok : ∀ q ∈ lw_privs, lw_okq q := by
  show ∀ q ∈ lw_privs_1 ++ (lw_privs_2 ++ (lw_privs_3)), lw_okq q
  exact List.forall_mem_append.mpr ⟨lw_r1, List.forall_mem_append.mpr ⟨lw_r2, lw_r3⟩⟩
end
section
/-! ===== the small machine: ints and references of cells by number, a heap of them; what a method's code does, as a predicate transformer ===== -/
/-- a value: an int, or a reference (0 is null) -/
abbrev zV : Type := Int32 ⊕ Nat
/-- a heap: each cell's kind and length, how many there are, the ints in it, the references in it -/
abbrev zH : Type := (Nat → Nat) × (Nat → Nat) × Nat × (Nat → Nat → Int32) × (Nat → Nat → Nat)
def zK (h : zH) (a : Nat) : Nat := h.1 a
def zL (h : zH) (a : Nat) : Nat := h.2.1 a
def zN (h : zH) : Nat := h.2.2.1
def zI (h : zH) (a k : Nat) : Int32 := h.2.2.2.1 a k
def zR (h : zH) (a k : Nat) : Nat := h.2.2.2.2 a k
def zwI (h : zH) (a k : Nat) (v : Int32) : zH := (h.1, h.2.1, h.2.2.1, (fun b j => if b = a ∧ j = k then v else h.2.2.2.1 b j), h.2.2.2.2)
def zwR (h : zH) (a k v : Nat) : zH := (h.1, h.2.1, h.2.2.1, h.2.2.2.1, (fun b j => if b = a ∧ j = k then v else h.2.2.2.2 b j))
def zNew (h : zH) (kd len : Nat) : zH := ((fun b => if b = h.2.2.1 then kd else h.1 b), (fun b => if b = h.2.2.1 then len else h.2.1 b), h.2.2.1 + 1, (fun b j => if b = h.2.2.1 then 0 else h.2.2.2.1 b j), (fun b j => if b = h.2.2.1 then 0 else h.2.2.2.2 b j))
theorem zK_wI {h : zH} {a k : Nat} {v : Int32} {b : Nat} : zK (zwI h a k v) b = zK h b := rfl
theorem zL_wI {h : zH} {a k : Nat} {v : Int32} {b : Nat} : zL (zwI h a k v) b = zL h b := rfl
theorem zN_wI {h : zH} {a k : Nat} {v : Int32} : zN (zwI h a k v) = zN h := rfl
theorem zR_wI {h : zH} {a k : Nat} {v : Int32} {b j : Nat} : zR (zwI h a k v) b j = zR h b j := rfl
theorem zI_wI {h : zH} {a k : Nat} {v : Int32} {b j : Nat} : zI (zwI h a k v) b j = if b = a ∧ j = k then v else zI h b j := rfl
theorem zK_wR {h : zH} {a k v : Nat} {b : Nat} : zK (zwR h a k v) b = zK h b := rfl
theorem zL_wR {h : zH} {a k v : Nat} {b : Nat} : zL (zwR h a k v) b = zL h b := rfl
theorem zN_wR {h : zH} {a k v : Nat} : zN (zwR h a k v) = zN h := rfl
theorem zI_wR {h : zH} {a k v : Nat} {b j : Nat} : zI (zwR h a k v) b j = zI h b j := rfl
theorem zR_wR {h : zH} {a k v : Nat} {b j : Nat} : zR (zwR h a k v) b j = if b = a ∧ j = k then v else zR h b j := rfl
theorem zK_new {h : zH} {kd len b : Nat} : zK (zNew h kd len) b = if b = zN h then kd else zK h b := rfl
theorem zL_new {h : zH} {kd len b : Nat} : zL (zNew h kd len) b = if b = zN h then len else zL h b := rfl
theorem zN_new {h : zH} {kd len : Nat} : zN (zNew h kd len) = zN h + 1 := rfl
theorem zI_new {h : zH} {kd len b j : Nat} : zI (zNew h kd len) b j = if b = zN h then 0 else zI h b j := rfl
theorem zR_new {h : zH} {kd len b j : Nat} : zR (zNew h kd len) b j = if b = zN h then 0 else zR h b j := rfl
/-- an instruction of a table: it, its length, three numbers (a target, a kind, a place ..), an int -/
abbrev zE : Type := Instr × Nat × Nat × Nat × Nat × Int32
/-- a method's table: its instructions by their places, what it returns (0 an int, 1 a boolean, 2 nothing), how many cells and slots it may make -/
abbrev zMt : Type := List (Option zE) × Nat × Nat × Nat
def zAt : List (Option zE) → Nat → Option zE
  | [], _ => none
  | e :: _, 0 => e
  | _ :: t, n + 1 => zAt t n
abbrev zP : Type := Nat → Nat → Nat → List (Option zV) → List zV → zH → Prop
abbrev zT : Type := Option zV → zH → Prop
abbrev zCall : Type := Nat → List zV → zH → zT → Prop
def zGi (ls : List (Option zV)) (i : Nat) (f : Int32 → Prop) : Prop := match ls[i]? with
  | some (some (.inl v)) => f v
  | _ => False
def zGr (ls : List (Option zV)) (i : Nat) (f : Nat → Prop) : Prop := match ls[i]? with
  | some (some (.inr v)) => f v
  | _ => False
def zSt (ls : List (Option zV)) (i : Nat) (f : Prop) : Prop := match Nat.blt i ls.length with
  | true => f
  | false => False
def z1i (st : List zV) (f : Int32 → List zV → Prop) : Prop := match st with
  | .inl a :: r => f a r
  | _ => False
def z1r (st : List zV) (f : Nat → List zV → Prop) : Prop := match st with
  | .inr a :: r => f a r
  | _ => False
def z2i (st : List zV) (f : Int32 → Int32 → List zV → Prop) : Prop := match st with
  | .inl b :: .inl a :: r => f a b r
  | _ => False
def z2ir (st : List zV) (f : Int32 → Nat → List zV → Prop) : Prop := match st with
  | .inl j :: .inr a :: r => f j a r
  | _ => False
def z2rr (st : List zV) (f : Nat → Nat → List zV → Prop) : Prop := match st with
  | .inr b :: .inr a :: r => f b a r
  | _ => False
def z3i (st : List zV) (f : Int32 → Int32 → Nat → List zV → Prop) : Prop := match st with
  | .inl v :: .inl j :: .inr a :: r => f v j a r
  | _ => False
def z3r (st : List zV) (f : Nat → Int32 → Nat → List zV → Prop) : Prop := match st with
  | .inr b :: .inl j :: .inr a :: r => f b j a r
  | _ => False
/-- a switch: 'P tgt' for each value from lo on -/
def zSw (P : Nat → Prop) (pc : Nat) (v : Int32) : Int → List Int → Prop
  | _, [] => True
  | lo, o :: os => (v.toInt = lo → P ((pc : Int) + o).toNat) ∧ zSw P pc v (lo + 1) os
/-- a lookup: the first pair that fits, else the default -/
def zLk (P : Nat → Prop) (pc : Nat) (v : Int32) (d : Int) : List (Int × Int) → Prop
  | [] => P ((pc : Int) + d).toNat
  | (k, o) :: r => (v.toInt = k → P ((pc : Int) + o).toNat) ∧ (¬ v.toInt = k → zLk P pc v d r)
def zSt8 (r : List zV) (f : Prop) : Prop := match Nat.ble r.length 8 with
  | true => f
  | false => False
def zLe (n : Nat) (r : List zV) (f : Prop) : Prop := match Nat.ble n r.length with
  | true => f
  | false => False
end
section
/-! ===== tables, written by a program: the kinds of objects, the methods, their instructions ===== -/
def zCn (k : Nat) : String := ["RoamingRegisters", "RoamingRegisters$Titles", "RoamingRegisters$Places", "RoamingRegisters$Queries", "RoamingRegisters$RoamingNumbers", "RoamingRegisters$Dialogue", "RoamingRegisters$Dialogues", "RoamingRegisters$Datagram", "RoamingRegisters$Network", "RoamingRegistersModel", "RoamingRegistersLaw"].getD k ""
def zF0 : u_T := fun k => match k with
  | 0 => ("RoamingRegisters", "visited", "I", true)
  | 1 => ("RoamingRegisters", "clock", "I", false)
  | 2 => ("RoamingRegisters", "digitsOf", "[I", true)
  | 3 => ("RoamingRegisters", "locationOf", "[I", true)
  | 4 => ("RoamingRegisters", "held", "[Z", true)
  | 5 => ("RoamingRegisters", "standing", "[I", true)
  | 6 => ("RoamingRegisters", "titles", "LRoamingRegisters$Titles;", true)
  | 7 => ("RoamingRegisters", "cancellations", "LRoamingRegisters$Places;", true)
  | 8 => ("RoamingRegisters", "queries", "LRoamingRegisters$Queries;", true)
  | 9 => ("RoamingRegisters", "network", "LRoamingRegisters$Network;", true)
  | 10 => ("RoamingRegisters", "arrived", "LRoamingRegisters$Datagram;", true)
  | 11 => ("RoamingRegisters", "numbers", "LRoamingRegisters$RoamingNumbers;", true)
  | 12 => ("RoamingRegisters", "home", "LRoamingRegisters$Dialogues;", true)
  | _ => ("RoamingRegisters", "openAt", "[LRoamingRegisters$Dialogues;", true)
def zF1 : u_T := fun k => match k with
  | 0 => ("RoamingRegisters$Titles", "firsts", "[I", true)
  | 1 => ("RoamingRegisters$Titles", "counts", "[I", true)
  | 2 => ("RoamingRegisters$Titles", "yeses", "[Z", true)
  | _ => ("RoamingRegisters$Titles", "size", "I", false)
def zF2 : u_T := fun k => match k with
  | 0 => ("RoamingRegisters$Places", "rows", "[I", true)
  | _ => ("RoamingRegisters$Places", "size", "I", false)
def zF3 : u_T := fun k => match k with
  | 0 => ("RoamingRegisters$Queries", "queryNumbers", "[I", true)
  | 1 => ("RoamingRegisters$Queries", "answers", "[I", true)
  | _ => ("RoamingRegisters$Queries", "next", "I", false)
def zF4 : u_T := fun k => match k with
  | 0 => ("RoamingRegisters$RoamingNumbers", "owners", "[I", true)
  | _ => ("RoamingRegisters$RoamingNumbers", "untils", "[I", true)
def zF5 : u_T := fun k => match k with
  | 0 => ("RoamingRegisters$Dialogue", "number", "I", false)
  | 1 => ("RoamingRegisters$Dialogue", "kind", "I", false)
  | 2 => ("RoamingRegisters$Dialogue", "other", "I", false)
  | 3 => ("RoamingRegisters$Dialogue", "subscriber", "I", false)
  | 4 => ("RoamingRegisters$Dialogue", "deadline", "I", false)
  | _ => ("RoamingRegisters$Dialogue", "answers", "I", false)
def zF6 : u_T := fun k => match k with
  | 0 => ("RoamingRegisters$Dialogues", "rows", "[LRoamingRegisters$Dialogue;", true)
  | 1 => ("RoamingRegisters$Dialogues", "size", "I", false)
  | _ => ("RoamingRegisters$Dialogues", "latest", "I", false)
def zF7 : u_T := fun k => match k with
  | 0 => ("RoamingRegisters$Datagram", "sender", "I", false)
  | 1 => ("RoamingRegisters$Datagram", "receiver", "I", false)
  | 2 => ("RoamingRegisters$Datagram", "code", "I", false)
  | 3 => ("RoamingRegisters$Datagram", "subscriber", "I", false)
  | 4 => ("RoamingRegisters$Datagram", "senderDialogue", "I", false)
  | 5 => ("RoamingRegisters$Datagram", "receiverDialogue", "I", false)
  | _ => ("RoamingRegisters$Datagram", "value", "I", false)
def zF8 : u_T := fun k => match k with
  | 0 => ("RoamingRegisters$Network", "rows", "[LRoamingRegisters$Datagram;", true)
  | _ => ("RoamingRegisters$Network", "size", "I", false)
def zF9 : u_T := fun k => match k with
  | 0 => ("RoamingRegistersModel", "visited", "I", true)
  | 1 => ("RoamingRegistersModel", "clock", "I", false)
  | 2 => ("RoamingRegistersModel", "digits", "[I", true)
  | 3 => ("RoamingRegistersModel", "location", "[I", true)
  | 4 => ("RoamingRegistersModel", "titles", "I", false)
  | 5 => ("RoamingRegistersModel", "titleFirst", "[I", true)
  | 6 => ("RoamingRegistersModel", "titleCount", "[I", true)
  | 7 => ("RoamingRegistersModel", "titleYes", "[Z", true)
  | 8 => ("RoamingRegistersModel", "cancellations", "I", false)
  | 9 => ("RoamingRegistersModel", "cancelNode", "[I", true)
  | 10 => ("RoamingRegistersModel", "cancelWho", "[I", true)
  | 11 => ("RoamingRegistersModel", "keeps", "[Z", true)
  | 12 => ("RoamingRegistersModel", "standing", "[I", true)
  | 13 => ("RoamingRegistersModel", "allotted", "[I", true)
  | 14 => ("RoamingRegistersModel", "until", "[I", true)
  | 15 => ("RoamingRegistersModel", "counted", "[I", true)
  | 16 => ("RoamingRegistersModel", "open", "I", false)
  | 17 => ("RoamingRegistersModel", "at", "[I", true)
  | 18 => ("RoamingRegistersModel", "number", "[I", true)
  | 19 => ("RoamingRegistersModel", "kind", "[I", true)
  | 20 => ("RoamingRegistersModel", "who", "[I", true)
  | 21 => ("RoamingRegistersModel", "other", "[I", true)
  | 22 => ("RoamingRegistersModel", "deadline", "[I", true)
  | 23 => ("RoamingRegistersModel", "answers", "[I", true)
  | 24 => ("RoamingRegistersModel", "queries", "I", false)
  | 25 => ("RoamingRegistersModel", "queryNumber", "[I", true)
  | 26 => ("RoamingRegistersModel", "queryAnswer", "[I", true)
  | 27 => ("RoamingRegistersModel", "flying", "I", false)
  | 28 => ("RoamingRegistersModel", "flight", "[I", true)
  | _ => ("RoamingRegistersModel", "arrived", "[I", true)
abbrev zCl : List vw_C := [("RoamingRegisters", zF0, 14), ("RoamingRegisters$Titles", zF1, 4), ("RoamingRegisters$Places", zF2, 2), ("RoamingRegisters$Queries", zF3, 3), ("RoamingRegisters$RoamingNumbers", zF4, 2), ("RoamingRegisters$Dialogue", zF5, 6), ("RoamingRegisters$Dialogues", zF6, 3), ("RoamingRegisters$Datagram", zF7, 7), ("RoamingRegisters$Network", zF8, 2), ("RoamingRegistersModel", zF9, 30)]
theorem zCl_len : zCl.length < 40 := by decide
def zNf (ci : Nat) : Nat := [14, 4, 2, 3, 2, 6, 3, 7, 2, 30].getD ci 0
def zFr (ci k : Nat) : Bool := ([[false, false, true, true, true, true, true, true, true, true, true, true, true, true], [true, true, true, false], [true, false], [true, true, false], [true, true], [false, false, false, false, false, false], [true, false, false], [false, false, false, false, false, false, false], [true, false], [false, false, true, true, false, true, true, true, false, true, true, true, true, true, true, true, false, true, true, true, true, true, true, true, false, true, true, false, true, true]].getD ci []).getD k false
def zFin (ci k : Nat) : Bool := ([[true, false, true, true, true, true, true, true, true, true, true, true, true, true], [true, true, true, false], [true, false], [true, true, false], [true, true], [false, false, false, false, false, false], [true, false, false], [false, false, false, false, false, false, false], [true, false], [true, false, true, true, false, true, true, true, false, true, true, true, true, true, true, true, false, true, true, true, true, true, true, true, false, true, true, false, true, true]].getD ci []).getD k false
def zTy (ci k : Nat) : FieldType := ([[.int, .int, .array .int, .array .int, .array .boolean, .array .int, .object "RoamingRegisters$Titles", .object "RoamingRegisters$Places", .object "RoamingRegisters$Queries", .object "RoamingRegisters$Network", .object "RoamingRegisters$Datagram", .object "RoamingRegisters$RoamingNumbers", .object "RoamingRegisters$Dialogues", .array (.object "RoamingRegisters$Dialogues")], [.array .int, .array .int, .array .boolean, .int], [.array .int, .int], [.array .int, .array .int, .int], [.array .int, .array .int], [.int, .int, .int, .int, .int, .int], [.array (.object "RoamingRegisters$Dialogue"), .int, .int], [.int, .int, .int, .int, .int, .int, .int], [.array (.object "RoamingRegisters$Datagram"), .int], [.int, .int, .array .int, .array .int, .int, .array .int, .array .int, .array .boolean, .int, .array .int, .array .int, .array .boolean, .array .int, .array .int, .array .int, .array .int, .int, .array .int, .array .int, .array .int, .array .int, .array .int, .array .int, .array .int, .int, .array .int, .array .int, .int, .array .int, .array .int]].getD ci []).getD k .int
def zt0 : List (Option zE) := [some ((.aload_n 0), 1, 0, 0, 0, 0), some ((.invokespecial 1), 3, 3, 0, 0, 0), none, none, some ((.aload_n 0), 1, 0, 0, 0, 0), some ((.iconst (4)), 1, 0, 0, 0, 4), some ((.newarray .int), 2, 1, 0, 0, 0), none, some ((.putfield 9), 3, 3, 2, 1, 0), none, none, some ((.aload_n 0), 1, 0, 0, 0, 0), some ((.iconst (4)), 1, 0, 0, 0, 4), some ((.newarray .int), 2, 1, 0, 0, 0), none, some ((.putfield 13), 3, 3, 3, 1, 0), none, none, some ((.aload_n 0), 1, 0, 0, 0, 0), some ((.new 16), 3, 5, 4, 0, 0), none, none, some (.dup, 1, 0, 0, 0, 0), some ((.invokespecial 18), 3, 37, 0, 5, 0), none, none, some ((.putfield 19), 3, 3, 6, 1, 0), none, none, some ((.aload_n 0), 1, 0, 0, 0, 0), some ((.new 23), 3, 7, 2, 0, 0), none, none, some (.dup, 1, 0, 0, 0, 0), some ((.invokespecial 25), 3, 41, 0, 7, 0), none, none, some ((.putfield 26), 3, 3, 7, 1, 0), none, none, some ((.aload_n 0), 1, 0, 0, 0, 0), some ((.new 30), 3, 9, 3, 0, 0), none, none, some (.dup, 1, 0, 0, 0, 0), some ((.invokespecial 32), 3, 48, 0, 9, 0), none, none, some ((.putfield 33), 3, 3, 8, 1, 0), none, none, some ((.aload_n 0), 1, 0, 0, 0, 0), some ((.new 37), 3, 19, 2, 0, 0), none, none, some (.dup, 1, 0, 0, 0, 0), some ((.invokespecial 39), 3, 68, 0, 19, 0), none, none, some ((.putfield 40), 3, 3, 9, 1, 0), none, none, some ((.aload_n 0), 1, 0, 0, 0, 0), some ((.new 44), 3, 17, 7, 0, 0), none, none, some (.dup, 1, 0, 0, 0, 0), some ((.invokespecial 46), 3, 65, 0, 17, 0), none, none, some ((.putfield 47), 3, 3, 10, 1, 0), none, none, some ((.aload_n 0), 1, 0, 0, 0, 0), some ((.iconst (2)), 1, 0, 0, 0, 2), some ((.iconst (4)), 1, 0, 0, 0, 4), some ((.iload_n 1), 1, 0, 0, 0, 0), some ((.invokestatic 51), 3, 0, 0, 8, 0), none, none, some ((.invokestatic 57), 3, 0, 0, 7, 0), none, none, some ((.putfield 60), 3, 3, 0, 0, 0), none, none, some ((.aload_n 0), 1, 0, 0, 0, 0), some ((.iconst (4)), 1, 0, 0, 0, 4), some ((.aload_n 0), 1, 0, 0, 0, 0), some ((.getfield 60), 3, 3, 0, 0, 0), none, none, some ((.iconst (1)), 1, 0, 0, 0, 1), some (.iadd, 1, 0, 0, 0, 0), some (.imul, 1, 0, 0, 0, 0), some ((.newarray .boolean), 2, 2, 0, 0, 0), none, some ((.putfield 64), 3, 3, 4, 1, 0), none, none, some ((.aload_n 0), 1, 0, 0, 0, 0), some ((.iconst (4)), 1, 0, 0, 0, 4), some ((.aload_n 0), 1, 0, 0, 0, 0), some ((.getfield 60), 3, 3, 0, 0, 0), none, none, some ((.iconst (1)), 1, 0, 0, 0, 1), some (.iadd, 1, 0, 0, 0, 0), some (.imul, 1, 0, 0, 0, 0), some ((.newarray .int), 2, 1, 0, 0, 0), none, some ((.putfield 68), 3, 3, 5, 1, 0), none, none, some ((.aload_n 0), 1, 0, 0, 0, 0), some ((.new 71), 3, 11, 2, 0, 0), none, none, some (.dup, 1, 0, 0, 0, 0), some ((.aload_n 0), 1, 0, 0, 0, 0), some ((.getfield 60), 3, 3, 0, 0, 0), none, none, some ((.invokespecial 73), 3, 53, 1, 11, 0), none, none, some ((.putfield 76), 3, 3, 11, 1, 0), none, none, some ((.aload_n 0), 1, 0, 0, 0, 0), some ((.new 80), 3, 15, 3, 0, 0), none, none, some (.dup, 1, 0, 0, 0, 0), some ((.iconst (4)), 1, 0, 0, 0, 4), some ((.invokespecial 82), 3, 58, 1, 15, 0), none, none, some ((.putfield 83), 3, 3, 12, 1, 0), none, none, some ((.aload_n 0), 1, 0, 0, 0, 0), some ((.aload_n 0), 1, 0, 0, 0, 0), some ((.getfield 60), 3, 3, 0, 0, 0), none, none, some ((.iconst (1)), 1, 0, 0, 0, 1), some (.iadd, 1, 0, 0, 0, 0), some ((.anewarray 80), 3, 16, 0, 0, 0), none, none, some ((.putfield 87), 3, 3, 13, 1, 0), none, none, some ((.aload_n 0), 1, 0, 0, 0, 0), some ((.getfield 87), 3, 3, 13, 1, 0), none, none, some ((.iconst (0)), 1, 0, 0, 0, 0), some ((.aload_n 0), 1, 0, 0, 0, 0), some ((.getfield 83), 3, 3, 12, 1, 0), none, none, some (.aastore, 1, 16, 15, 0, 0), some ((.iconst (1)), 1, 0, 0, 0, 1), some ((.istore_n 2), 1, 0, 0, 0, 0), some ((.iload_n 2), 1, 0, 0, 0, 0), some ((.aload_n 0), 1, 0, 0, 0, 0), some ((.getfield 60), 3, 3, 0, 0, 0), none, none, some ((.if_icmp .gt (23)), 3, 194, 0, 0, 0), none, none, some ((.aload_n 0), 1, 0, 0, 0, 0), some ((.getfield 87), 3, 3, 13, 1, 0), none, none, some ((.iload_n 2), 1, 0, 0, 0, 0), some ((.new 80), 3, 15, 3, 0, 0), none, none, some (.dup, 1, 0, 0, 0, 0), some ((.iconst (2)), 1, 0, 0, 0, 2), some ((.invokespecial 82), 3, 58, 1, 15, 0), none, none, some (.aastore, 1, 16, 15, 0, 0), some ((.iinc 2 (1)), 3, 0, 0, 0, 1), none, none, some ((.goto (-25)), 3, 166, 0, 0, 0), none, none, some (.return_, 1, 0, 0, 0, 0)]
def zt1 : List (Option zE) := [some ((.iload_n 1), 1, 0, 0, 0, 0), some ((.invokestatic 91), 3, 21, 1, 0, 0), none, none, some ((.ifCond .eq (16)), 3, 20, 0, 0, 0), none, none, some ((.iload_n 2), 1, 0, 0, 0, 0), some ((.ifCond .lt (12)), 3, 20, 0, 0, 0), none, none, some ((.iload_n 2), 1, 0, 0, 0, 0), some ((.getstatic 95), 3, 2, 0, 0, 0), none, none, some ((.iconst (5)), 1, 0, 0, 0, 5), some (.iaload, 1, 0, 0, 0, 0), some ((.if_icmp .lt (5)), 3, 22, 0, 0, 0), none, none, some ((.iconst (0)), 1, 0, 0, 0, 0), some (.ireturn, 1, 0, 0, 0, 0), some ((.aload_n 0), 1, 0, 0, 0, 0), some ((.getfield 9), 3, 3, 2, 1, 0), none, none, some ((.iload_n 1), 1, 0, 0, 0, 0), some ((.iload_n 2), 1, 0, 0, 0, 0), some (.iastore, 1, 0, 0, 0, 0), some ((.iconst (1)), 1, 0, 0, 0, 1), some (.ireturn, 1, 0, 0, 0, 0)]
def zt2 : List (Option zE) := [some ((.iload_n 2), 1, 0, 0, 0, 0), some ((.ifCond .lt (21)), 3, 22, 0, 0, 0), none, none, some ((.iload_n 2), 1, 0, 0, 0, 0), some ((.iconst (5)), 1, 0, 0, 0, 5), some ((.if_icmp .gt (16)), 3, 22, 0, 0, 0), none, none, some ((.iload_n 1), 1, 0, 0, 0, 0), some ((.ifCond .lt (12)), 3, 22, 0, 0, 0), none, none, some ((.iload_n 1), 1, 0, 0, 0, 0), some ((.getstatic 95), 3, 2, 0, 0, 0), none, none, some ((.iload_n 2), 1, 0, 0, 0, 0), some (.iaload, 1, 0, 0, 0, 0), some ((.if_icmp .lt (5)), 3, 24, 0, 0, 0), none, none, some ((.iconst (0)), 1, 0, 0, 0, 0), some (.ireturn, 1, 0, 0, 0, 0), some ((.aload_n 0), 1, 0, 0, 0, 0), some ((.getfield 19), 3, 3, 6, 1, 0), none, none, some ((.iload_n 1), 1, 0, 0, 0, 0), some ((.iload_n 2), 1, 0, 0, 0, 0), some ((.iload_n 3), 1, 0, 0, 0, 0), some ((.invokevirtual 98), 3, 38, 3, 5, 0), none, none, some (.ireturn, 1, 0, 0, 0, 0)]
def zt3 : List (Option zE) := [some ((.aload_n 0), 1, 0, 0, 0, 0), some ((.iload_n 1), 1, 0, 0, 0, 0), some ((.invokevirtual 102), 3, 20, 1, 3, 0), none, none, some ((.ifCond .eq (10)), 3, 15, 0, 0, 0), none, none, some ((.iload_n 2), 1, 0, 0, 0, 0), some ((.invokestatic 91), 3, 21, 1, 0, 0), none, none, some ((.ifCond .ne (6)), 3, 18, 0, 0, 0), none, none, some ((.bipush (-9)), 2, 0, 0, 0, -9), none, some (.ireturn, 1, 0, 0, 0, 0), some ((.aload_n 0), 1, 0, 0, 0, 0), some ((.getfield 87), 3, 3, 13, 1, 0), none, none, some ((.iload_n 1), 1, 0, 0, 0, 0), some (.aaload, 1, 16, 0, 0, 0), some ((.astore_n 3), 1, 0, 0, 0, 0), some ((.aload_n 3), 1, 0, 0, 0, 0), some ((.invokevirtual 105), 3, 59, 0, 15, 0), none, none, some ((.ifCond .ne (14)), 3, 43, 0, 0, 0), none, none, some ((.aload_n 3), 1, 0, 0, 0, 0), some ((.iconst (1)), 1, 0, 0, 0, 1), some ((.iconst (0)), 1, 0, 0, 0, 0), some ((.iload_n 2), 1, 0, 0, 0, 0), some ((.invokevirtual 109), 3, 62, 3, 15, 0), none, none, some ((.iconst (-1)), 1, 0, 0, 0, -1), some ((.if_icmp .eq (6)), 3, 46, 0, 0, 0), none, none, some ((.bipush (-8)), 2, 0, 0, 0, -8), none, some (.ireturn, 1, 0, 0, 0, 0), some ((.aload_n 0), 1, 0, 0, 0, 0), some ((.getfield 19), 3, 3, 6, 1, 0), none, none, some ((.aload_n 0), 1, 0, 0, 0, 0), some ((.getfield 9), 3, 3, 2, 1, 0), none, none, some ((.iload_n 2), 1, 0, 0, 0, 0), some (.iaload, 1, 0, 0, 0, 0), some ((.invokevirtual 113), 3, 40, 1, 5, 0), none, none, some ((.ifCond .ne (6)), 3, 65, 0, 0, 0), none, none, some ((.bipush (-7)), 2, 0, 0, 0, -7), none, some (.ireturn, 1, 0, 0, 0, 0), some ((.aload_n 3), 1, 0, 0, 0, 0), some ((.iconst (1)), 1, 0, 0, 0, 1), some ((.iconst (0)), 1, 0, 0, 0, 0), some ((.iload_n 2), 1, 0, 0, 0, 0), some ((.aload_n 0), 1, 0, 0, 0, 0), some ((.getfield 116), 3, 3, 1, 0, 0), none, none, some ((.bipush (10)), 2, 0, 0, 0, 10), none, some (.iadd, 1, 0, 0, 0, 0), some ((.iconst (0)), 1, 0, 0, 0, 0), some ((.invokevirtual 119), 3, 60, 5, 15, 0), none, none, some ((.istore 4), 2, 0, 0, 0, 0), none, some ((.aload_n 0), 1, 0, 0, 0, 0), some ((.getfield 68), 3, 3, 5, 1, 0), none, none, some ((.iload_n 1), 1, 0, 0, 0, 0), some ((.iload_n 2), 1, 0, 0, 0, 0), some ((.invokestatic 123), 3, 22, 2, 0, 0), none, none, some ((.iconst (1)), 1, 0, 0, 0, 1), some (.iastore, 1, 0, 0, 0, 0), some ((.aload_n 0), 1, 0, 0, 0, 0), some ((.getfield 40), 3, 3, 9, 1, 0), none, none, some ((.iload_n 1), 1, 0, 0, 0, 0), some ((.iconst (0)), 1, 0, 0, 0, 0), some ((.bipush (11)), 2, 0, 0, 0, 11), none, some ((.iload_n 2), 1, 0, 0, 0, 0), some ((.iload 4), 2, 0, 0, 0, 0), none, some ((.iconst (0)), 1, 0, 0, 0, 0), some ((.iconst (0)), 1, 0, 0, 0, 0), some ((.invokevirtual 126), 3, 71, 7, 19, 0), none, none, some ((.iload 4), 2, 0, 0, 0, 0), none, some (.ireturn, 1, 0, 0, 0, 0)]
def zt4 : List (Option zE) := [some ((.iload_n 1), 1, 0, 0, 0, 0), some ((.invokestatic 91), 3, 21, 1, 0, 0), none, none, some ((.ifCond .ne (6)), 3, 10, 0, 0, 0), none, none, some ((.bipush (-9)), 2, 0, 0, 0, -9), none, some (.ireturn, 1, 0, 0, 0, 0), some ((.aload_n 0), 1, 0, 0, 0, 0), some ((.getfield 13), 3, 3, 3, 1, 0), none, none, some ((.iload_n 1), 1, 0, 0, 0, 0), some (.iaload, 1, 0, 0, 0, 0), some ((.istore_n 2), 1, 0, 0, 0, 0), some ((.iload_n 2), 1, 0, 0, 0, 0), some ((.ifCond .ne (6)), 3, 24, 0, 0, 0), none, none, some ((.bipush (-7)), 2, 0, 0, 0, -7), none, some (.ireturn, 1, 0, 0, 0, 0), some ((.aload_n 0), 1, 0, 0, 0, 0), some ((.getfield 83), 3, 3, 12, 1, 0), none, none, some ((.invokevirtual 105), 3, 59, 0, 15, 0), none, none, some ((.ifCond .eq (6)), 3, 37, 0, 0, 0), none, none, some ((.bipush (-8)), 2, 0, 0, 0, -8), none, some (.ireturn, 1, 0, 0, 0, 0), some ((.aload_n 0), 1, 0, 0, 0, 0), some ((.getfield 83), 3, 3, 12, 1, 0), none, none, some ((.iconst (4)), 1, 0, 0, 0, 4), some ((.iload_n 2), 1, 0, 0, 0, 0), some ((.iload_n 1), 1, 0, 0, 0, 0), some ((.aload_n 0), 1, 0, 0, 0, 0), some ((.getfield 116), 3, 3, 1, 0, 0), none, none, some ((.bipush (6)), 2, 0, 0, 0, 6), none, some (.iadd, 1, 0, 0, 0, 0), some ((.iconst (0)), 1, 0, 0, 0, 0), some ((.invokevirtual 119), 3, 60, 5, 15, 0), none, none, some ((.istore_n 3), 1, 0, 0, 0, 0), some ((.aload_n 0), 1, 0, 0, 0, 0), some ((.getfield 33), 3, 3, 8, 1, 0), none, none, some ((.iload_n 3), 1, 0, 0, 0, 0), some ((.invokevirtual 130), 3, 49, 1, 9, 0), none, none, some ((.aload_n 0), 1, 0, 0, 0, 0), some ((.getfield 40), 3, 3, 9, 1, 0), none, none, some ((.iconst (0)), 1, 0, 0, 0, 0), some ((.iload_n 2), 1, 0, 0, 0, 0), some ((.bipush (14)), 2, 0, 0, 0, 14), none, some ((.iload_n 1), 1, 0, 0, 0, 0), some ((.iload_n 3), 1, 0, 0, 0, 0), some ((.iconst (0)), 1, 0, 0, 0, 0), some ((.iconst (0)), 1, 0, 0, 0, 0), some ((.invokevirtual 126), 3, 71, 7, 19, 0), none, none, some ((.iload_n 3), 1, 0, 0, 0, 0), some (.ireturn, 1, 0, 0, 0, 0)]
def zt5 : List (Option zE) := [some ((.aload_n 0), 1, 0, 0, 0, 0), some ((.getfield 33), 3, 3, 8, 1, 0), none, none, some ((.iload_n 1), 1, 0, 0, 0, 0), some ((.invokevirtual 133), 3, 51, 1, 9, 0), none, none, some (.ireturn, 1, 0, 0, 0, 0)]
def zt6 : List (Option zE) := [some ((.aload_n 0), 1, 0, 0, 0, 0), some ((.getfield 40), 3, 3, 9, 1, 0), none, none, some ((.iload_n 1), 1, 0, 0, 0, 0), some ((.invokevirtual 137), 3, 69, 1, 19, 0), none, none, some ((.ifCond .ne (6)), 3, 14, 0, 0, 0), none, none, some ((.bipush (-9)), 2, 0, 0, 0, -9), none, some (.ireturn, 1, 0, 0, 0, 0), some ((.aload_n 0), 1, 0, 0, 0, 0), some ((.getfield 47), 3, 3, 10, 1, 0), none, none, some ((.aload_n 0), 1, 0, 0, 0, 0), some ((.getfield 40), 3, 3, 9, 1, 0), none, none, some ((.getfield 140), 3, 19, 0, 1, 0), none, none, some ((.iload_n 1), 1, 0, 0, 0, 0), some (.aaload, 1, 18, 0, 0, 0), some ((.invokevirtual 144), 3, 66, 1, 17, 0), none, none, some ((.aload_n 0), 1, 0, 0, 0, 0), some ((.getfield 40), 3, 3, 9, 1, 0), none, none, some ((.iload_n 1), 1, 0, 0, 0, 0), some ((.invokevirtual 148), 3, 73, 1, 19, 0), none, none, some ((.aload_n 0), 1, 0, 0, 0, 0), some ((.aload_n 0), 1, 0, 0, 0, 0), some ((.getfield 47), 3, 3, 10, 1, 0), none, none, some ((.invokevirtual 151), 3, 23, 1, 3, 0), none, none, some ((.aload_n 0), 1, 0, 0, 0, 0), some ((.getfield 47), 3, 3, 10, 1, 0), none, none, some ((.getfield 154), 3, 17, 2, 0, 0), none, none, some (.ireturn, 1, 0, 0, 0, 0)]
def zt7 : List (Option zE) := [some ((.aload_n 0), 1, 0, 0, 0, 0), some ((.getfield 40), 3, 3, 9, 1, 0), none, none, some ((.iload_n 1), 1, 0, 0, 0, 0), some ((.invokevirtual 137), 3, 69, 1, 19, 0), none, none, some ((.ifCond .ne (5)), 3, 13, 0, 0, 0), none, none, some ((.iconst (0)), 1, 0, 0, 0, 0), some (.ireturn, 1, 0, 0, 0, 0), some ((.aload_n 0), 1, 0, 0, 0, 0), some ((.getfield 40), 3, 3, 9, 1, 0), none, none, some ((.iload_n 1), 1, 0, 0, 0, 0), some ((.invokevirtual 148), 3, 73, 1, 19, 0), none, none, some ((.iconst (1)), 1, 0, 0, 0, 1), some (.ireturn, 1, 0, 0, 0, 0)]
def zt8 : List (Option zE) := [some ((.aload_n 0), 1, 0, 0, 0, 0), some ((.getfield 40), 3, 3, 9, 1, 0), none, none, some ((.iload_n 1), 1, 0, 0, 0, 0), some ((.invokevirtual 137), 3, 69, 1, 19, 0), none, none, some ((.ifCond .eq (13)), 3, 21, 0, 0, 0), none, none, some ((.aload_n 0), 1, 0, 0, 0, 0), some ((.getfield 40), 3, 3, 9, 1, 0), none, none, some ((.invokevirtual 157), 3, 70, 0, 19, 0), none, none, some ((.ifCond .eq (5)), 3, 23, 0, 0, 0), none, none, some ((.iconst (0)), 1, 0, 0, 0, 0), some (.ireturn, 1, 0, 0, 0, 0), some ((.aload_n 0), 1, 0, 0, 0, 0), some ((.getfield 40), 3, 3, 9, 1, 0), none, none, some ((.iload_n 1), 1, 0, 0, 0, 0), some ((.invokevirtual 158), 3, 72, 1, 19, 0), none, none, some ((.iconst (1)), 1, 0, 0, 0, 1), some (.ireturn, 1, 0, 0, 0, 0)]
def zt9 : List (Option zE) := [some ((.aload_n 0), 1, 0, 0, 0, 0), some ((.getfield 40), 3, 3, 9, 1, 0), none, none, some ((.getfield 161), 3, 19, 1, 0, 0), none, none, some (.ireturn, 1, 0, 0, 0, 0)]
def zt10 : List (Option zE) := [some ((.aload_n 0), 1, 0, 0, 0, 0), some ((.getfield 40), 3, 3, 9, 1, 0), none, none, some ((.iload_n 1), 1, 0, 0, 0, 0), some ((.invokevirtual 137), 3, 69, 1, 19, 0), none, none, some ((.ifCond .eq (19)), 3, 27, 0, 0, 0), none, none, some ((.aload_n 0), 1, 0, 0, 0, 0), some ((.getfield 40), 3, 3, 9, 1, 0), none, none, some ((.getfield 140), 3, 19, 0, 1, 0), none, none, some ((.iload_n 1), 1, 0, 0, 0, 0), some (.aaload, 1, 18, 0, 0, 0), some ((.iload_n 2), 1, 0, 0, 0, 0), some ((.invokevirtual 164), 3, 67, 1, 17, 0), none, none, some ((.goto (5)), 3, 29, 0, 0, 0), none, none, some ((.bipush (-9)), 2, 0, 0, 0, -9), none, some (.ireturn, 1, 0, 0, 0, 0)]
def zt11 : List (Option zE) := [some ((.aload_n 0), 1, 0, 0, 0, 0), some (.dup, 1, 0, 0, 0, 0), some ((.getfield 116), 3, 3, 1, 0, 0), none, none, some ((.iconst (1)), 1, 0, 0, 0, 1), some (.iadd, 1, 0, 0, 0, 0), some ((.putfield 116), 3, 3, 1, 0, 0), none, none, some ((.iconst (0)), 1, 0, 0, 0, 0), some ((.istore_n 1), 1, 0, 0, 0, 0), some ((.iload_n 1), 1, 0, 0, 0, 0), some ((.aload_n 0), 1, 0, 0, 0, 0), some ((.getfield 60), 3, 3, 0, 0, 0), none, none, some ((.if_icmp .gt (14)), 3, 31, 0, 0, 0), none, none, some ((.aload_n 0), 1, 0, 0, 0, 0), some ((.iload_n 1), 1, 0, 0, 0, 0), some ((.invokevirtual 167), 3, 34, 1, 3, 0), none, none, some ((.iinc 1 (1)), 3, 0, 0, 0, 1), none, none, some ((.goto (-16)), 3, 12, 0, 0, 0), none, none, some ((.aload_n 0), 1, 0, 0, 0, 0), some ((.getfield 76), 3, 3, 11, 1, 0), none, none, some ((.aload_n 0), 1, 0, 0, 0, 0), some ((.getfield 116), 3, 3, 1, 0, 0), none, none, some ((.invokevirtual 170), 3, 56, 1, 11, 0), none, none, some ((.iconst (0)), 1, 0, 0, 0, 0), some ((.istore_n 1), 1, 0, 0, 0, 0), some ((.iload_n 1), 1, 0, 0, 0, 0), some ((.aload_n 0), 1, 0, 0, 0, 0), some ((.getfield 26), 3, 3, 7, 1, 0), none, none, some ((.getfield 173), 3, 7, 1, 0, 0), none, none, some ((.if_icmp .ge (21)), 3, 73, 0, 0, 0), none, none, some ((.aload_n 0), 1, 0, 0, 0, 0), some ((.aload_n 0), 1, 0, 0, 0, 0), some ((.getfield 26), 3, 3, 7, 1, 0), none, none, some ((.iload_n 1), 1, 0, 0, 0, 0), some ((.invokevirtual 174), 3, 44, 1, 7, 0), none, none, some ((.invokevirtual 177), 3, 36, 1, 3, 0), none, none, some ((.iinc 1 (1)), 3, 0, 0, 0, 1), none, none, some ((.goto (-26)), 3, 44, 0, 0, 0), none, none, some ((.aload_n 0), 1, 0, 0, 0, 0), some ((.getfield 116), 3, 3, 1, 0, 0), none, none, some (.ireturn, 1, 0, 0, 0, 0)]
def zt12 : List (Option zE) := [some ((.aload_n 0), 1, 0, 0, 0, 0), some ((.iload_n 1), 1, 0, 0, 0, 0), some ((.invokevirtual 102), 3, 20, 1, 3, 0), none, none, some ((.ifCond .eq (27)), 3, 32, 0, 0, 0), none, none, some ((.iload_n 2), 1, 0, 0, 0, 0), some ((.invokestatic 91), 3, 21, 1, 0, 0), none, none, some ((.ifCond .eq (20)), 3, 32, 0, 0, 0), none, none, some ((.aload_n 0), 1, 0, 0, 0, 0), some ((.getfield 64), 3, 3, 4, 1, 0), none, none, some ((.iload_n 1), 1, 0, 0, 0, 0), some ((.iload_n 2), 1, 0, 0, 0, 0), some ((.invokestatic 123), 3, 22, 2, 0, 0), none, none, some (.baload, 1, 0, 0, 0, 0), some ((.ifCond .eq (7)), 3, 32, 0, 0, 0), none, none, some ((.iconst (1)), 1, 0, 0, 0, 1), some ((.goto (4)), 3, 33, 0, 0, 0), none, none, some ((.iconst (0)), 1, 0, 0, 0, 0), some (.ireturn, 1, 0, 0, 0, 0)]
def zt13 : List (Option zE) := [some ((.iload_n 1), 1, 0, 0, 0, 0), some ((.invokestatic 91), 3, 21, 1, 0, 0), none, none, some ((.ifCond .eq (12)), 3, 16, 0, 0, 0), none, none, some ((.aload_n 0), 1, 0, 0, 0, 0), some ((.getfield 13), 3, 3, 3, 1, 0), none, none, some ((.iload_n 1), 1, 0, 0, 0, 0), some (.iaload, 1, 0, 0, 0, 0), some ((.goto (5)), 3, 18, 0, 0, 0), none, none, some ((.bipush (-9)), 2, 0, 0, 0, -9), none, some (.ireturn, 1, 0, 0, 0, 0)]
def zt14 : List (Option zE) := [some ((.aload_n 0), 1, 0, 0, 0, 0), some ((.iload_n 1), 1, 0, 0, 0, 0), some ((.invokevirtual 102), 3, 20, 1, 3, 0), none, none, some ((.ifCond .eq (23)), 3, 28, 0, 0, 0), none, none, some ((.iload_n 2), 1, 0, 0, 0, 0), some ((.invokestatic 91), 3, 21, 1, 0, 0), none, none, some ((.ifCond .eq (16)), 3, 28, 0, 0, 0), none, none, some ((.aload_n 0), 1, 0, 0, 0, 0), some ((.getfield 68), 3, 3, 5, 1, 0), none, none, some ((.iload_n 1), 1, 0, 0, 0, 0), some ((.iload_n 2), 1, 0, 0, 0, 0), some ((.invokestatic 123), 3, 22, 2, 0, 0), none, none, some (.iaload, 1, 0, 0, 0, 0), some ((.goto (5)), 3, 30, 0, 0, 0), none, none, some ((.bipush (-9)), 2, 0, 0, 0, -9), none, some (.ireturn, 1, 0, 0, 0, 0)]
def zt15 : List (Option zE) := [some ((.aload_n 0), 1, 0, 0, 0, 0), some ((.iload_n 1), 1, 0, 0, 0, 0), some ((.invokevirtual 180), 3, 19, 1, 3, 0), none, none, some ((.ifCond .eq (15)), 3, 20, 0, 0, 0), none, none, some ((.aload_n 0), 1, 0, 0, 0, 0), some ((.getfield 87), 3, 3, 13, 1, 0), none, none, some ((.iload_n 1), 1, 0, 0, 0, 0), some (.aaload, 1, 16, 0, 0, 0), some ((.getfield 183), 3, 15, 1, 0, 0), none, none, some ((.goto (5)), 3, 22, 0, 0, 0), none, none, some ((.bipush (-9)), 2, 0, 0, 0, -9), none, some (.ireturn, 1, 0, 0, 0, 0)]
def zt16 : List (Option zE) := [some ((.aload_n 0), 1, 0, 0, 0, 0), some ((.iload_n 1), 1, 0, 0, 0, 0), some ((.invokevirtual 180), 3, 19, 1, 3, 0), none, none, some ((.ifCond .eq (20)), 3, 25, 0, 0, 0), none, none, some ((.iload_n 2), 1, 0, 0, 0, 0), some ((.ifCond .lt (16)), 3, 25, 0, 0, 0), none, none, some ((.iload_n 2), 1, 0, 0, 0, 0), some ((.aload_n 0), 1, 0, 0, 0, 0), some ((.getfield 87), 3, 3, 13, 1, 0), none, none, some ((.iload_n 1), 1, 0, 0, 0, 0), some (.aaload, 1, 16, 0, 0, 0), some ((.getfield 183), 3, 15, 1, 0, 0), none, none, some ((.if_icmp .lt (6)), 3, 28, 0, 0, 0), none, none, some ((.bipush (-9)), 2, 0, 0, 0, -9), none, some (.ireturn, 1, 0, 0, 0, 0), some ((.aload_n 0), 1, 0, 0, 0, 0), some ((.getfield 87), 3, 3, 13, 1, 0), none, none, some ((.iload_n 1), 1, 0, 0, 0, 0), some (.aaload, 1, 16, 0, 0, 0), some ((.getfield 184), 3, 15, 0, 1, 0), none, none, some ((.iload_n 2), 1, 0, 0, 0, 0), some (.aaload, 1, 14, 0, 0, 0), some ((.getfield 187), 3, 13, 0, 0, 0), none, none, some (.ireturn, 1, 0, 0, 0, 0)]
def zt17 : List (Option zE) := [some ((.aload_n 0), 1, 0, 0, 0, 0), some ((.getfield 26), 3, 3, 7, 1, 0), none, none, some ((.iload_n 1), 1, 0, 0, 0, 0), some ((.invokevirtual 174), 3, 44, 1, 7, 0), none, none, some (.ireturn, 1, 0, 0, 0, 0)]
def zt18 : List (Option zE) := [some ((.iload_n 1), 1, 0, 0, 0, 0), some ((.bipush (100)), 2, 0, 0, 0, 100), none, some (.idiv, 1, 0, 0, 0, 0), some ((.istore_n 2), 1, 0, 0, 0, 0), some ((.iload_n 1), 1, 0, 0, 0, 0), some ((.bipush (100)), 2, 0, 0, 0, 100), none, some (.irem, 1, 0, 0, 0, 0), some ((.istore_n 3), 1, 0, 0, 0, 0), some ((.aload_n 0), 1, 0, 0, 0, 0), some ((.iload_n 2), 1, 0, 0, 0, 0), some ((.invokevirtual 102), 3, 20, 1, 3, 0), none, none, some ((.ifCond .eq (12)), 3, 27, 0, 0, 0), none, none, some ((.iload_n 3), 1, 0, 0, 0, 0), some ((.ifCond .lt (8)), 3, 27, 0, 0, 0), none, none, some ((.iload_n 3), 1, 0, 0, 0, 0), some ((.iconst (2)), 1, 0, 0, 0, 2), some ((.if_icmp .lt (6)), 3, 30, 0, 0, 0), none, none, some ((.bipush (-9)), 2, 0, 0, 0, -9), none, some (.ireturn, 1, 0, 0, 0, 0), some ((.aload_n 0), 1, 0, 0, 0, 0), some ((.getfield 76), 3, 3, 11, 1, 0), none, none, some ((.iload_n 2), 1, 0, 0, 0, 0), some ((.iload_n 3), 1, 0, 0, 0, 0), some ((.invokevirtual 192), 3, 55, 2, 11, 0), none, none, some (.ireturn, 1, 0, 0, 0, 0)]
def zt19 : List (Option zE) := [some ((.iload_n 1), 1, 0, 0, 0, 0), some ((.ifCond .lt (15)), 3, 16, 0, 0, 0), none, none, some ((.iload_n 1), 1, 0, 0, 0, 0), some ((.aload_n 0), 1, 0, 0, 0, 0), some ((.getfield 60), 3, 3, 0, 0, 0), none, none, some ((.if_icmp .gt (7)), 3, 16, 0, 0, 0), none, none, some ((.iconst (1)), 1, 0, 0, 0, 1), some ((.goto (4)), 3, 17, 0, 0, 0), none, none, some ((.iconst (0)), 1, 0, 0, 0, 0), some (.ireturn, 1, 0, 0, 0, 0)]
def zt20 : List (Option zE) := [some ((.iload_n 1), 1, 0, 0, 0, 0), some ((.ifCond .le (15)), 3, 16, 0, 0, 0), none, none, some ((.iload_n 1), 1, 0, 0, 0, 0), some ((.aload_n 0), 1, 0, 0, 0, 0), some ((.getfield 60), 3, 3, 0, 0, 0), none, none, some ((.if_icmp .gt (7)), 3, 16, 0, 0, 0), none, none, some ((.iconst (1)), 1, 0, 0, 0, 1), some ((.goto (4)), 3, 17, 0, 0, 0), none, none, some ((.iconst (0)), 1, 0, 0, 0, 0), some (.ireturn, 1, 0, 0, 0, 0)]
def zt21 : List (Option zE) := [some ((.iload_n 0), 1, 0, 0, 0, 0), some ((.ifCond .lt (12)), 3, 13, 0, 0, 0), none, none, some ((.iload_n 0), 1, 0, 0, 0, 0), some ((.iconst (4)), 1, 0, 0, 0, 4), some ((.if_icmp .ge (7)), 3, 13, 0, 0, 0), none, none, some ((.iconst (1)), 1, 0, 0, 0, 1), some ((.goto (4)), 3, 14, 0, 0, 0), none, none, some ((.iconst (0)), 1, 0, 0, 0, 0), some (.ireturn, 1, 0, 0, 0, 0)]
def zt22 : List (Option zE) := [some ((.iconst (4)), 1, 0, 0, 0, 4), some ((.iload_n 0), 1, 0, 0, 0, 0), some (.imul, 1, 0, 0, 0, 0), some ((.iload_n 1), 1, 0, 0, 0, 0), some (.iadd, 1, 0, 0, 0, 0), some (.ireturn, 1, 0, 0, 0, 0)]
def zt23 : List (Option zE) := [some ((.aload_n 1), 1, 0, 0, 0, 0), some ((.getfield 154), 3, 17, 2, 0, 0), none, none, some ((.lookupswitch (76) #[(11, 44), (13, 52), (14, 60), (22, 68)]), 44, 0, 0, 0, 0), none, none, none, none, none, none, none, none, none, none, none, none, none, none, none, none, none, none, none, none, none, none, none, none, none, none, none, none, none, none, none, none, none, none, none, none, none, none, none, none, none, none, none, some ((.aload_n 0), 1, 0, 0, 0, 0), some ((.aload_n 1), 1, 0, 0, 0, 0), some ((.invokevirtual 195), 3, 24, 1, 3, 0), none, none, some ((.goto (32)), 3, 85, 0, 0, 0), none, none, some ((.aload_n 0), 1, 0, 0, 0, 0), some ((.aload_n 1), 1, 0, 0, 0, 0), some ((.invokevirtual 198), 3, 29, 1, 3, 0), none, none, some ((.goto (24)), 3, 85, 0, 0, 0), none, none, some ((.aload_n 0), 1, 0, 0, 0, 0), some ((.aload_n 1), 1, 0, 0, 0, 0), some ((.invokevirtual 201), 3, 30, 1, 3, 0), none, none, some ((.goto (16)), 3, 85, 0, 0, 0), none, none, some ((.aload_n 0), 1, 0, 0, 0, 0), some ((.aload_n 1), 1, 0, 0, 0, 0), some ((.invokevirtual 204), 3, 28, 1, 3, 0), none, none, some ((.goto (8)), 3, 85, 0, 0, 0), none, none, some ((.aload_n 0), 1, 0, 0, 0, 0), some ((.aload_n 1), 1, 0, 0, 0, 0), some ((.invokevirtual 207), 3, 31, 1, 3, 0), none, none, some (.return_, 1, 0, 0, 0, 0)]
def zt24 : List (Option zE) := [some ((.aload_n 1), 1, 0, 0, 0, 0), some ((.getfield 210), 3, 17, 0, 0, 0), none, none, some ((.istore_n 2), 1, 0, 0, 0, 0), some ((.aload_n 1), 1, 0, 0, 0, 0), some ((.getfield 213), 3, 17, 3, 0, 0), none, none, some ((.istore_n 3), 1, 0, 0, 0, 0), some ((.aload_n 0), 1, 0, 0, 0, 0), some ((.getfield 83), 3, 3, 12, 1, 0), none, none, some ((.iload_n 2), 1, 0, 0, 0, 0), some ((.aload_n 1), 1, 0, 0, 0, 0), some ((.getfield 216), 3, 17, 4, 0, 0), none, none, some ((.invokevirtual 219), 3, 63, 2, 15, 0), none, none, some ((.iconst (-1)), 1, 0, 0, 0, -1), some ((.if_icmp .eq (4)), 3, 27, 0, 0, 0), none, none, some (.return_, 1, 0, 0, 0, 0), some ((.aload_n 0), 1, 0, 0, 0, 0), some ((.getfield 83), 3, 3, 12, 1, 0), none, none, some ((.invokevirtual 105), 3, 59, 0, 15, 0), none, none, some ((.ifCond .ne (12)), 3, 46, 0, 0, 0), none, none, some ((.aload_n 0), 1, 0, 0, 0, 0), some ((.iload_n 3), 1, 0, 0, 0, 0), some ((.iload_n 2), 1, 0, 0, 0, 0), some ((.invokevirtual 222), 3, 26, 2, 3, 0), none, none, some ((.ifCond .ne (9)), 3, 52, 0, 0, 0), none, none, some ((.aload_n 0), 1, 0, 0, 0, 0), some ((.aload_n 1), 1, 0, 0, 0, 0), some ((.invokevirtual 226), 3, 33, 1, 3, 0), none, none, some (.return_, 1, 0, 0, 0, 0), some ((.aload_n 0), 1, 0, 0, 0, 0), some ((.iload_n 3), 1, 0, 0, 0, 0), some ((.iload_n 2), 1, 0, 0, 0, 0), some ((.invokevirtual 229), 3, 27, 2, 3, 0), none, none, some ((.aload_n 0), 1, 0, 0, 0, 0), some ((.getfield 83), 3, 3, 12, 1, 0), none, none, some ((.iconst (2)), 1, 0, 0, 0, 2), some ((.iload_n 2), 1, 0, 0, 0, 0), some ((.iload_n 3), 1, 0, 0, 0, 0), some ((.aload_n 0), 1, 0, 0, 0, 0), some ((.getfield 116), 3, 3, 1, 0, 0), none, none, some ((.bipush (6)), 2, 0, 0, 0, 6), none, some (.iadd, 1, 0, 0, 0, 0), some ((.aload_n 1), 1, 0, 0, 0, 0), some ((.getfield 216), 3, 17, 4, 0, 0), none, none, some ((.invokevirtual 119), 3, 60, 5, 15, 0), none, none, some ((.istore 4), 2, 0, 0, 0, 0), none, some ((.aload_n 0), 1, 0, 0, 0, 0), some ((.getfield 40), 3, 3, 9, 1, 0), none, none, some ((.iconst (0)), 1, 0, 0, 0, 0), some ((.iload_n 2), 1, 0, 0, 0, 0), some ((.bipush (22)), 2, 0, 0, 0, 22), none, some ((.iload_n 3), 1, 0, 0, 0, 0), some ((.iload 4), 2, 0, 0, 0, 0), none, some ((.aload_n 1), 1, 0, 0, 0, 0), some ((.getfield 216), 3, 17, 4, 0, 0), none, none, some ((.iconst (0)), 1, 0, 0, 0, 0), some ((.invokevirtual 126), 3, 71, 7, 19, 0), none, none, some (.return_, 1, 0, 0, 0, 0)]
def zt25 : List (Option zE) := [some ((.aload_n 0), 1, 0, 0, 0, 0), some ((.getfield 13), 3, 3, 3, 1, 0), none, none, some ((.iload_n 1), 1, 0, 0, 0, 0), some (.iaload, 1, 0, 0, 0, 0), some ((.ifCond .eq (17)), 3, 23, 0, 0, 0), none, none, some ((.aload_n 0), 1, 0, 0, 0, 0), some ((.getfield 13), 3, 3, 3, 1, 0), none, none, some ((.iload_n 1), 1, 0, 0, 0, 0), some (.iaload, 1, 0, 0, 0, 0), some ((.iload_n 2), 1, 0, 0, 0, 0), some ((.if_icmp .eq (7)), 3, 23, 0, 0, 0), none, none, some ((.iconst (1)), 1, 0, 0, 0, 1), some ((.goto (4)), 3, 24, 0, 0, 0), none, none, some ((.iconst (0)), 1, 0, 0, 0, 0), some (.ireturn, 1, 0, 0, 0, 0)]
def zt26 : List (Option zE) := [some ((.aload_n 0), 1, 0, 0, 0, 0), some ((.iload_n 1), 1, 0, 0, 0, 0), some ((.iload_n 2), 1, 0, 0, 0, 0), some ((.invokevirtual 233), 3, 25, 2, 3, 0), none, none, some ((.ifCond .eq (33)), 3, 39, 0, 0, 0), none, none, some ((.aload_n 0), 1, 0, 0, 0, 0), some ((.getfield 26), 3, 3, 7, 1, 0), none, none, some ((.aload_n 0), 1, 0, 0, 0, 0), some ((.getfield 13), 3, 3, 3, 1, 0), none, none, some ((.iload_n 1), 1, 0, 0, 0, 0), some (.iaload, 1, 0, 0, 0, 0), some ((.iload_n 1), 1, 0, 0, 0, 0), some ((.invokestatic 123), 3, 22, 2, 0, 0), none, none, some ((.invokevirtual 236), 3, 43, 1, 7, 0), none, none, some ((.ifCond .ne (13)), 3, 39, 0, 0, 0), none, none, some ((.aload_n 0), 1, 0, 0, 0, 0), some ((.getfield 26), 3, 3, 7, 1, 0), none, none, some ((.invokevirtual 237), 3, 42, 0, 7, 0), none, none, some ((.ifCond .ne (7)), 3, 43, 0, 0, 0), none, none, some ((.iconst (1)), 1, 0, 0, 0, 1), some ((.goto (4)), 3, 44, 0, 0, 0), none, none, some ((.iconst (0)), 1, 0, 0, 0, 0), some (.ireturn, 1, 0, 0, 0, 0)]
def zt27 : List (Option zE) := [some ((.aload_n 0), 1, 0, 0, 0, 0), some ((.iload_n 1), 1, 0, 0, 0, 0), some ((.iload_n 2), 1, 0, 0, 0, 0), some ((.invokevirtual 233), 3, 25, 2, 3, 0), none, none, some ((.ifCond .eq (20)), 3, 26, 0, 0, 0), none, none, some ((.aload_n 0), 1, 0, 0, 0, 0), some ((.getfield 26), 3, 3, 7, 1, 0), none, none, some ((.aload_n 0), 1, 0, 0, 0, 0), some ((.getfield 13), 3, 3, 3, 1, 0), none, none, some ((.iload_n 1), 1, 0, 0, 0, 0), some (.iaload, 1, 0, 0, 0, 0), some ((.iload_n 1), 1, 0, 0, 0, 0), some ((.invokestatic 123), 3, 22, 2, 0, 0), none, none, some ((.invokevirtual 238), 3, 45, 1, 7, 0), none, none, some ((.aload_n 0), 1, 0, 0, 0, 0), some ((.getfield 26), 3, 3, 7, 1, 0), none, none, some ((.iload_n 2), 1, 0, 0, 0, 0), some ((.iload_n 1), 1, 0, 0, 0, 0), some ((.invokestatic 123), 3, 22, 2, 0, 0), none, none, some ((.invokevirtual 239), 3, 46, 1, 7, 0), none, none, some ((.aload_n 0), 1, 0, 0, 0, 0), some ((.getfield 83), 3, 3, 12, 1, 0), none, none, some ((.aload_n 0), 1, 0, 0, 0, 0), some ((.getfield 83), 3, 3, 12, 1, 0), none, none, some ((.iconst (3)), 1, 0, 0, 0, 3), some ((.iload_n 2), 1, 0, 0, 0, 0), some ((.iload_n 1), 1, 0, 0, 0, 0), some ((.invokevirtual 109), 3, 62, 3, 15, 0), none, none, some ((.invokevirtual 242), 3, 64, 1, 15, 0), none, none, some ((.aload_n 0), 1, 0, 0, 0, 0), some ((.getfield 13), 3, 3, 3, 1, 0), none, none, some ((.iload_n 1), 1, 0, 0, 0, 0), some ((.iload_n 2), 1, 0, 0, 0, 0), some (.iastore, 1, 0, 0, 0, 0), some (.return_, 1, 0, 0, 0, 0)]
def zt28 : List (Option zE) := [some ((.aload_n 0), 1, 0, 0, 0, 0), some ((.getfield 87), 3, 3, 13, 1, 0), none, none, some ((.aload_n 1), 1, 0, 0, 0, 0), some ((.getfield 245), 3, 17, 1, 0, 0), none, none, some (.aaload, 1, 16, 0, 0, 0), some ((.aload_n 1), 1, 0, 0, 0, 0), some ((.getfield 248), 3, 17, 5, 0, 0), none, none, some ((.invokevirtual 251), 3, 61, 1, 15, 0), none, none, some ((.istore_n 2), 1, 0, 0, 0, 0), some ((.iload_n 2), 1, 0, 0, 0, 0), some ((.iconst (-1)), 1, 0, 0, 0, -1), some ((.if_icmp .ne (11)), 3, 30, 0, 0, 0), none, none, some ((.aload_n 0), 1, 0, 0, 0, 0), some ((.aload_n 1), 1, 0, 0, 0, 0), some ((.invokevirtual 226), 3, 33, 1, 3, 0), none, none, some ((.goto (116)), 3, 143, 0, 0, 0), none, none, some ((.aload_n 1), 1, 0, 0, 0, 0), some ((.getfield 245), 3, 17, 1, 0, 0), none, none, some ((.ifCond .ne (41)), 3, 75, 0, 0, 0), none, none, some ((.aload_n 0), 1, 0, 0, 0, 0), some ((.getfield 83), 3, 3, 12, 1, 0), none, none, some ((.iload_n 2), 1, 0, 0, 0, 0), some ((.invokevirtual 242), 3, 64, 1, 15, 0), none, none, some ((.aload_n 0), 1, 0, 0, 0, 0), some ((.getfield 40), 3, 3, 9, 1, 0), none, none, some ((.iconst (0)), 1, 0, 0, 0, 0), some ((.aload_n 1), 1, 0, 0, 0, 0), some ((.getfield 210), 3, 17, 0, 0, 0), none, none, some ((.bipush (31)), 2, 0, 0, 0, 31), none, some ((.aload_n 1), 1, 0, 0, 0, 0), some ((.getfield 213), 3, 17, 3, 0, 0), none, none, some ((.aload_n 1), 1, 0, 0, 0, 0), some ((.getfield 248), 3, 17, 5, 0, 0), none, none, some ((.aload_n 1), 1, 0, 0, 0, 0), some ((.getfield 216), 3, 17, 4, 0, 0), none, none, some ((.iconst (0)), 1, 0, 0, 0, 0), some ((.invokevirtual 126), 3, 71, 7, 19, 0), none, none, some ((.goto (71)), 3, 143, 0, 0, 0), none, none, some ((.aload_n 0), 1, 0, 0, 0, 0), some ((.getfield 64), 3, 3, 4, 1, 0), none, none, some ((.aload_n 1), 1, 0, 0, 0, 0), some ((.getfield 245), 3, 17, 1, 0, 0), none, none, some ((.aload_n 1), 1, 0, 0, 0, 0), some ((.getfield 213), 3, 17, 3, 0, 0), none, none, some ((.invokestatic 123), 3, 22, 2, 0, 0), none, none, some ((.iconst (1)), 1, 0, 0, 0, 1), some (.bastore, 1, 0, 0, 0, 0), some ((.aload_n 0), 1, 0, 0, 0, 0), some ((.getfield 87), 3, 3, 13, 1, 0), none, none, some ((.aload_n 1), 1, 0, 0, 0, 0), some ((.getfield 245), 3, 17, 1, 0, 0), none, none, some (.aaload, 1, 16, 0, 0, 0), some ((.getfield 184), 3, 15, 0, 1, 0), none, none, some ((.iload_n 2), 1, 0, 0, 0, 0), some (.aaload, 1, 14, 0, 0, 0), some ((.aload_n 0), 1, 0, 0, 0, 0), some ((.getfield 116), 3, 3, 1, 0, 0), none, none, some ((.bipush (10)), 2, 0, 0, 0, 10), none, some (.iadd, 1, 0, 0, 0, 0), some ((.putfield 254), 3, 13, 4, 0, 0), none, none, some ((.aload_n 0), 1, 0, 0, 0, 0), some ((.getfield 40), 3, 3, 9, 1, 0), none, none, some ((.aload_n 1), 1, 0, 0, 0, 0), some ((.getfield 245), 3, 17, 1, 0, 0), none, none, some ((.iconst (0)), 1, 0, 0, 0, 0), some ((.bipush (22)), 2, 0, 0, 0, 22), none, some ((.aload_n 1), 1, 0, 0, 0, 0), some ((.getfield 213), 3, 17, 3, 0, 0), none, none, some ((.aload_n 1), 1, 0, 0, 0, 0), some ((.getfield 248), 3, 17, 5, 0, 0), none, none, some ((.aload_n 1), 1, 0, 0, 0, 0), some ((.getfield 216), 3, 17, 4, 0, 0), none, none, some ((.iconst (0)), 1, 0, 0, 0, 0), some ((.invokevirtual 126), 3, 71, 7, 19, 0), none, none, some (.return_, 1, 0, 0, 0, 0)]
def zt29 : List (Option zE) := [some ((.aload_n 1), 1, 0, 0, 0, 0), some ((.getfield 245), 3, 17, 1, 0, 0), none, none, some ((.istore_n 2), 1, 0, 0, 0, 0), some ((.aload_n 0), 1, 0, 0, 0, 0), some ((.getfield 64), 3, 3, 4, 1, 0), none, none, some ((.iload_n 2), 1, 0, 0, 0, 0), some ((.aload_n 1), 1, 0, 0, 0, 0), some ((.getfield 213), 3, 17, 3, 0, 0), none, none, some ((.invokestatic 123), 3, 22, 2, 0, 0), none, none, some ((.iconst (0)), 1, 0, 0, 0, 0), some (.bastore, 1, 0, 0, 0, 0), some ((.aload_n 0), 1, 0, 0, 0, 0), some ((.getfield 87), 3, 3, 13, 1, 0), none, none, some ((.iload_n 2), 1, 0, 0, 0, 0), some (.aaload, 1, 16, 0, 0, 0), some ((.iconst (1)), 1, 0, 0, 0, 1), some ((.iconst (0)), 1, 0, 0, 0, 0), some ((.aload_n 1), 1, 0, 0, 0, 0), some ((.getfield 213), 3, 17, 3, 0, 0), none, none, some ((.invokevirtual 109), 3, 62, 3, 15, 0), none, none, some ((.istore_n 3), 1, 0, 0, 0, 0), some ((.iload_n 3), 1, 0, 0, 0, 0), some ((.iconst (-1)), 1, 0, 0, 0, -1), some ((.if_icmp .eq (10)), 3, 47, 0, 0, 0), none, none, some ((.aload_n 0), 1, 0, 0, 0, 0), some ((.iload_n 2), 1, 0, 0, 0, 0), some ((.iload_n 3), 1, 0, 0, 0, 0), some ((.iconst (3)), 1, 0, 0, 0, 3), some ((.invokevirtual 257), 3, 32, 3, 3, 0), none, none, some ((.aload_n 0), 1, 0, 0, 0, 0), some ((.getfield 40), 3, 3, 9, 1, 0), none, none, some ((.iload_n 2), 1, 0, 0, 0, 0), some ((.iconst (0)), 1, 0, 0, 0, 0), some ((.bipush (33)), 2, 0, 0, 0, 33), none, some ((.aload_n 1), 1, 0, 0, 0, 0), some ((.getfield 213), 3, 17, 3, 0, 0), none, none, some ((.iconst (0)), 1, 0, 0, 0, 0), some ((.aload_n 1), 1, 0, 0, 0, 0), some ((.getfield 216), 3, 17, 4, 0, 0), none, none, some ((.iconst (0)), 1, 0, 0, 0, 0), some ((.invokevirtual 126), 3, 71, 7, 19, 0), none, none, some (.return_, 1, 0, 0, 0, 0)]
def zt30 : List (Option zE) := [some ((.aload_n 1), 1, 0, 0, 0, 0), some ((.getfield 245), 3, 17, 1, 0, 0), none, none, some ((.istore_n 2), 1, 0, 0, 0, 0), some ((.iconst (-1)), 1, 0, 0, 0, -1), some ((.istore_n 3), 1, 0, 0, 0, 0), some ((.aload_n 0), 1, 0, 0, 0, 0), some ((.getfield 64), 3, 3, 4, 1, 0), none, none, some ((.iload_n 2), 1, 0, 0, 0, 0), some ((.aload_n 1), 1, 0, 0, 0, 0), some ((.getfield 213), 3, 17, 3, 0, 0), none, none, some ((.invokestatic 123), 3, 22, 2, 0, 0), none, none, some (.baload, 1, 0, 0, 0, 0), some ((.ifCond .eq (23)), 3, 43, 0, 0, 0), none, none, some ((.aload_n 0), 1, 0, 0, 0, 0), some ((.getfield 76), 3, 3, 11, 1, 0), none, none, some ((.iload_n 2), 1, 0, 0, 0, 0), some ((.aload_n 1), 1, 0, 0, 0, 0), some ((.getfield 213), 3, 17, 3, 0, 0), none, none, some ((.aload_n 0), 1, 0, 0, 0, 0), some ((.getfield 116), 3, 3, 1, 0, 0), none, none, some ((.bipush (8)), 2, 0, 0, 0, 8), none, some (.iadd, 1, 0, 0, 0, 0), some ((.invokevirtual 261), 3, 54, 3, 11, 0), none, none, some ((.istore_n 3), 1, 0, 0, 0, 0), some ((.aload_n 0), 1, 0, 0, 0, 0), some ((.getfield 40), 3, 3, 9, 1, 0), none, none, some ((.iload_n 2), 1, 0, 0, 0, 0), some ((.iconst (0)), 1, 0, 0, 0, 0), some ((.bipush (34)), 2, 0, 0, 0, 34), none, some ((.aload_n 1), 1, 0, 0, 0, 0), some ((.getfield 213), 3, 17, 3, 0, 0), none, none, some ((.iconst (0)), 1, 0, 0, 0, 0), some ((.aload_n 1), 1, 0, 0, 0, 0), some ((.getfield 216), 3, 17, 4, 0, 0), none, none, some ((.iload_n 3), 1, 0, 0, 0, 0), some ((.invokevirtual 126), 3, 71, 7, 19, 0), none, none, some (.return_, 1, 0, 0, 0, 0)]
def zt31 : List (Option zE) := [some ((.aload_n 0), 1, 0, 0, 0, 0), some ((.getfield 87), 3, 3, 13, 1, 0), none, none, some ((.aload_n 1), 1, 0, 0, 0, 0), some ((.getfield 245), 3, 17, 1, 0, 0), none, none, some (.aaload, 1, 16, 0, 0, 0), some ((.aload_n 1), 1, 0, 0, 0, 0), some ((.getfield 248), 3, 17, 5, 0, 0), none, none, some ((.invokevirtual 251), 3, 61, 1, 15, 0), none, none, some ((.istore_n 2), 1, 0, 0, 0, 0), some ((.iload_n 2), 1, 0, 0, 0, 0), some ((.iconst (-1)), 1, 0, 0, 0, -1), some ((.if_icmp .ne (4)), 3, 23, 0, 0, 0), none, none, some (.return_, 1, 0, 0, 0, 0), some ((.aload_n 1), 1, 0, 0, 0, 0), some ((.getfield 245), 3, 17, 1, 0, 0), none, none, some ((.ifCond .eq (27)), 3, 54, 0, 0, 0), none, none, some ((.aload_n 0), 1, 0, 0, 0, 0), some ((.aload_n 1), 1, 0, 0, 0, 0), some ((.getfield 245), 3, 17, 1, 0, 0), none, none, some ((.iload_n 2), 1, 0, 0, 0, 0), some ((.aload_n 1), 1, 0, 0, 0, 0), some ((.getfield 154), 3, 17, 2, 0, 0), none, none, some ((.bipush (31)), 2, 0, 0, 0, 31), none, some ((.if_icmp .ne (7)), 3, 49, 0, 0, 0), none, none, some ((.iconst (2)), 1, 0, 0, 0, 2), some ((.goto (4)), 3, 50, 0, 0, 0), none, none, some ((.iconst (3)), 1, 0, 0, 0, 3), some ((.invokevirtual 257), 3, 32, 3, 3, 0), none, none, some (.return_, 1, 0, 0, 0, 0), some ((.aload_n 1), 1, 0, 0, 0, 0), some ((.getfield 154), 3, 17, 2, 0, 0), none, none, some ((.bipush (33)), 2, 0, 0, 0, 33), none, some ((.if_icmp .ne (40)), 3, 100, 0, 0, 0), none, none, some ((.aload_n 0), 1, 0, 0, 0, 0), some ((.getfield 26), 3, 3, 7, 1, 0), none, none, some ((.aload_n 0), 1, 0, 0, 0, 0), some ((.getfield 83), 3, 3, 12, 1, 0), none, none, some ((.getfield 184), 3, 15, 0, 1, 0), none, none, some ((.iload_n 2), 1, 0, 0, 0, 0), some (.aaload, 1, 14, 0, 0, 0), some ((.getfield 264), 3, 13, 2, 0, 0), none, none, some ((.aload_n 0), 1, 0, 0, 0, 0), some ((.getfield 83), 3, 3, 12, 1, 0), none, none, some ((.getfield 184), 3, 15, 0, 1, 0), none, none, some ((.iload_n 2), 1, 0, 0, 0, 0), some (.aaload, 1, 14, 0, 0, 0), some ((.getfield 267), 3, 13, 3, 0, 0), none, none, some ((.invokestatic 123), 3, 22, 2, 0, 0), none, none, some ((.invokevirtual 239), 3, 46, 1, 7, 0), none, none, some ((.goto (27)), 3, 124, 0, 0, 0), none, none, some ((.aload_n 1), 1, 0, 0, 0, 0), some ((.getfield 154), 3, 17, 2, 0, 0), none, none, some ((.bipush (34)), 2, 0, 0, 0, 34), none, some ((.if_icmp .ne (18)), 3, 124, 0, 0, 0), none, none, some ((.aload_n 0), 1, 0, 0, 0, 0), some ((.getfield 33), 3, 3, 8, 1, 0), none, none, some ((.aload_n 1), 1, 0, 0, 0, 0), some ((.getfield 248), 3, 17, 5, 0, 0), none, none, some ((.aload_n 1), 1, 0, 0, 0, 0), some ((.getfield 268), 3, 17, 6, 0, 0), none, none, some ((.invokevirtual 271), 3, 50, 2, 9, 0), none, none, some ((.aload_n 0), 1, 0, 0, 0, 0), some ((.getfield 83), 3, 3, 12, 1, 0), none, none, some ((.iload_n 2), 1, 0, 0, 0, 0), some ((.invokevirtual 242), 3, 64, 1, 15, 0), none, none, some (.return_, 1, 0, 0, 0, 0)]
def zt32 : List (Option zE) := [some ((.aload_n 0), 1, 0, 0, 0, 0), some ((.getfield 68), 3, 3, 5, 1, 0), none, none, some ((.iload_n 1), 1, 0, 0, 0, 0), some ((.aload_n 0), 1, 0, 0, 0, 0), some ((.getfield 87), 3, 3, 13, 1, 0), none, none, some ((.iload_n 1), 1, 0, 0, 0, 0), some (.aaload, 1, 16, 0, 0, 0), some ((.getfield 184), 3, 15, 0, 1, 0), none, none, some ((.iload_n 2), 1, 0, 0, 0, 0), some (.aaload, 1, 14, 0, 0, 0), some ((.getfield 267), 3, 13, 3, 0, 0), none, none, some ((.invokestatic 123), 3, 22, 2, 0, 0), none, none, some ((.iload_n 3), 1, 0, 0, 0, 0), some (.iastore, 1, 0, 0, 0, 0), some ((.aload_n 0), 1, 0, 0, 0, 0), some ((.getfield 87), 3, 3, 13, 1, 0), none, none, some ((.iload_n 1), 1, 0, 0, 0, 0), some (.aaload, 1, 16, 0, 0, 0), some ((.iload_n 2), 1, 0, 0, 0, 0), some ((.invokevirtual 242), 3, 64, 1, 15, 0), none, none, some (.return_, 1, 0, 0, 0, 0)]
def zt33 : List (Option zE) := [some ((.aload_n 0), 1, 0, 0, 0, 0), some ((.getfield 40), 3, 3, 9, 1, 0), none, none, some ((.aload_n 1), 1, 0, 0, 0, 0), some ((.getfield 245), 3, 17, 1, 0, 0), none, none, some ((.aload_n 1), 1, 0, 0, 0, 0), some ((.getfield 210), 3, 17, 0, 0, 0), none, none, some ((.bipush (40)), 2, 0, 0, 0, 40), none, some ((.iconst (0)), 1, 0, 0, 0, 0), some ((.iconst (0)), 1, 0, 0, 0, 0), some ((.aload_n 1), 1, 0, 0, 0, 0), some ((.getfield 216), 3, 17, 4, 0, 0), none, none, some ((.iconst (0)), 1, 0, 0, 0, 0), some ((.invokevirtual 126), 3, 71, 7, 19, 0), none, none, some (.return_, 1, 0, 0, 0, 0)]
def zt34 : List (Option zE) := [some ((.aload_n 0), 1, 0, 0, 0, 0), some ((.getfield 87), 3, 3, 13, 1, 0), none, none, some ((.iload_n 1), 1, 0, 0, 0, 0), some (.aaload, 1, 16, 0, 0, 0), some ((.astore_n 2), 1, 0, 0, 0, 0), some ((.iconst (0)), 1, 0, 0, 0, 0), some ((.istore_n 3), 1, 0, 0, 0, 0), some ((.aload_n 2), 1, 0, 0, 0, 0), some ((.getfield 183), 3, 15, 1, 0, 0), none, none, some ((.istore 4), 2, 0, 0, 0, 0), none, some ((.iload 4), 2, 0, 0, 0, 0), none, some ((.ifCond .le (37)), 3, 54, 0, 0, 0), none, none, some ((.aload_n 2), 1, 0, 0, 0, 0), some ((.getfield 184), 3, 15, 0, 1, 0), none, none, some ((.iload_n 3), 1, 0, 0, 0, 0), some (.aaload, 1, 14, 0, 0, 0), some ((.getfield 254), 3, 13, 4, 0, 0), none, none, some ((.aload_n 0), 1, 0, 0, 0, 0), some ((.getfield 116), 3, 3, 1, 0, 0), none, none, some ((.if_icmp .ne (12)), 3, 45, 0, 0, 0), none, none, some ((.aload_n 0), 1, 0, 0, 0, 0), some ((.iload_n 1), 1, 0, 0, 0, 0), some ((.iload_n 3), 1, 0, 0, 0, 0), some ((.invokevirtual 274), 3, 35, 2, 3, 0), none, none, some ((.goto (6)), 3, 48, 0, 0, 0), none, none, some ((.iinc 3 (1)), 3, 0, 0, 0, 1), none, none, some ((.iinc 4 (-1)), 3, 0, 0, 0, -1), none, none, some ((.goto (-36)), 3, 15, 0, 0, 0), none, none, some (.return_, 1, 0, 0, 0, 0)]
def zt35 : List (Option zE) := [some ((.iload_n 1), 1, 0, 0, 0, 0), some ((.ifCond .eq (11)), 3, 12, 0, 0, 0), none, none, some ((.aload_n 0), 1, 0, 0, 0, 0), some ((.iload_n 1), 1, 0, 0, 0, 0), some ((.iload_n 2), 1, 0, 0, 0, 0), some ((.iconst (3)), 1, 0, 0, 0, 3), some ((.invokevirtual 257), 3, 32, 3, 3, 0), none, none, some (.return_, 1, 0, 0, 0, 0), some ((.aload_n 0), 1, 0, 0, 0, 0), some ((.getfield 83), 3, 3, 12, 1, 0), none, none, some ((.getfield 184), 3, 15, 0, 1, 0), none, none, some ((.iload_n 2), 1, 0, 0, 0, 0), some (.aaload, 1, 14, 0, 0, 0), some ((.astore_n 3), 1, 0, 0, 0, 0), some ((.aload_n 3), 1, 0, 0, 0, 0), some ((.getfield 277), 3, 13, 1, 0, 0), none, none, some ((.iconst (2)), 1, 0, 0, 0, 2), some ((.if_icmp .ne (30)), 3, 57, 0, 0, 0), none, none, some ((.aload_n 0), 1, 0, 0, 0, 0), some ((.getfield 40), 3, 3, 9, 1, 0), none, none, some ((.iconst (0)), 1, 0, 0, 0, 0), some ((.aload_n 3), 1, 0, 0, 0, 0), some ((.getfield 264), 3, 13, 2, 0, 0), none, none, some ((.bipush (40)), 2, 0, 0, 0, 40), none, some ((.iconst (0)), 1, 0, 0, 0, 0), some ((.aload_n 3), 1, 0, 0, 0, 0), some ((.getfield 187), 3, 13, 0, 0, 0), none, none, some ((.aload_n 3), 1, 0, 0, 0, 0), some ((.getfield 280), 3, 13, 5, 0, 0), none, none, some ((.iconst (0)), 1, 0, 0, 0, 0), some ((.invokevirtual 126), 3, 71, 7, 19, 0), none, none, some ((.goto (24)), 3, 78, 0, 0, 0), none, none, some ((.aload_n 3), 1, 0, 0, 0, 0), some ((.getfield 277), 3, 13, 1, 0, 0), none, none, some ((.iconst (4)), 1, 0, 0, 0, 4), some ((.if_icmp .ne (16)), 3, 78, 0, 0, 0), none, none, some ((.aload_n 0), 1, 0, 0, 0, 0), some ((.getfield 33), 3, 3, 8, 1, 0), none, none, some ((.aload_n 3), 1, 0, 0, 0, 0), some ((.getfield 187), 3, 13, 0, 0, 0), none, none, some ((.bipush (-3)), 2, 0, 0, 0, -3), none, some ((.invokevirtual 271), 3, 50, 2, 9, 0), none, none, some ((.aload_n 0), 1, 0, 0, 0, 0), some ((.getfield 83), 3, 3, 12, 1, 0), none, none, some ((.iload_n 2), 1, 0, 0, 0, 0), some ((.invokevirtual 242), 3, 64, 1, 15, 0), none, none, some (.return_, 1, 0, 0, 0, 0)]
def zt36 : List (Option zE) := [some ((.iload_n 1), 1, 0, 0, 0, 0), some ((.iconst (4)), 1, 0, 0, 0, 4), some (.idiv, 1, 0, 0, 0, 0), some ((.istore_n 2), 1, 0, 0, 0, 0), some ((.iload_n 1), 1, 0, 0, 0, 0), some ((.iconst (4)), 1, 0, 0, 0, 4), some (.irem, 1, 0, 0, 0, 0), some ((.istore_n 3), 1, 0, 0, 0, 0), some ((.aload_n 0), 1, 0, 0, 0, 0), some ((.getfield 83), 3, 3, 12, 1, 0), none, none, some ((.invokevirtual 105), 3, 59, 0, 15, 0), none, none, some ((.ifCond .ne (17)), 3, 32, 0, 0, 0), none, none, some ((.aload_n 0), 1, 0, 0, 0, 0), some ((.getfield 83), 3, 3, 12, 1, 0), none, none, some ((.iconst (3)), 1, 0, 0, 0, 3), some ((.iload_n 2), 1, 0, 0, 0, 0), some ((.iload_n 3), 1, 0, 0, 0, 0), some ((.invokevirtual 109), 3, 62, 3, 15, 0), none, none, some ((.iconst (-1)), 1, 0, 0, 0, -1), some ((.if_icmp .eq (4)), 3, 33, 0, 0, 0), none, none, some (.return_, 1, 0, 0, 0, 0), some ((.aload_n 0), 1, 0, 0, 0, 0), some ((.getfield 83), 3, 3, 12, 1, 0), none, none, some ((.iconst (3)), 1, 0, 0, 0, 3), some ((.iload_n 2), 1, 0, 0, 0, 0), some ((.iload_n 3), 1, 0, 0, 0, 0), some ((.aload_n 0), 1, 0, 0, 0, 0), some ((.getfield 116), 3, 3, 1, 0, 0), none, none, some ((.iconst (4)), 1, 0, 0, 0, 4), some (.iadd, 1, 0, 0, 0, 0), some ((.iconst (0)), 1, 0, 0, 0, 0), some ((.invokevirtual 119), 3, 60, 5, 15, 0), none, none, some ((.istore 4), 2, 0, 0, 0, 0), none, some ((.aload_n 0), 1, 0, 0, 0, 0), some ((.getfield 40), 3, 3, 9, 1, 0), none, none, some ((.iconst (0)), 1, 0, 0, 0, 0), some ((.iload_n 2), 1, 0, 0, 0, 0), some ((.bipush (13)), 2, 0, 0, 0, 13), none, some ((.iload_n 3), 1, 0, 0, 0, 0), some ((.iload 4), 2, 0, 0, 0, 0), none, some ((.iconst (0)), 1, 0, 0, 0, 0), some ((.iconst (0)), 1, 0, 0, 0, 0), some ((.invokevirtual 126), 3, 71, 7, 19, 0), none, none, some (.return_, 1, 0, 0, 0, 0)]
def zt37 : List (Option zE) := [some ((.aload_n 0), 1, 0, 0, 0, 0), some ((.invokespecial 3), 3, 5, 0, 0, 0), none, none, some ((.aload_n 0), 1, 0, 0, 0, 0), some ((.bipush (6)), 2, 0, 0, 0, 6), none, some ((.newarray .int), 2, 1, 0, 0, 0), none, some ((.putfield 11), 3, 5, 0, 1, 0), none, none, some ((.aload_n 0), 1, 0, 0, 0, 0), some ((.bipush (6)), 2, 0, 0, 0, 6), none, some ((.newarray .int), 2, 1, 0, 0, 0), none, some ((.putfield 15), 3, 5, 1, 1, 0), none, none, some ((.aload_n 0), 1, 0, 0, 0, 0), some ((.bipush (6)), 2, 0, 0, 0, 6), none, some ((.newarray .boolean), 2, 2, 0, 0, 0), none, some ((.putfield 18), 3, 5, 2, 1, 0), none, none, some (.return_, 1, 0, 0, 0, 0)]
def zt38 : List (Option zE) := [some ((.aload_n 0), 1, 0, 0, 0, 0), some ((.iload_n 1), 1, 0, 0, 0, 0), some ((.iload_n 2), 1, 0, 0, 0, 0), some ((.invokevirtual 22), 3, 39, 2, 5, 0), none, none, some ((.istore 4), 2, 0, 0, 0, 0), none, some ((.iload 4), 2, 0, 0, 0, 0), none, some ((.bipush (6)), 2, 0, 0, 0, 6), none, some ((.if_icmp .ne (5)), 3, 17, 0, 0, 0), none, none, some ((.iconst (0)), 1, 0, 0, 0, 0), some (.ireturn, 1, 0, 0, 0, 0), some ((.iload 4), 2, 0, 0, 0, 0), none, some ((.aload_n 0), 1, 0, 0, 0, 0), some ((.getfield 26), 3, 5, 3, 0, 0), none, none, some ((.if_icmp .ne (13)), 3, 36, 0, 0, 0), none, none, some ((.aload_n 0), 1, 0, 0, 0, 0), some (.dup, 1, 0, 0, 0, 0), some ((.getfield 26), 3, 5, 3, 0, 0), none, none, some ((.iconst (1)), 1, 0, 0, 0, 1), some (.iadd, 1, 0, 0, 0, 0), some ((.putfield 26), 3, 5, 3, 0, 0), none, none, some ((.aload_n 0), 1, 0, 0, 0, 0), some ((.getfield 11), 3, 5, 0, 1, 0), none, none, some ((.iload 4), 2, 0, 0, 0, 0), none, some ((.iload_n 1), 1, 0, 0, 0, 0), some (.iastore, 1, 0, 0, 0, 0), some ((.aload_n 0), 1, 0, 0, 0, 0), some ((.getfield 15), 3, 5, 1, 1, 0), none, none, some ((.iload 4), 2, 0, 0, 0, 0), none, some ((.iload_n 2), 1, 0, 0, 0, 0), some (.iastore, 1, 0, 0, 0, 0), some ((.aload_n 0), 1, 0, 0, 0, 0), some ((.getfield 18), 3, 5, 2, 1, 0), none, none, some ((.iload 4), 2, 0, 0, 0, 0), none, some ((.iload_n 3), 1, 0, 0, 0, 0), some (.bastore, 1, 0, 0, 0, 0), some ((.iconst (1)), 1, 0, 0, 0, 1), some (.ireturn, 1, 0, 0, 0, 0)]
def zt39 : List (Option zE) := [some ((.iconst (0)), 1, 0, 0, 0, 0), some ((.istore_n 3), 1, 0, 0, 0, 0), some ((.iload_n 3), 1, 0, 0, 0, 0), some ((.aload_n 0), 1, 0, 0, 0, 0), some ((.getfield 26), 3, 5, 3, 0, 0), none, none, some ((.if_icmp .ge (31)), 3, 38, 0, 0, 0), none, none, some ((.aload_n 0), 1, 0, 0, 0, 0), some ((.getfield 11), 3, 5, 0, 1, 0), none, none, some ((.iload_n 3), 1, 0, 0, 0, 0), some (.iaload, 1, 0, 0, 0, 0), some ((.iload_n 1), 1, 0, 0, 0, 0), some ((.if_icmp .ne (15)), 3, 32, 0, 0, 0), none, none, some ((.aload_n 0), 1, 0, 0, 0, 0), some ((.getfield 15), 3, 5, 1, 1, 0), none, none, some ((.iload_n 3), 1, 0, 0, 0, 0), some (.iaload, 1, 0, 0, 0, 0), some ((.iload_n 2), 1, 0, 0, 0, 0), some ((.if_icmp .ne (5)), 3, 32, 0, 0, 0), none, none, some ((.iload_n 3), 1, 0, 0, 0, 0), some (.ireturn, 1, 0, 0, 0, 0), some ((.iinc 3 (1)), 3, 0, 0, 0, 1), none, none, some ((.goto (-33)), 3, 2, 0, 0, 0), none, none, some ((.aload_n 0), 1, 0, 0, 0, 0), some ((.getfield 26), 3, 5, 3, 0, 0), none, none, some (.ireturn, 1, 0, 0, 0, 0)]
def zt40 : List (Option zE) := [some ((.iconst (-1)), 1, 0, 0, 0, -1), some ((.istore_n 2), 1, 0, 0, 0, 0), some ((.iconst (0)), 1, 0, 0, 0, 0), some ((.istore_n 3), 1, 0, 0, 0, 0), some ((.iconst (0)), 1, 0, 0, 0, 0), some ((.istore 4), 2, 0, 0, 0, 0), none, some ((.iload 4), 2, 0, 0, 0, 0), none, some ((.aload_n 0), 1, 0, 0, 0, 0), some ((.getfield 26), 3, 5, 3, 0, 0), none, none, some ((.if_icmp .ge (61)), 3, 74, 0, 0, 0), none, none, some ((.aload_n 0), 1, 0, 0, 0, 0), some ((.getfield 15), 3, 5, 1, 1, 0), none, none, some ((.iload 4), 2, 0, 0, 0, 0), none, some (.iaload, 1, 0, 0, 0, 0), some ((.iload_n 2), 1, 0, 0, 0, 0), some ((.if_icmp .le (44)), 3, 68, 0, 0, 0), none, none, some ((.iload_n 1), 1, 0, 0, 0, 0), some ((.getstatic 30), 3, 2, 0, 0, 0), none, none, some ((.iconst (5)), 1, 0, 0, 0, 5), some ((.aload_n 0), 1, 0, 0, 0, 0), some ((.getfield 15), 3, 5, 1, 1, 0), none, none, some ((.iload 4), 2, 0, 0, 0, 0), none, some (.iaload, 1, 0, 0, 0, 0), some (.isub, 1, 0, 0, 0, 0), some (.iaload, 1, 0, 0, 0, 0), some (.idiv, 1, 0, 0, 0, 0), some ((.aload_n 0), 1, 0, 0, 0, 0), some ((.getfield 11), 3, 5, 0, 1, 0), none, none, some ((.iload 4), 2, 0, 0, 0, 0), none, some (.iaload, 1, 0, 0, 0, 0), some ((.if_icmp .ne (19)), 3, 68, 0, 0, 0), none, none, some ((.aload_n 0), 1, 0, 0, 0, 0), some ((.getfield 15), 3, 5, 1, 1, 0), none, none, some ((.iload 4), 2, 0, 0, 0, 0), none, some (.iaload, 1, 0, 0, 0, 0), some ((.istore_n 2), 1, 0, 0, 0, 0), some ((.aload_n 0), 1, 0, 0, 0, 0), some ((.getfield 18), 3, 5, 2, 1, 0), none, none, some ((.iload 4), 2, 0, 0, 0, 0), none, some (.baload, 1, 0, 0, 0, 0), some ((.istore_n 3), 1, 0, 0, 0, 0), some ((.iinc 4 (1)), 3, 0, 0, 0, 1), none, none, some ((.goto (-64)), 3, 7, 0, 0, 0), none, none, some ((.iload_n 3), 1, 0, 0, 0, 0), some (.ireturn, 1, 0, 0, 0, 0)]
def zt41 : List (Option zE) := [some ((.aload_n 0), 1, 0, 0, 0, 0), some ((.invokespecial 3), 3, 7, 0, 0, 0), none, none, some ((.aload_n 0), 1, 0, 0, 0, 0), some ((.bipush (6)), 2, 0, 0, 0, 6), none, some ((.newarray .int), 2, 1, 0, 0, 0), none, some ((.putfield 11), 3, 7, 0, 1, 0), none, none, some (.return_, 1, 0, 0, 0, 0)]
def zt42 : List (Option zE) := [some ((.aload_n 0), 1, 0, 0, 0, 0), some ((.getfield 15), 3, 7, 1, 0, 0), none, none, some ((.bipush (6)), 2, 0, 0, 0, 6), none, some ((.if_icmp .ne (7)), 3, 13, 0, 0, 0), none, none, some ((.iconst (1)), 1, 0, 0, 0, 1), some ((.goto (4)), 3, 14, 0, 0, 0), none, none, some ((.iconst (0)), 1, 0, 0, 0, 0), some (.ireturn, 1, 0, 0, 0, 0)]
def zt43 : List (Option zE) := [some ((.aload_n 0), 1, 0, 0, 0, 0), some ((.iload_n 1), 1, 0, 0, 0, 0), some ((.invokevirtual 19), 3, 47, 1, 7, 0), none, none, some ((.iconst (-1)), 1, 0, 0, 0, -1), some ((.if_icmp .eq (7)), 3, 13, 0, 0, 0), none, none, some ((.iconst (1)), 1, 0, 0, 0, 1), some ((.goto (4)), 3, 14, 0, 0, 0), none, none, some ((.iconst (0)), 1, 0, 0, 0, 0), some (.ireturn, 1, 0, 0, 0, 0)]
def zt44 : List (Option zE) := [some ((.iload_n 1), 1, 0, 0, 0, 0), some ((.ifCond .lt (20)), 3, 21, 0, 0, 0), none, none, some ((.iload_n 1), 1, 0, 0, 0, 0), some ((.aload_n 0), 1, 0, 0, 0, 0), some ((.getfield 15), 3, 7, 1, 0, 0), none, none, some ((.if_icmp .ge (12)), 3, 21, 0, 0, 0), none, none, some ((.aload_n 0), 1, 0, 0, 0, 0), some ((.getfield 11), 3, 7, 0, 1, 0), none, none, some ((.iload_n 1), 1, 0, 0, 0, 0), some (.iaload, 1, 0, 0, 0, 0), some ((.goto (4)), 3, 22, 0, 0, 0), none, none, some ((.iconst (-1)), 1, 0, 0, 0, -1), some (.ireturn, 1, 0, 0, 0, 0)]
def zt45 : List (Option zE) := [some ((.aload_n 0), 1, 0, 0, 0, 0), some ((.iload_n 1), 1, 0, 0, 0, 0), some ((.invokevirtual 23), 3, 43, 1, 7, 0), none, none, some ((.ifCond .ne (30)), 3, 35, 0, 0, 0), none, none, some ((.aload_n 0), 1, 0, 0, 0, 0), some ((.invokevirtual 27), 3, 42, 0, 7, 0), none, none, some ((.ifCond .ne (23)), 3, 35, 0, 0, 0), none, none, some ((.aload_n 0), 1, 0, 0, 0, 0), some ((.getfield 11), 3, 7, 0, 1, 0), none, none, some ((.aload_n 0), 1, 0, 0, 0, 0), some ((.getfield 15), 3, 7, 1, 0, 0), none, none, some ((.iload_n 1), 1, 0, 0, 0, 0), some (.iastore, 1, 0, 0, 0, 0), some ((.aload_n 0), 1, 0, 0, 0, 0), some (.dup, 1, 0, 0, 0, 0), some ((.getfield 15), 3, 7, 1, 0, 0), none, none, some ((.iconst (1)), 1, 0, 0, 0, 1), some (.iadd, 1, 0, 0, 0, 0), some ((.putfield 15), 3, 7, 1, 0, 0), none, none, some (.return_, 1, 0, 0, 0, 0)]
def zt46 : List (Option zE) := [some ((.aload_n 0), 1, 0, 0, 0, 0), some ((.iload_n 1), 1, 0, 0, 0, 0), some ((.invokevirtual 19), 3, 47, 1, 7, 0), none, none, some ((.istore_n 2), 1, 0, 0, 0, 0), some ((.iload_n 2), 1, 0, 0, 0, 0), some ((.iconst (-1)), 1, 0, 0, 0, -1), some ((.if_icmp .ne (4)), 3, 12, 0, 0, 0), none, none, some (.return_, 1, 0, 0, 0, 0), some ((.aload_n 0), 1, 0, 0, 0, 0), some (.dup, 1, 0, 0, 0, 0), some ((.getfield 15), 3, 7, 1, 0, 0), none, none, some ((.iconst (1)), 1, 0, 0, 0, 1), some (.isub, 1, 0, 0, 0, 0), some ((.putfield 15), 3, 7, 1, 0, 0), none, none, some ((.iload_n 2), 1, 0, 0, 0, 0), some ((.istore_n 3), 1, 0, 0, 0, 0), some ((.iload_n 3), 1, 0, 0, 0, 0), some ((.aload_n 0), 1, 0, 0, 0, 0), some ((.getfield 15), 3, 7, 1, 0, 0), none, none, some ((.if_icmp .ge (23)), 3, 52, 0, 0, 0), none, none, some ((.aload_n 0), 1, 0, 0, 0, 0), some ((.getfield 11), 3, 7, 0, 1, 0), none, none, some ((.iload_n 3), 1, 0, 0, 0, 0), some ((.aload_n 0), 1, 0, 0, 0, 0), some ((.getfield 11), 3, 7, 0, 1, 0), none, none, some ((.iload_n 3), 1, 0, 0, 0, 0), some ((.iconst (1)), 1, 0, 0, 0, 1), some (.iadd, 1, 0, 0, 0, 0), some (.iaload, 1, 0, 0, 0, 0), some (.iastore, 1, 0, 0, 0, 0), some ((.iinc 3 (1)), 3, 0, 0, 0, 1), none, none, some ((.goto (-25)), 3, 24, 0, 0, 0), none, none, some (.return_, 1, 0, 0, 0, 0)]
def zt47 : List (Option zE) := [some ((.iconst (0)), 1, 0, 0, 0, 0), some ((.istore_n 2), 1, 0, 0, 0, 0), some ((.iload_n 2), 1, 0, 0, 0, 0), some ((.aload_n 0), 1, 0, 0, 0, 0), some ((.getfield 15), 3, 7, 1, 0, 0), none, none, some ((.if_icmp .ge (21)), 3, 28, 0, 0, 0), none, none, some ((.aload_n 0), 1, 0, 0, 0, 0), some ((.getfield 11), 3, 7, 0, 1, 0), none, none, some ((.iload_n 2), 1, 0, 0, 0, 0), some (.iaload, 1, 0, 0, 0, 0), some ((.iload_n 1), 1, 0, 0, 0, 0), some ((.if_icmp .ne (5)), 3, 22, 0, 0, 0), none, none, some ((.iload_n 2), 1, 0, 0, 0, 0), some (.ireturn, 1, 0, 0, 0, 0), some ((.iinc 2 (1)), 3, 0, 0, 0, 1), none, none, some ((.goto (-23)), 3, 2, 0, 0, 0), none, none, some ((.iconst (-1)), 1, 0, 0, 0, -1), some (.ireturn, 1, 0, 0, 0, 0)]
def zt48 : List (Option zE) := [some ((.aload_n 0), 1, 0, 0, 0, 0), some ((.invokespecial 3), 3, 9, 0, 0, 0), none, none, some ((.aload_n 0), 1, 0, 0, 0, 0), some ((.bipush (20)), 2, 0, 0, 0, 20), none, some ((.newarray .int), 2, 1, 0, 0, 0), none, some ((.putfield 11), 3, 9, 0, 1, 0), none, none, some ((.aload_n 0), 1, 0, 0, 0, 0), some ((.bipush (20)), 2, 0, 0, 0, 20), none, some ((.newarray .int), 2, 1, 0, 0, 0), none, some ((.putfield 15), 3, 9, 1, 1, 0), none, none, some (.return_, 1, 0, 0, 0, 0)]
def zt49 : List (Option zE) := [some ((.aload_n 0), 1, 0, 0, 0, 0), some ((.getfield 11), 3, 9, 0, 1, 0), none, none, some ((.aload_n 0), 1, 0, 0, 0, 0), some ((.getfield 18), 3, 9, 2, 0, 0), none, none, some ((.iload_n 1), 1, 0, 0, 0, 0), some (.iastore, 1, 0, 0, 0, 0), some ((.aload_n 0), 1, 0, 0, 0, 0), some ((.getfield 15), 3, 9, 1, 1, 0), none, none, some ((.aload_n 0), 1, 0, 0, 0, 0), some ((.getfield 18), 3, 9, 2, 0, 0), none, none, some ((.bipush (-6)), 2, 0, 0, 0, -6), none, some (.iastore, 1, 0, 0, 0, 0), some ((.aload_n 0), 1, 0, 0, 0, 0), some ((.aload_n 0), 1, 0, 0, 0, 0), some ((.getfield 18), 3, 9, 2, 0, 0), none, none, some ((.iconst (1)), 1, 0, 0, 0, 1), some (.iadd, 1, 0, 0, 0, 0), some ((.bipush (20)), 2, 0, 0, 0, 20), none, some ((.if_icmp .ne (7)), 3, 37, 0, 0, 0), none, none, some ((.iconst (0)), 1, 0, 0, 0, 0), some ((.goto (9)), 3, 43, 0, 0, 0), none, none, some ((.aload_n 0), 1, 0, 0, 0, 0), some ((.getfield 18), 3, 9, 2, 0, 0), none, none, some ((.iconst (1)), 1, 0, 0, 0, 1), some (.iadd, 1, 0, 0, 0, 0), some ((.putfield 18), 3, 9, 2, 0, 0), none, none, some (.return_, 1, 0, 0, 0, 0)]
def zt50 : List (Option zE) := [some ((.aload_n 0), 1, 0, 0, 0, 0), some ((.iload_n 1), 1, 0, 0, 0, 0), some ((.invokevirtual 22), 3, 52, 1, 9, 0), none, none, some ((.istore_n 3), 1, 0, 0, 0, 0), some ((.iload_n 3), 1, 0, 0, 0, 0), some ((.iconst (-1)), 1, 0, 0, 0, -1), some ((.if_icmp .eq (10)), 3, 18, 0, 0, 0), none, none, some ((.aload_n 0), 1, 0, 0, 0, 0), some ((.getfield 15), 3, 9, 1, 1, 0), none, none, some ((.iload_n 3), 1, 0, 0, 0, 0), some ((.iload_n 2), 1, 0, 0, 0, 0), some (.iastore, 1, 0, 0, 0, 0), some (.return_, 1, 0, 0, 0, 0)]
def zt51 : List (Option zE) := [some ((.aload_n 0), 1, 0, 0, 0, 0), some ((.iload_n 1), 1, 0, 0, 0, 0), some ((.invokevirtual 22), 3, 52, 1, 9, 0), none, none, some ((.istore_n 2), 1, 0, 0, 0, 0), some ((.iload_n 2), 1, 0, 0, 0, 0), some ((.iconst (-1)), 1, 0, 0, 0, -1), some ((.if_icmp .ne (8)), 3, 16, 0, 0, 0), none, none, some ((.bipush (-9)), 2, 0, 0, 0, -9), none, some ((.goto (9)), 3, 22, 0, 0, 0), none, none, some ((.aload_n 0), 1, 0, 0, 0, 0), some ((.getfield 15), 3, 9, 1, 1, 0), none, none, some ((.iload_n 2), 1, 0, 0, 0, 0), some (.iaload, 1, 0, 0, 0, 0), some (.ireturn, 1, 0, 0, 0, 0)]
def zt52 : List (Option zE) := [some ((.iload_n 1), 1, 0, 0, 0, 0), some ((.ifCond .gt (5)), 3, 6, 0, 0, 0), none, none, some ((.iconst (-1)), 1, 0, 0, 0, -1), some (.ireturn, 1, 0, 0, 0, 0), some ((.iconst (0)), 1, 0, 0, 0, 0), some ((.istore_n 2), 1, 0, 0, 0, 0), some ((.iload_n 2), 1, 0, 0, 0, 0), some ((.bipush (20)), 2, 0, 0, 0, 20), none, some ((.if_icmp .ge (21)), 3, 32, 0, 0, 0), none, none, some ((.aload_n 0), 1, 0, 0, 0, 0), some ((.getfield 11), 3, 9, 0, 1, 0), none, none, some ((.iload_n 2), 1, 0, 0, 0, 0), some (.iaload, 1, 0, 0, 0, 0), some ((.iload_n 1), 1, 0, 0, 0, 0), some ((.if_icmp .ne (5)), 3, 26, 0, 0, 0), none, none, some ((.iload_n 2), 1, 0, 0, 0, 0), some (.ireturn, 1, 0, 0, 0, 0), some ((.iinc 2 (1)), 3, 0, 0, 0, 1), none, none, some ((.goto (-21)), 3, 8, 0, 0, 0), none, none, some ((.iconst (-1)), 1, 0, 0, 0, -1), some (.ireturn, 1, 0, 0, 0, 0)]
def zt53 : List (Option zE) := [some ((.aload_n 0), 1, 0, 0, 0, 0), some ((.invokespecial 3), 3, 11, 0, 0, 0), none, none, some ((.aload_n 0), 1, 0, 0, 0, 0), some ((.iconst (2)), 1, 0, 0, 0, 2), some ((.iload_n 1), 1, 0, 0, 0, 0), some ((.iconst (1)), 1, 0, 0, 0, 1), some (.iadd, 1, 0, 0, 0, 0), some (.imul, 1, 0, 0, 0, 0), some ((.newarray .int), 2, 1, 0, 0, 0), none, some ((.putfield 11), 3, 11, 0, 1, 0), none, none, some ((.aload_n 0), 1, 0, 0, 0, 0), some ((.iconst (2)), 1, 0, 0, 0, 2), some ((.iload_n 1), 1, 0, 0, 0, 0), some ((.iconst (1)), 1, 0, 0, 0, 1), some (.iadd, 1, 0, 0, 0, 0), some (.imul, 1, 0, 0, 0, 0), some ((.newarray .int), 2, 1, 0, 0, 0), none, some ((.putfield 15), 3, 11, 1, 1, 0), none, none, some ((.iconst (0)), 1, 0, 0, 0, 0), some ((.istore_n 2), 1, 0, 0, 0, 0), some ((.iload_n 2), 1, 0, 0, 0, 0), some ((.aload_n 0), 1, 0, 0, 0, 0), some ((.getfield 11), 3, 11, 0, 1, 0), none, none, some (.arraylength, 1, 1, 0, 0, 0), some ((.if_icmp .ge (16)), 3, 50, 0, 0, 0), none, none, some ((.aload_n 0), 1, 0, 0, 0, 0), some ((.getfield 11), 3, 11, 0, 1, 0), none, none, some ((.iload_n 2), 1, 0, 0, 0, 0), some ((.iconst (-1)), 1, 0, 0, 0, -1), some (.iastore, 1, 0, 0, 0, 0), some ((.iinc 2 (1)), 3, 0, 0, 0, 1), none, none, some ((.goto (-19)), 3, 28, 0, 0, 0), none, none, some (.return_, 1, 0, 0, 0, 0)]
def zt54 : List (Option zE) := [some ((.iconst (0)), 1, 0, 0, 0, 0), some ((.istore 4), 2, 0, 0, 0, 0), none, some ((.iload 4), 2, 0, 0, 0, 0), none, some ((.iconst (2)), 1, 0, 0, 0, 2), some ((.if_icmp .ge (52)), 3, 58, 0, 0, 0), none, none, some ((.iconst (2)), 1, 0, 0, 0, 2), some ((.iload_n 1), 1, 0, 0, 0, 0), some (.imul, 1, 0, 0, 0, 0), some ((.iload 4), 2, 0, 0, 0, 0), none, some (.iadd, 1, 0, 0, 0, 0), some ((.istore 5), 2, 0, 0, 0, 0), none, some ((.aload_n 0), 1, 0, 0, 0, 0), some ((.getfield 11), 3, 11, 0, 1, 0), none, none, some ((.iload 5), 2, 0, 0, 0, 0), none, some (.iaload, 1, 0, 0, 0, 0), some ((.iconst (-1)), 1, 0, 0, 0, -1), some ((.if_icmp .ne (27)), 3, 52, 0, 0, 0), none, none, some ((.aload_n 0), 1, 0, 0, 0, 0), some ((.getfield 11), 3, 11, 0, 1, 0), none, none, some ((.iload 5), 2, 0, 0, 0, 0), none, some ((.iload_n 2), 1, 0, 0, 0, 0), some (.iastore, 1, 0, 0, 0, 0), some ((.aload_n 0), 1, 0, 0, 0, 0), some ((.getfield 15), 3, 11, 1, 1, 0), none, none, some ((.iload 5), 2, 0, 0, 0, 0), none, some ((.iload_n 3), 1, 0, 0, 0, 0), some (.iastore, 1, 0, 0, 0, 0), some ((.bipush (100)), 2, 0, 0, 0, 100), none, some ((.iload_n 1), 1, 0, 0, 0, 0), some (.imul, 1, 0, 0, 0, 0), some ((.iload 4), 2, 0, 0, 0, 0), none, some (.iadd, 1, 0, 0, 0, 0), some (.ireturn, 1, 0, 0, 0, 0), some ((.iinc 4 (1)), 3, 0, 0, 0, 1), none, none, some ((.goto (-52)), 3, 3, 0, 0, 0), none, none, some ((.bipush (-2)), 2, 0, 0, 0, -2), none, some (.ireturn, 1, 0, 0, 0, 0)]
def zt55 : List (Option zE) := [some ((.iconst (2)), 1, 0, 0, 0, 2), some ((.iload_n 1), 1, 0, 0, 0, 0), some (.imul, 1, 0, 0, 0, 0), some ((.iload_n 2), 1, 0, 0, 0, 0), some (.iadd, 1, 0, 0, 0, 0), some ((.istore_n 3), 1, 0, 0, 0, 0), some ((.aload_n 0), 1, 0, 0, 0, 0), some ((.getfield 11), 3, 11, 0, 1, 0), none, none, some ((.iload_n 3), 1, 0, 0, 0, 0), some (.iaload, 1, 0, 0, 0, 0), some ((.istore 4), 2, 0, 0, 0, 0), none, some ((.aload_n 0), 1, 0, 0, 0, 0), some ((.getfield 11), 3, 11, 0, 1, 0), none, none, some ((.iload_n 3), 1, 0, 0, 0, 0), some ((.iconst (-1)), 1, 0, 0, 0, -1), some (.iastore, 1, 0, 0, 0, 0), some ((.iload 4), 2, 0, 0, 0, 0), none, some (.ireturn, 1, 0, 0, 0, 0)]
def zt56 : List (Option zE) := [some ((.iconst (0)), 1, 0, 0, 0, 0), some ((.istore_n 2), 1, 0, 0, 0, 0), some ((.iload_n 2), 1, 0, 0, 0, 0), some ((.aload_n 0), 1, 0, 0, 0, 0), some ((.getfield 11), 3, 11, 0, 1, 0), none, none, some (.arraylength, 1, 1, 0, 0, 0), some ((.if_icmp .ge (26)), 3, 34, 0, 0, 0), none, none, some ((.aload_n 0), 1, 0, 0, 0, 0), some ((.getfield 15), 3, 11, 1, 1, 0), none, none, some ((.iload_n 2), 1, 0, 0, 0, 0), some (.iaload, 1, 0, 0, 0, 0), some ((.iload_n 1), 1, 0, 0, 0, 0), some ((.if_icmp .ne (10)), 3, 28, 0, 0, 0), none, none, some ((.aload_n 0), 1, 0, 0, 0, 0), some ((.getfield 11), 3, 11, 0, 1, 0), none, none, some ((.iload_n 2), 1, 0, 0, 0, 0), some ((.iconst (-1)), 1, 0, 0, 0, -1), some (.iastore, 1, 0, 0, 0, 0), some ((.iinc 2 (1)), 3, 0, 0, 0, 1), none, none, some ((.goto (-29)), 3, 2, 0, 0, 0), none, none, some (.return_, 1, 0, 0, 0, 0)]
def zt57 : List (Option zE) := [some ((.aload_n 0), 1, 0, 0, 0, 0), some ((.invokespecial 1), 3, 13, 0, 0, 0), none, none, some (.return_, 1, 0, 0, 0, 0)]
def zt58 : List (Option zE) := [some ((.aload_n 0), 1, 0, 0, 0, 0), some ((.invokespecial 3), 3, 15, 0, 0, 0), none, none, some ((.aload_n 0), 1, 0, 0, 0, 0), some ((.iload_n 1), 1, 0, 0, 0, 0), some ((.anewarray 9), 3, 14, 0, 0, 0), none, none, some ((.putfield 11), 3, 15, 0, 1, 0), none, none, some ((.iconst (0)), 1, 0, 0, 0, 0), some ((.istore_n 2), 1, 0, 0, 0, 0), some ((.iload_n 2), 1, 0, 0, 0, 0), some ((.iload_n 1), 1, 0, 0, 0, 0), some ((.if_icmp .ge (22)), 3, 38, 0, 0, 0), none, none, some ((.aload_n 0), 1, 0, 0, 0, 0), some ((.getfield 11), 3, 15, 0, 1, 0), none, none, some ((.iload_n 2), 1, 0, 0, 0, 0), some ((.new 9), 3, 13, 6, 0, 0), none, none, some (.dup, 1, 0, 0, 0, 0), some ((.invokespecial 17), 3, 57, 0, 13, 0), none, none, some (.aastore, 1, 14, 13, 0, 0), some ((.iinc 2 (1)), 3, 0, 0, 0, 1), none, none, some ((.goto (-21)), 3, 14, 0, 0, 0), none, none, some (.return_, 1, 0, 0, 0, 0)]
def zt59 : List (Option zE) := [some ((.aload_n 0), 1, 0, 0, 0, 0), some ((.getfield 18), 3, 15, 1, 0, 0), none, none, some ((.aload_n 0), 1, 0, 0, 0, 0), some ((.getfield 11), 3, 15, 0, 1, 0), none, none, some (.arraylength, 1, 14, 0, 0, 0), some ((.if_icmp .ne (7)), 3, 16, 0, 0, 0), none, none, some ((.iconst (1)), 1, 0, 0, 0, 1), some ((.goto (4)), 3, 17, 0, 0, 0), none, none, some ((.iconst (0)), 1, 0, 0, 0, 0), some (.ireturn, 1, 0, 0, 0, 0)]
def zt60 : List (Option zE) := [some ((.aload_n 0), 1, 0, 0, 0, 0), some ((.getfield 11), 3, 15, 0, 1, 0), none, none, some ((.aload_n 0), 1, 0, 0, 0, 0), some ((.getfield 18), 3, 15, 1, 0, 0), none, none, some (.aaload, 1, 14, 0, 0, 0), some ((.astore 6), 2, 0, 0, 0, 0), none, some ((.aload_n 0), 1, 0, 0, 0, 0), some (.dup, 1, 0, 0, 0, 0), some ((.getfield 18), 3, 15, 1, 0, 0), none, none, some ((.iconst (1)), 1, 0, 0, 0, 1), some (.iadd, 1, 0, 0, 0, 0), some ((.putfield 18), 3, 15, 1, 0, 0), none, none, some ((.aload_n 0), 1, 0, 0, 0, 0), some (.dup, 1, 0, 0, 0, 0), some ((.getfield 22), 3, 15, 2, 0, 0), none, none, some ((.iconst (1)), 1, 0, 0, 0, 1), some (.iadd, 1, 0, 0, 0, 0), some ((.putfield 22), 3, 15, 2, 0, 0), none, none, some ((.aload 6), 2, 0, 0, 0, 0), none, some ((.aload_n 0), 1, 0, 0, 0, 0), some ((.getfield 22), 3, 15, 2, 0, 0), none, none, some ((.putfield 25), 3, 13, 0, 0, 0), none, none, some ((.aload 6), 2, 0, 0, 0, 0), none, some ((.iload_n 1), 1, 0, 0, 0, 0), some ((.putfield 28), 3, 13, 1, 0, 0), none, none, some ((.aload 6), 2, 0, 0, 0, 0), none, some ((.iload_n 2), 1, 0, 0, 0, 0), some ((.putfield 31), 3, 13, 2, 0, 0), none, none, some ((.aload 6), 2, 0, 0, 0, 0), none, some ((.iload_n 3), 1, 0, 0, 0, 0), some ((.putfield 34), 3, 13, 3, 0, 0), none, none, some ((.aload 6), 2, 0, 0, 0, 0), none, some ((.iload 4), 2, 0, 0, 0, 0), none, some ((.putfield 37), 3, 13, 4, 0, 0), none, none, some ((.aload 6), 2, 0, 0, 0, 0), none, some ((.iload 5), 2, 0, 0, 0, 0), none, some ((.putfield 40), 3, 13, 5, 0, 0), none, none, some ((.aload_n 0), 1, 0, 0, 0, 0), some ((.getfield 22), 3, 15, 2, 0, 0), none, none, some (.ireturn, 1, 0, 0, 0, 0)]
def zt61 : List (Option zE) := [some ((.iconst (0)), 1, 0, 0, 0, 0), some ((.istore_n 2), 1, 0, 0, 0, 0), some ((.iload_n 2), 1, 0, 0, 0, 0), some ((.aload_n 0), 1, 0, 0, 0, 0), some ((.getfield 18), 3, 15, 1, 0, 0), none, none, some ((.if_icmp .ge (24)), 3, 31, 0, 0, 0), none, none, some ((.aload_n 0), 1, 0, 0, 0, 0), some ((.getfield 11), 3, 15, 0, 1, 0), none, none, some ((.iload_n 2), 1, 0, 0, 0, 0), some (.aaload, 1, 14, 0, 0, 0), some ((.getfield 25), 3, 13, 0, 0, 0), none, none, some ((.iload_n 1), 1, 0, 0, 0, 0), some ((.if_icmp .ne (5)), 3, 25, 0, 0, 0), none, none, some ((.iload_n 2), 1, 0, 0, 0, 0), some (.ireturn, 1, 0, 0, 0, 0), some ((.iinc 2 (1)), 3, 0, 0, 0, 1), none, none, some ((.goto (-26)), 3, 2, 0, 0, 0), none, none, some ((.iconst (-1)), 1, 0, 0, 0, -1), some (.ireturn, 1, 0, 0, 0, 0)]
def zt62 : List (Option zE) := [some ((.iconst (0)), 1, 0, 0, 0, 0), some ((.istore 4), 2, 0, 0, 0, 0), none, some ((.iload 4), 2, 0, 0, 0, 0), none, some ((.aload_n 0), 1, 0, 0, 0, 0), some ((.getfield 18), 3, 15, 1, 0, 0), none, none, some ((.if_icmp .ge (48)), 3, 57, 0, 0, 0), none, none, some ((.aload_n 0), 1, 0, 0, 0, 0), some ((.getfield 11), 3, 15, 0, 1, 0), none, none, some ((.iload 4), 2, 0, 0, 0, 0), none, some (.aaload, 1, 14, 0, 0, 0), some ((.astore 5), 2, 0, 0, 0, 0), none, some ((.aload 5), 2, 0, 0, 0, 0), none, some ((.getfield 28), 3, 13, 1, 0, 0), none, none, some ((.iload_n 1), 1, 0, 0, 0, 0), some ((.if_icmp .ne (24)), 3, 51, 0, 0, 0), none, none, some ((.aload 5), 2, 0, 0, 0, 0), none, some ((.getfield 31), 3, 13, 2, 0, 0), none, none, some ((.iload_n 2), 1, 0, 0, 0, 0), some ((.if_icmp .ne (15)), 3, 51, 0, 0, 0), none, none, some ((.aload 5), 2, 0, 0, 0, 0), none, some ((.getfield 34), 3, 13, 3, 0, 0), none, none, some ((.iload_n 3), 1, 0, 0, 0, 0), some ((.if_icmp .ne (6)), 3, 51, 0, 0, 0), none, none, some ((.iload 4), 2, 0, 0, 0, 0), none, some (.ireturn, 1, 0, 0, 0, 0), some ((.iinc 4 (1)), 3, 0, 0, 0, 1), none, none, some ((.goto (-51)), 3, 3, 0, 0, 0), none, none, some ((.iconst (-1)), 1, 0, 0, 0, -1), some (.ireturn, 1, 0, 0, 0, 0)]
def zt63 : List (Option zE) := [some ((.iconst (0)), 1, 0, 0, 0, 0), some ((.istore_n 3), 1, 0, 0, 0, 0), some ((.iload_n 3), 1, 0, 0, 0, 0), some ((.aload_n 0), 1, 0, 0, 0, 0), some ((.getfield 18), 3, 15, 1, 0, 0), none, none, some ((.if_icmp .ge (46)), 3, 53, 0, 0, 0), none, none, some ((.aload_n 0), 1, 0, 0, 0, 0), some ((.getfield 11), 3, 15, 0, 1, 0), none, none, some ((.iload_n 3), 1, 0, 0, 0, 0), some (.aaload, 1, 14, 0, 0, 0), some ((.astore 4), 2, 0, 0, 0, 0), none, some ((.aload 4), 2, 0, 0, 0, 0), none, some ((.getfield 28), 3, 13, 1, 0, 0), none, none, some ((.iconst (2)), 1, 0, 0, 0, 2), some ((.if_icmp .ne (23)), 3, 47, 0, 0, 0), none, none, some ((.aload 4), 2, 0, 0, 0, 0), none, some ((.getfield 31), 3, 13, 2, 0, 0), none, none, some ((.iload_n 1), 1, 0, 0, 0, 0), some ((.if_icmp .ne (14)), 3, 47, 0, 0, 0), none, none, some ((.aload 4), 2, 0, 0, 0, 0), none, some ((.getfield 40), 3, 13, 5, 0, 0), none, none, some ((.iload_n 2), 1, 0, 0, 0, 0), some ((.if_icmp .ne (5)), 3, 47, 0, 0, 0), none, none, some ((.iload_n 3), 1, 0, 0, 0, 0), some (.ireturn, 1, 0, 0, 0, 0), some ((.iinc 3 (1)), 3, 0, 0, 0, 1), none, none, some ((.goto (-48)), 3, 2, 0, 0, 0), none, none, some ((.iconst (-1)), 1, 0, 0, 0, -1), some (.ireturn, 1, 0, 0, 0, 0)]
def zt64 : List (Option zE) := [some ((.iload_n 1), 1, 0, 0, 0, 0), some ((.ifCond .lt (11)), 3, 12, 0, 0, 0), none, none, some ((.iload_n 1), 1, 0, 0, 0, 0), some ((.aload_n 0), 1, 0, 0, 0, 0), some ((.getfield 18), 3, 15, 1, 0, 0), none, none, some ((.if_icmp .lt (4)), 3, 13, 0, 0, 0), none, none, some (.return_, 1, 0, 0, 0, 0), some ((.aload_n 0), 1, 0, 0, 0, 0), some ((.getfield 11), 3, 15, 0, 1, 0), none, none, some ((.iload_n 1), 1, 0, 0, 0, 0), some (.aaload, 1, 14, 0, 0, 0), some ((.astore_n 2), 1, 0, 0, 0, 0), some ((.aload_n 0), 1, 0, 0, 0, 0), some (.dup, 1, 0, 0, 0, 0), some ((.getfield 18), 3, 15, 1, 0, 0), none, none, some ((.iconst (1)), 1, 0, 0, 0, 1), some (.isub, 1, 0, 0, 0, 0), some ((.putfield 18), 3, 15, 1, 0, 0), none, none, some ((.iload_n 1), 1, 0, 0, 0, 0), some ((.istore_n 3), 1, 0, 0, 0, 0), some ((.iload_n 3), 1, 0, 0, 0, 0), some ((.aload_n 0), 1, 0, 0, 0, 0), some ((.getfield 18), 3, 15, 1, 0, 0), none, none, some ((.if_icmp .ge (23)), 3, 60, 0, 0, 0), none, none, some ((.aload_n 0), 1, 0, 0, 0, 0), some ((.getfield 11), 3, 15, 0, 1, 0), none, none, some ((.iload_n 3), 1, 0, 0, 0, 0), some ((.aload_n 0), 1, 0, 0, 0, 0), some ((.getfield 11), 3, 15, 0, 1, 0), none, none, some ((.iload_n 3), 1, 0, 0, 0, 0), some ((.iconst (1)), 1, 0, 0, 0, 1), some (.iadd, 1, 0, 0, 0, 0), some (.aaload, 1, 14, 0, 0, 0), some (.aastore, 1, 14, 13, 0, 0), some ((.iinc 3 (1)), 3, 0, 0, 0, 1), none, none, some ((.goto (-25)), 3, 32, 0, 0, 0), none, none, some ((.aload_n 0), 1, 0, 0, 0, 0), some ((.getfield 11), 3, 15, 0, 1, 0), none, none, some ((.aload_n 0), 1, 0, 0, 0, 0), some ((.getfield 18), 3, 15, 1, 0, 0), none, none, some ((.aload_n 2), 1, 0, 0, 0, 0), some (.aastore, 1, 14, 13, 0, 0), some (.return_, 1, 0, 0, 0, 0)]
def zt65 : List (Option zE) := [some ((.aload_n 0), 1, 0, 0, 0, 0), some ((.invokespecial 3), 3, 17, 0, 0, 0), none, none, some (.return_, 1, 0, 0, 0, 0)]
def zt66 : List (Option zE) := [some ((.aload_n 0), 1, 0, 0, 0, 0), some ((.aload_n 1), 1, 0, 0, 0, 0), some ((.getfield 9), 3, 17, 0, 0, 0), none, none, some ((.putfield 9), 3, 17, 0, 0, 0), none, none, some ((.aload_n 0), 1, 0, 0, 0, 0), some ((.aload_n 1), 1, 0, 0, 0, 0), some ((.getfield 15), 3, 17, 1, 0, 0), none, none, some ((.putfield 15), 3, 17, 1, 0, 0), none, none, some ((.aload_n 0), 1, 0, 0, 0, 0), some ((.aload_n 1), 1, 0, 0, 0, 0), some ((.getfield 18), 3, 17, 2, 0, 0), none, none, some ((.putfield 18), 3, 17, 2, 0, 0), none, none, some ((.aload_n 0), 1, 0, 0, 0, 0), some ((.aload_n 1), 1, 0, 0, 0, 0), some ((.getfield 21), 3, 17, 3, 0, 0), none, none, some ((.putfield 21), 3, 17, 3, 0, 0), none, none, some ((.aload_n 0), 1, 0, 0, 0, 0), some ((.aload_n 1), 1, 0, 0, 0, 0), some ((.getfield 24), 3, 17, 4, 0, 0), none, none, some ((.putfield 24), 3, 17, 4, 0, 0), none, none, some ((.aload_n 0), 1, 0, 0, 0, 0), some ((.aload_n 1), 1, 0, 0, 0, 0), some ((.getfield 27), 3, 17, 5, 0, 0), none, none, some ((.putfield 27), 3, 17, 5, 0, 0), none, none, some ((.aload_n 0), 1, 0, 0, 0, 0), some ((.aload_n 1), 1, 0, 0, 0, 0), some ((.getfield 30), 3, 17, 6, 0, 0), none, none, some ((.putfield 30), 3, 17, 6, 0, 0), none, none, some (.return_, 1, 0, 0, 0, 0)]
def zt67 : List (Option zE) := [some ((.iload_n 1), 1, 0, 0, 0, 0), some ((.tableswitch (93) (0) (7) #[47, 52, 57, 65, 73, 78, 83, 88]), 47, 0, 0, 0, 0), none, none, none, none, none, none, none, none, none, none, none, none, none, none, none, none, none, none, none, none, none, none, none, none, none, none, none, none, none, none, none, none, none, none, none, none, none, none, none, none, none, none, none, none, none, none, some ((.aload_n 0), 1, 0, 0, 0, 0), some ((.getfield 9), 3, 17, 0, 0, 0), none, none, some (.ireturn, 1, 0, 0, 0, 0), some ((.aload_n 0), 1, 0, 0, 0, 0), some ((.getfield 15), 3, 17, 1, 0, 0), none, none, some (.ireturn, 1, 0, 0, 0, 0), some ((.aload_n 0), 1, 0, 0, 0, 0), some ((.getfield 18), 3, 17, 2, 0, 0), none, none, some ((.bipush (10)), 2, 0, 0, 0, 10), none, some (.idiv, 1, 0, 0, 0, 0), some (.ireturn, 1, 0, 0, 0, 0), some ((.aload_n 0), 1, 0, 0, 0, 0), some ((.getfield 18), 3, 17, 2, 0, 0), none, none, some ((.bipush (10)), 2, 0, 0, 0, 10), none, some (.irem, 1, 0, 0, 0, 0), some (.ireturn, 1, 0, 0, 0, 0), some ((.aload_n 0), 1, 0, 0, 0, 0), some ((.getfield 21), 3, 17, 3, 0, 0), none, none, some (.ireturn, 1, 0, 0, 0, 0), some ((.aload_n 0), 1, 0, 0, 0, 0), some ((.getfield 24), 3, 17, 4, 0, 0), none, none, some (.ireturn, 1, 0, 0, 0, 0), some ((.aload_n 0), 1, 0, 0, 0, 0), some ((.getfield 27), 3, 17, 5, 0, 0), none, none, some (.ireturn, 1, 0, 0, 0, 0), some ((.aload_n 0), 1, 0, 0, 0, 0), some ((.getfield 30), 3, 17, 6, 0, 0), none, none, some (.ireturn, 1, 0, 0, 0, 0), some ((.bipush (-9)), 2, 0, 0, 0, -9), none, some (.ireturn, 1, 0, 0, 0, 0)]
def zt68 : List (Option zE) := [some ((.aload_n 0), 1, 0, 0, 0, 0), some ((.invokespecial 1), 3, 19, 0, 0, 0), none, none, some ((.aload_n 0), 1, 0, 0, 0, 0), some ((.bipush (24)), 2, 0, 0, 0, 24), none, some ((.anewarray 9), 3, 18, 0, 0, 0), none, none, some ((.putfield 11), 3, 19, 0, 1, 0), none, none, some ((.iconst (0)), 1, 0, 0, 0, 0), some ((.istore_n 1), 1, 0, 0, 0, 0), some ((.iload_n 1), 1, 0, 0, 0, 0), some ((.bipush (24)), 2, 0, 0, 0, 24), none, some ((.if_icmp .ge (22)), 3, 40, 0, 0, 0), none, none, some ((.aload_n 0), 1, 0, 0, 0, 0), some ((.getfield 11), 3, 19, 0, 1, 0), none, none, some ((.iload_n 1), 1, 0, 0, 0, 0), some ((.new 9), 3, 17, 7, 0, 0), none, none, some (.dup, 1, 0, 0, 0, 0), some ((.invokespecial 15), 3, 65, 0, 17, 0), none, none, some (.aastore, 1, 18, 17, 0, 0), some ((.iinc 1 (1)), 3, 0, 0, 0, 1), none, none, some ((.goto (-22)), 3, 15, 0, 0, 0), none, none, some (.return_, 1, 0, 0, 0, 0)]
def zt69 : List (Option zE) := [some ((.iload_n 1), 1, 0, 0, 0, 0), some ((.ifCond .lt (15)), 3, 16, 0, 0, 0), none, none, some ((.iload_n 1), 1, 0, 0, 0, 0), some ((.aload_n 0), 1, 0, 0, 0, 0), some ((.getfield 16), 3, 19, 1, 0, 0), none, none, some ((.if_icmp .ge (7)), 3, 16, 0, 0, 0), none, none, some ((.iconst (1)), 1, 0, 0, 0, 1), some ((.goto (4)), 3, 17, 0, 0, 0), none, none, some ((.iconst (0)), 1, 0, 0, 0, 0), some (.ireturn, 1, 0, 0, 0, 0)]
def zt70 : List (Option zE) := [some ((.aload_n 0), 1, 0, 0, 0, 0), some ((.getfield 16), 3, 19, 1, 0, 0), none, none, some ((.bipush (24)), 2, 0, 0, 0, 24), none, some ((.if_icmp .ne (7)), 3, 13, 0, 0, 0), none, none, some ((.iconst (1)), 1, 0, 0, 0, 1), some ((.goto (4)), 3, 14, 0, 0, 0), none, none, some ((.iconst (0)), 1, 0, 0, 0, 0), some (.ireturn, 1, 0, 0, 0, 0)]
def zt71 : List (Option zE) := [some ((.aload_n 0), 1, 0, 0, 0, 0), some ((.invokevirtual 20), 3, 70, 0, 19, 0), none, none, some ((.ifCond .eq (4)), 3, 8, 0, 0, 0), none, none, some (.return_, 1, 0, 0, 0, 0), some ((.aload_n 0), 1, 0, 0, 0, 0), some ((.getfield 11), 3, 19, 0, 1, 0), none, none, some ((.aload_n 0), 1, 0, 0, 0, 0), some ((.getfield 16), 3, 19, 1, 0, 0), none, none, some (.aaload, 1, 18, 0, 0, 0), some ((.astore 8), 2, 0, 0, 0, 0), none, some ((.aload_n 0), 1, 0, 0, 0, 0), some (.dup, 1, 0, 0, 0, 0), some ((.getfield 16), 3, 19, 1, 0, 0), none, none, some ((.iconst (1)), 1, 0, 0, 0, 1), some (.iadd, 1, 0, 0, 0, 0), some ((.putfield 16), 3, 19, 1, 0, 0), none, none, some ((.aload 8), 2, 0, 0, 0, 0), none, some ((.iload_n 1), 1, 0, 0, 0, 0), some ((.putfield 24), 3, 17, 0, 0, 0), none, none, some ((.aload 8), 2, 0, 0, 0, 0), none, some ((.iload_n 2), 1, 0, 0, 0, 0), some ((.putfield 27), 3, 17, 1, 0, 0), none, none, some ((.aload 8), 2, 0, 0, 0, 0), none, some ((.iload_n 3), 1, 0, 0, 0, 0), some ((.putfield 30), 3, 17, 2, 0, 0), none, none, some ((.aload 8), 2, 0, 0, 0, 0), none, some ((.iload 4), 2, 0, 0, 0, 0), none, some ((.putfield 33), 3, 17, 3, 0, 0), none, none, some ((.aload 8), 2, 0, 0, 0, 0), none, some ((.iload 5), 2, 0, 0, 0, 0), none, some ((.putfield 36), 3, 17, 4, 0, 0), none, none, some ((.aload 8), 2, 0, 0, 0, 0), none, some ((.iload 6), 2, 0, 0, 0, 0), none, some ((.putfield 39), 3, 17, 5, 0, 0), none, none, some ((.aload 8), 2, 0, 0, 0, 0), none, some ((.iload 7), 2, 0, 0, 0, 0), none, some ((.putfield 42), 3, 17, 6, 0, 0), none, none, some (.return_, 1, 0, 0, 0, 0)]
def zt72 : List (Option zE) := [some ((.aload_n 0), 1, 0, 0, 0, 0), some ((.getfield 11), 3, 19, 0, 1, 0), none, none, some ((.aload_n 0), 1, 0, 0, 0, 0), some ((.getfield 16), 3, 19, 1, 0, 0), none, none, some (.aaload, 1, 18, 0, 0, 0), some ((.aload_n 0), 1, 0, 0, 0, 0), some ((.getfield 11), 3, 19, 0, 1, 0), none, none, some ((.iload_n 1), 1, 0, 0, 0, 0), some (.aaload, 1, 18, 0, 0, 0), some ((.invokevirtual 45), 3, 66, 1, 17, 0), none, none, some ((.aload_n 0), 1, 0, 0, 0, 0), some (.dup, 1, 0, 0, 0, 0), some ((.getfield 16), 3, 19, 1, 0, 0), none, none, some ((.iconst (1)), 1, 0, 0, 0, 1), some (.iadd, 1, 0, 0, 0, 0), some ((.putfield 16), 3, 19, 1, 0, 0), none, none, some (.return_, 1, 0, 0, 0, 0)]
def zt73 : List (Option zE) := [some ((.aload_n 0), 1, 0, 0, 0, 0), some ((.getfield 11), 3, 19, 0, 1, 0), none, none, some ((.iload_n 1), 1, 0, 0, 0, 0), some (.aaload, 1, 18, 0, 0, 0), some ((.astore_n 2), 1, 0, 0, 0, 0), some ((.aload_n 0), 1, 0, 0, 0, 0), some (.dup, 1, 0, 0, 0, 0), some ((.getfield 16), 3, 19, 1, 0, 0), none, none, some ((.iconst (1)), 1, 0, 0, 0, 1), some (.isub, 1, 0, 0, 0, 0), some ((.putfield 16), 3, 19, 1, 0, 0), none, none, some ((.iload_n 1), 1, 0, 0, 0, 0), some ((.istore_n 3), 1, 0, 0, 0, 0), some ((.iload_n 3), 1, 0, 0, 0, 0), some ((.aload_n 0), 1, 0, 0, 0, 0), some ((.getfield 16), 3, 19, 1, 0, 0), none, none, some ((.if_icmp .ge (23)), 3, 47, 0, 0, 0), none, none, some ((.aload_n 0), 1, 0, 0, 0, 0), some ((.getfield 11), 3, 19, 0, 1, 0), none, none, some ((.iload_n 3), 1, 0, 0, 0, 0), some ((.aload_n 0), 1, 0, 0, 0, 0), some ((.getfield 11), 3, 19, 0, 1, 0), none, none, some ((.iload_n 3), 1, 0, 0, 0, 0), some ((.iconst (1)), 1, 0, 0, 0, 1), some (.iadd, 1, 0, 0, 0, 0), some (.aaload, 1, 18, 0, 0, 0), some (.aastore, 1, 18, 17, 0, 0), some ((.iinc 3 (1)), 3, 0, 0, 0, 1), none, none, some ((.goto (-25)), 3, 19, 0, 0, 0), none, none, some ((.aload_n 0), 1, 0, 0, 0, 0), some ((.getfield 11), 3, 19, 0, 1, 0), none, none, some ((.aload_n 0), 1, 0, 0, 0, 0), some ((.getfield 16), 3, 19, 1, 0, 0), none, none, some ((.aload_n 2), 1, 0, 0, 0, 0), some (.aastore, 1, 18, 17, 0, 0), some (.return_, 1, 0, 0, 0, 0)]
def zt74 : List (Option zE) := [some ((.aload_n 0), 1, 0, 0, 0, 0), some ((.invokespecial 1), 3, 21, 0, 0, 0), none, none, some ((.aload_n 0), 1, 0, 0, 0, 0), some ((.iconst (4)), 1, 0, 0, 0, 4), some ((.newarray .int), 2, 1, 0, 0, 0), none, some ((.putfield 7), 3, 21, 2, 1, 0), none, none, some ((.aload_n 0), 1, 0, 0, 0, 0), some ((.iconst (4)), 1, 0, 0, 0, 4), some ((.newarray .int), 2, 1, 0, 0, 0), none, some ((.putfield 13), 3, 21, 3, 1, 0), none, none, some ((.aload_n 0), 1, 0, 0, 0, 0), some ((.bipush (6)), 2, 0, 0, 0, 6), none, some ((.newarray .int), 2, 1, 0, 0, 0), none, some ((.putfield 16), 3, 21, 5, 1, 0), none, none, some ((.aload_n 0), 1, 0, 0, 0, 0), some ((.bipush (6)), 2, 0, 0, 0, 6), none, some ((.newarray .int), 2, 1, 0, 0, 0), none, some ((.putfield 19), 3, 21, 6, 1, 0), none, none, some ((.aload_n 0), 1, 0, 0, 0, 0), some ((.bipush (6)), 2, 0, 0, 0, 6), none, some ((.newarray .boolean), 2, 2, 0, 0, 0), none, some ((.putfield 22), 3, 21, 7, 1, 0), none, none, some ((.aload_n 0), 1, 0, 0, 0, 0), some ((.bipush (7)), 2, 0, 0, 0, 7), none, some ((.newarray .int), 2, 1, 0, 0, 0), none, some ((.putfield 26), 3, 21, 9, 1, 0), none, none, some ((.aload_n 0), 1, 0, 0, 0, 0), some ((.bipush (7)), 2, 0, 0, 0, 7), none, some ((.newarray .int), 2, 1, 0, 0, 0), none, some ((.putfield 29), 3, 21, 10, 1, 0), none, none, some ((.aload_n 0), 1, 0, 0, 0, 0), some ((.bipush (20)), 2, 0, 0, 0, 20), none, some ((.newarray .boolean), 2, 2, 0, 0, 0), none, some ((.putfield 32), 3, 21, 11, 1, 0), none, none, some ((.aload_n 0), 1, 0, 0, 0, 0), some ((.bipush (20)), 2, 0, 0, 0, 20), none, some ((.newarray .int), 2, 1, 0, 0, 0), none, some ((.putfield 35), 3, 21, 12, 1, 0), none, none, some ((.aload_n 0), 1, 0, 0, 0, 0), some ((.bipush (10)), 2, 0, 0, 0, 10), none, some ((.newarray .int), 2, 1, 0, 0, 0), none, some ((.putfield 38), 3, 21, 13, 1, 0), none, none, some ((.aload_n 0), 1, 0, 0, 0, 0), some ((.bipush (10)), 2, 0, 0, 0, 10), none, some ((.newarray .int), 2, 1, 0, 0, 0), none, some ((.putfield 41), 3, 21, 14, 1, 0), none, none, some ((.aload_n 0), 1, 0, 0, 0, 0), some ((.iconst (5)), 1, 0, 0, 0, 5), some ((.newarray .int), 2, 1, 0, 0, 0), none, some ((.putfield 44), 3, 21, 15, 1, 0), none, none, some ((.aload_n 0), 1, 0, 0, 0, 0), some ((.bipush (12)), 2, 0, 0, 0, 12), none, some ((.newarray .int), 2, 1, 0, 0, 0), none, some ((.putfield 47), 3, 21, 17, 1, 0), none, none, some ((.aload_n 0), 1, 0, 0, 0, 0), some ((.bipush (12)), 2, 0, 0, 0, 12), none, some ((.newarray .int), 2, 1, 0, 0, 0), none, some ((.putfield 50), 3, 21, 18, 1, 0), none, none, some ((.aload_n 0), 1, 0, 0, 0, 0), some ((.bipush (12)), 2, 0, 0, 0, 12), none, some ((.newarray .int), 2, 1, 0, 0, 0), none, some ((.putfield 53), 3, 21, 19, 1, 0), none, none, some ((.aload_n 0), 1, 0, 0, 0, 0), some ((.bipush (12)), 2, 0, 0, 0, 12), none, some ((.newarray .int), 2, 1, 0, 0, 0), none, some ((.putfield 56), 3, 21, 20, 1, 0), none, none, some ((.aload_n 0), 1, 0, 0, 0, 0), some ((.bipush (12)), 2, 0, 0, 0, 12), none, some ((.newarray .int), 2, 1, 0, 0, 0), none, some ((.putfield 59), 3, 21, 21, 1, 0), none, none, some ((.aload_n 0), 1, 0, 0, 0, 0), some ((.bipush (12)), 2, 0, 0, 0, 12), none, some ((.newarray .int), 2, 1, 0, 0, 0), none, some ((.putfield 62), 3, 21, 22, 1, 0), none, none, some ((.aload_n 0), 1, 0, 0, 0, 0), some ((.bipush (12)), 2, 0, 0, 0, 12), none, some ((.newarray .int), 2, 1, 0, 0, 0), none, some ((.putfield 65), 3, 21, 23, 1, 0), none, none, some ((.aload_n 0), 1, 0, 0, 0, 0), some ((.sipush (520)), 3, 0, 0, 0, 520), none, none, some ((.newarray .int), 2, 1, 0, 0, 0), none, some ((.putfield 68), 3, 21, 25, 1, 0), none, none, some ((.aload_n 0), 1, 0, 0, 0, 0), some ((.sipush (520)), 3, 0, 0, 0, 520), none, none, some ((.newarray .int), 2, 1, 0, 0, 0), none, some ((.putfield 71), 3, 21, 26, 1, 0), none, none, some ((.aload_n 0), 1, 0, 0, 0, 0), some ((.sipush (192)), 3, 0, 0, 0, 192), none, none, some ((.newarray .int), 2, 1, 0, 0, 0), none, some ((.putfield 74), 3, 21, 28, 1, 0), none, none, some ((.aload_n 0), 1, 0, 0, 0, 0), some ((.bipush (8)), 2, 0, 0, 0, 8), none, some ((.newarray .int), 2, 1, 0, 0, 0), none, some ((.putfield 77), 3, 21, 29, 1, 0), none, none, some ((.aload_n 0), 1, 0, 0, 0, 0), some ((.iload_n 1), 1, 0, 0, 0, 0), some ((.iconst (2)), 1, 0, 0, 0, 2), some ((.if_icmp .ge (7)), 3, 198, 0, 0, 0), none, none, some ((.iconst (2)), 1, 0, 0, 0, 2), some ((.goto (13)), 3, 208, 0, 0, 0), none, none, some ((.iload_n 1), 1, 0, 0, 0, 0), some ((.iconst (4)), 1, 0, 0, 0, 4), some ((.if_icmp .le (7)), 3, 207, 0, 0, 0), none, none, some ((.iconst (4)), 1, 0, 0, 0, 4), some ((.goto (4)), 3, 208, 0, 0, 0), none, none, some ((.iload_n 1), 1, 0, 0, 0, 0), some ((.putfield 80), 3, 21, 0, 0, 0), none, none, some ((.iconst (0)), 1, 0, 0, 0, 0), some ((.istore_n 2), 1, 0, 0, 0, 0), some ((.iload_n 2), 1, 0, 0, 0, 0), some ((.bipush (10)), 2, 0, 0, 0, 10), none, some ((.if_icmp .ge (16)), 3, 232, 0, 0, 0), none, none, some ((.aload_n 0), 1, 0, 0, 0, 0), some ((.getfield 38), 3, 21, 13, 1, 0), none, none, some ((.iload_n 2), 1, 0, 0, 0, 0), some ((.iconst (-1)), 1, 0, 0, 0, -1), some (.iastore, 1, 0, 0, 0, 0), some ((.iinc 2 (1)), 3, 0, 0, 0, 1), none, none, some ((.goto (-16)), 3, 213, 0, 0, 0), none, none, some (.return_, 1, 0, 0, 0, 0)]
def zt75 : List (Option zE) := [some ((.iload_n 0), 1, 0, 0, 0, 0), some ((.iload_n 1), 1, 0, 0, 0, 0), some ((.if_icmp .lt (8)), 3, 10, 0, 0, 0), none, none, some ((.iload_n 0), 1, 0, 0, 0, 0), some ((.iload_n 2), 1, 0, 0, 0, 0), some ((.if_icmp .le (7)), 3, 14, 0, 0, 0), none, none, some ((.iconst (1)), 1, 0, 0, 0, 1), some ((.goto (4)), 3, 15, 0, 0, 0), none, none, some ((.iconst (0)), 1, 0, 0, 0, 0), some (.ireturn, 1, 0, 0, 0, 0)]
def zt76 : List (Option zE) := [some ((.iload_n 1), 1, 0, 0, 0, 0), some ((.iconst (1)), 1, 0, 0, 0, 1), some ((.aload_n 0), 1, 0, 0, 0, 0), some ((.getfield 80), 3, 21, 0, 0, 0), none, none, some ((.invokestatic 84), 3, 75, 3, 0, 0), none, none, some ((.ifCond .ne (7)), 3, 16, 0, 0, 0), none, none, some ((.iconst (1)), 1, 0, 0, 0, 1), some ((.goto (4)), 3, 17, 0, 0, 0), none, none, some ((.iconst (0)), 1, 0, 0, 0, 0), some (.ireturn, 1, 0, 0, 0, 0)]
def zt77 : List (Option zE) := [some ((.iconst (1)), 1, 0, 0, 0, 1), some ((.istore_n 1), 1, 0, 0, 0, 0), some ((.iconst (0)), 1, 0, 0, 0, 0), some ((.istore_n 2), 1, 0, 0, 0, 0), some ((.iload_n 2), 1, 0, 0, 0, 0), some ((.iload_n 0), 1, 0, 0, 0, 0), some ((.if_icmp .ge (14)), 3, 20, 0, 0, 0), none, none, some ((.iload_n 1), 1, 0, 0, 0, 0), some ((.bipush (10)), 2, 0, 0, 0, 10), none, some (.imul, 1, 0, 0, 0, 0), some ((.istore_n 1), 1, 0, 0, 0, 0), some ((.iinc 2 (1)), 3, 0, 0, 0, 1), none, none, some ((.goto (-13)), 3, 4, 0, 0, 0), none, none, some ((.iload_n 1), 1, 0, 0, 0, 0), some (.ireturn, 1, 0, 0, 0, 0)]
def zt78 : List (Option zE) := [some ((.iload_n 1), 1, 0, 0, 0, 0), some ((.iconst (0)), 1, 0, 0, 0, 0), some ((.iconst (3)), 1, 0, 0, 0, 3), some ((.invokestatic 84), 3, 75, 3, 0, 0), none, none, some ((.ifCond .ne (13)), 3, 19, 0, 0, 0), none, none, some ((.iload_n 2), 1, 0, 0, 0, 0), some ((.iconst (0)), 1, 0, 0, 0, 0), some ((.ldc 88), 2, 0, 0, 0, 99999), none, some ((.invokestatic 84), 3, 75, 3, 0, 0), none, none, some ((.ifCond .eq (5)), 3, 21, 0, 0, 0), none, none, some ((.iconst (0)), 1, 0, 0, 0, 0), some (.ireturn, 1, 0, 0, 0, 0), some ((.aload_n 0), 1, 0, 0, 0, 0), some ((.getfield 7), 3, 21, 2, 1, 0), none, none, some ((.iload_n 1), 1, 0, 0, 0, 0), some ((.iload_n 2), 1, 0, 0, 0, 0), some (.iastore, 1, 0, 0, 0, 0), some ((.iconst (1)), 1, 0, 0, 0, 1), some (.ireturn, 1, 0, 0, 0, 0)]
def zt79 : List (Option zE) := [some ((.iload_n 2), 1, 0, 0, 0, 0), some ((.iconst (0)), 1, 0, 0, 0, 0), some ((.iconst (5)), 1, 0, 0, 0, 5), some ((.invokestatic 84), 3, 75, 3, 0, 0), none, none, some ((.ifCond .ne (15)), 3, 21, 0, 0, 0), none, none, some ((.iload_n 1), 1, 0, 0, 0, 0), some ((.ifCond .lt (11)), 3, 21, 0, 0, 0), none, none, some ((.iload_n 1), 1, 0, 0, 0, 0), some ((.iload_n 2), 1, 0, 0, 0, 0), some ((.invokestatic 89), 3, 77, 1, 0, 0), none, none, some ((.if_icmp .lt (5)), 3, 23, 0, 0, 0), none, none, some ((.iconst (0)), 1, 0, 0, 0, 0), some (.ireturn, 1, 0, 0, 0, 0), some ((.iconst (0)), 1, 0, 0, 0, 0), some ((.istore 4), 2, 0, 0, 0, 0), none, some ((.iload 4), 2, 0, 0, 0, 0), none, some ((.aload_n 0), 1, 0, 0, 0, 0), some ((.getfield 93), 3, 21, 4, 0, 0), none, none, some ((.if_icmp .ge (31)), 3, 63, 0, 0, 0), none, none, some ((.aload_n 0), 1, 0, 0, 0, 0), some ((.getfield 16), 3, 21, 5, 1, 0), none, none, some ((.iload 4), 2, 0, 0, 0, 0), none, some (.iaload, 1, 0, 0, 0, 0), some ((.iload_n 1), 1, 0, 0, 0, 0), some ((.if_icmp .ne (14)), 3, 57, 0, 0, 0), none, none, some ((.aload_n 0), 1, 0, 0, 0, 0), some ((.getfield 19), 3, 21, 6, 1, 0), none, none, some ((.iload 4), 2, 0, 0, 0, 0), none, some (.iaload, 1, 0, 0, 0, 0), some ((.iload_n 2), 1, 0, 0, 0, 0), some ((.if_icmp .eq (9)), 3, 63, 0, 0, 0), none, none, some ((.iinc 4 (1)), 3, 0, 0, 0, 1), none, none, some ((.goto (-34)), 3, 26, 0, 0, 0), none, none, some ((.iload 4), 2, 0, 0, 0, 0), none, some ((.bipush (6)), 2, 0, 0, 0, 6), none, some ((.if_icmp .ne (5)), 3, 72, 0, 0, 0), none, none, some ((.iconst (0)), 1, 0, 0, 0, 0), some (.ireturn, 1, 0, 0, 0, 0), some ((.aload_n 0), 1, 0, 0, 0, 0), some ((.getfield 16), 3, 21, 5, 1, 0), none, none, some ((.iload 4), 2, 0, 0, 0, 0), none, some ((.iload_n 1), 1, 0, 0, 0, 0), some (.iastore, 1, 0, 0, 0, 0), some ((.aload_n 0), 1, 0, 0, 0, 0), some ((.getfield 19), 3, 21, 6, 1, 0), none, none, some ((.iload 4), 2, 0, 0, 0, 0), none, some ((.iload_n 2), 1, 0, 0, 0, 0), some (.iastore, 1, 0, 0, 0, 0), some ((.aload_n 0), 1, 0, 0, 0, 0), some ((.getfield 22), 3, 21, 7, 1, 0), none, none, some ((.iload 4), 2, 0, 0, 0, 0), none, some ((.iload_n 3), 1, 0, 0, 0, 0), some (.bastore, 1, 0, 0, 0, 0), some ((.aload_n 0), 1, 0, 0, 0, 0), some ((.iload 4), 2, 0, 0, 0, 0), none, some ((.aload_n 0), 1, 0, 0, 0, 0), some ((.getfield 93), 3, 21, 4, 0, 0), none, none, some ((.if_icmp .ne (12)), 3, 115, 0, 0, 0), none, none, some ((.aload_n 0), 1, 0, 0, 0, 0), some ((.getfield 93), 3, 21, 4, 0, 0), none, none, some ((.iconst (1)), 1, 0, 0, 0, 1), some (.iadd, 1, 0, 0, 0, 0), some ((.goto (7)), 3, 119, 0, 0, 0), none, none, some ((.aload_n 0), 1, 0, 0, 0, 0), some ((.getfield 93), 3, 21, 4, 0, 0), none, none, some ((.putfield 93), 3, 21, 4, 0, 0), none, none, some ((.iconst (1)), 1, 0, 0, 0, 1), some (.ireturn, 1, 0, 0, 0, 0)]
def zt80 : List (Option zE) := [some ((.iconst (-1)), 1, 0, 0, 0, -1), some ((.istore_n 2), 1, 0, 0, 0, 0), some ((.iconst (0)), 1, 0, 0, 0, 0), some ((.istore_n 3), 1, 0, 0, 0, 0), some ((.iconst (0)), 1, 0, 0, 0, 0), some ((.istore 4), 2, 0, 0, 0, 0), none, some ((.iload 4), 2, 0, 0, 0, 0), none, some ((.aload_n 0), 1, 0, 0, 0, 0), some ((.getfield 93), 3, 21, 4, 0, 0), none, none, some ((.if_icmp .ge (65)), 3, 78, 0, 0, 0), none, none, some ((.aload_n 0), 1, 0, 0, 0, 0), some ((.getfield 7), 3, 21, 2, 1, 0), none, none, some ((.iload_n 1), 1, 0, 0, 0, 0), some (.iaload, 1, 0, 0, 0, 0), some ((.iconst (5)), 1, 0, 0, 0, 5), some ((.aload_n 0), 1, 0, 0, 0, 0), some ((.getfield 19), 3, 21, 6, 1, 0), none, none, some ((.iload 4), 2, 0, 0, 0, 0), none, some (.iaload, 1, 0, 0, 0, 0), some (.isub, 1, 0, 0, 0, 0), some ((.invokestatic 89), 3, 77, 1, 0, 0), none, none, some (.idiv, 1, 0, 0, 0, 0), some ((.aload_n 0), 1, 0, 0, 0, 0), some ((.getfield 16), 3, 21, 5, 1, 0), none, none, some ((.iload 4), 2, 0, 0, 0, 0), none, some (.iaload, 1, 0, 0, 0, 0), some ((.if_icmp .ne (30)), 3, 72, 0, 0, 0), none, none, some ((.aload_n 0), 1, 0, 0, 0, 0), some ((.getfield 19), 3, 21, 6, 1, 0), none, none, some ((.iload 4), 2, 0, 0, 0, 0), none, some (.iaload, 1, 0, 0, 0, 0), some ((.iload_n 2), 1, 0, 0, 0, 0), some ((.if_icmp .le (19)), 3, 72, 0, 0, 0), none, none, some ((.aload_n 0), 1, 0, 0, 0, 0), some ((.getfield 19), 3, 21, 6, 1, 0), none, none, some ((.iload 4), 2, 0, 0, 0, 0), none, some (.iaload, 1, 0, 0, 0, 0), some ((.istore_n 2), 1, 0, 0, 0, 0), some ((.aload_n 0), 1, 0, 0, 0, 0), some ((.getfield 22), 3, 21, 7, 1, 0), none, none, some ((.iload 4), 2, 0, 0, 0, 0), none, some (.baload, 1, 0, 0, 0, 0), some ((.istore_n 3), 1, 0, 0, 0, 0), some ((.iinc 4 (1)), 3, 0, 0, 0, 1), none, none, some ((.goto (-68)), 3, 7, 0, 0, 0), none, none, some ((.iload_n 3), 1, 0, 0, 0, 0), some (.ireturn, 1, 0, 0, 0, 0)]
def zt81 : List (Option zE) := [some ((.iconst (0)), 1, 0, 0, 0, 0), some ((.istore_n 2), 1, 0, 0, 0, 0), some ((.iconst (0)), 1, 0, 0, 0, 0), some ((.istore_n 3), 1, 0, 0, 0, 0), some ((.iload_n 3), 1, 0, 0, 0, 0), some ((.aload_n 0), 1, 0, 0, 0, 0), some ((.getfield 96), 3, 21, 16, 0, 0), none, none, some ((.if_icmp .ge (27)), 3, 36, 0, 0, 0), none, none, some ((.aload_n 0), 1, 0, 0, 0, 0), some ((.getfield 47), 3, 21, 17, 1, 0), none, none, some ((.iload_n 3), 1, 0, 0, 0, 0), some (.iaload, 1, 0, 0, 0, 0), some ((.iload_n 1), 1, 0, 0, 0, 0), some ((.if_icmp .ne (9)), 3, 28, 0, 0, 0), none, none, some ((.iload_n 2), 1, 0, 0, 0, 0), some ((.iconst (1)), 1, 0, 0, 0, 1), some (.iadd, 1, 0, 0, 0, 0), some ((.goto (4)), 3, 29, 0, 0, 0), none, none, some ((.iload_n 2), 1, 0, 0, 0, 0), some ((.istore_n 2), 1, 0, 0, 0, 0), some ((.iinc 3 (1)), 3, 0, 0, 0, 1), none, none, some ((.goto (-29)), 3, 4, 0, 0, 0), none, none, some ((.iload_n 2), 1, 0, 0, 0, 0), some (.ireturn, 1, 0, 0, 0, 0)]
def zt82 : List (Option zE) := [some ((.iconst (0)), 1, 0, 0, 0, 0), some ((.istore_n 3), 1, 0, 0, 0, 0), some ((.iload_n 3), 1, 0, 0, 0, 0), some ((.aload_n 0), 1, 0, 0, 0, 0), some ((.getfield 96), 3, 21, 16, 0, 0), none, none, some ((.if_icmp .ge (31)), 3, 38, 0, 0, 0), none, none, some ((.aload_n 0), 1, 0, 0, 0, 0), some ((.getfield 47), 3, 21, 17, 1, 0), none, none, some ((.iload_n 3), 1, 0, 0, 0, 0), some (.iaload, 1, 0, 0, 0, 0), some ((.iload_n 1), 1, 0, 0, 0, 0), some ((.if_icmp .ne (15)), 3, 32, 0, 0, 0), none, none, some ((.aload_n 0), 1, 0, 0, 0, 0), some ((.getfield 50), 3, 21, 18, 1, 0), none, none, some ((.iload_n 3), 1, 0, 0, 0, 0), some (.iaload, 1, 0, 0, 0, 0), some ((.iload_n 2), 1, 0, 0, 0, 0), some ((.if_icmp .ne (5)), 3, 32, 0, 0, 0), none, none, some ((.iload_n 3), 1, 0, 0, 0, 0), some (.ireturn, 1, 0, 0, 0, 0), some ((.iinc 3 (1)), 3, 0, 0, 0, 1), none, none, some ((.goto (-33)), 3, 2, 0, 0, 0), none, none, some ((.iconst (-1)), 1, 0, 0, 0, -1), some (.ireturn, 1, 0, 0, 0, 0)]
def zt83 : List (Option zE) := [some ((.iconst (0)), 1, 0, 0, 0, 0), some ((.istore 5), 2, 0, 0, 0, 0), none, some ((.iload 5), 2, 0, 0, 0, 0), none, some ((.aload_n 0), 1, 0, 0, 0, 0), some ((.getfield 96), 3, 21, 16, 0, 0), none, none, some ((.if_icmp .ge (57)), 3, 66, 0, 0, 0), none, none, some ((.aload_n 0), 1, 0, 0, 0, 0), some ((.getfield 47), 3, 21, 17, 1, 0), none, none, some ((.iload 5), 2, 0, 0, 0, 0), none, some (.iaload, 1, 0, 0, 0, 0), some ((.iload_n 1), 1, 0, 0, 0, 0), some ((.if_icmp .ne (40)), 3, 60, 0, 0, 0), none, none, some ((.aload_n 0), 1, 0, 0, 0, 0), some ((.getfield 53), 3, 21, 19, 1, 0), none, none, some ((.iload 5), 2, 0, 0, 0, 0), none, some (.iaload, 1, 0, 0, 0, 0), some ((.iload_n 2), 1, 0, 0, 0, 0), some ((.if_icmp .ne (29)), 3, 60, 0, 0, 0), none, none, some ((.aload_n 0), 1, 0, 0, 0, 0), some ((.getfield 56), 3, 21, 20, 1, 0), none, none, some ((.iload 5), 2, 0, 0, 0, 0), none, some (.iaload, 1, 0, 0, 0, 0), some ((.iload_n 3), 1, 0, 0, 0, 0), some ((.if_icmp .ne (18)), 3, 60, 0, 0, 0), none, none, some ((.aload_n 0), 1, 0, 0, 0, 0), some ((.getfield 59), 3, 21, 21, 1, 0), none, none, some ((.iload 5), 2, 0, 0, 0, 0), none, some (.iaload, 1, 0, 0, 0, 0), some ((.iload 4), 2, 0, 0, 0, 0), none, some ((.if_icmp .ne (6)), 3, 60, 0, 0, 0), none, none, some ((.iload 5), 2, 0, 0, 0, 0), none, some (.ireturn, 1, 0, 0, 0, 0), some ((.iinc 5 (1)), 3, 0, 0, 0, 1), none, none, some ((.goto (-60)), 3, 3, 0, 0, 0), none, none, some ((.iconst (-1)), 1, 0, 0, 0, -1), some (.ireturn, 1, 0, 0, 0, 0)]
def zt84 : List (Option zE) := [some ((.aload_n 0), 1, 0, 0, 0, 0), some ((.getfield 44), 3, 21, 15, 1, 0), none, none, some ((.iload_n 1), 1, 0, 0, 0, 0), some (.dup2, 1, 0, 0, 0, 0), some (.iaload, 1, 0, 0, 0, 0), some ((.iconst (1)), 1, 0, 0, 0, 1), some (.iadd, 1, 0, 0, 0, 0), some (.iastore, 1, 0, 0, 0, 0), some ((.aload_n 0), 1, 0, 0, 0, 0), some ((.getfield 47), 3, 21, 17, 1, 0), none, none, some ((.aload_n 0), 1, 0, 0, 0, 0), some ((.getfield 96), 3, 21, 16, 0, 0), none, none, some ((.iload_n 1), 1, 0, 0, 0, 0), some (.iastore, 1, 0, 0, 0, 0), some ((.aload_n 0), 1, 0, 0, 0, 0), some ((.getfield 50), 3, 21, 18, 1, 0), none, none, some ((.aload_n 0), 1, 0, 0, 0, 0), some ((.getfield 96), 3, 21, 16, 0, 0), none, none, some ((.aload_n 0), 1, 0, 0, 0, 0), some ((.getfield 44), 3, 21, 15, 1, 0), none, none, some ((.iload_n 1), 1, 0, 0, 0, 0), some (.iaload, 1, 0, 0, 0, 0), some (.iastore, 1, 0, 0, 0, 0), some ((.aload_n 0), 1, 0, 0, 0, 0), some ((.getfield 53), 3, 21, 19, 1, 0), none, none, some ((.aload_n 0), 1, 0, 0, 0, 0), some ((.getfield 96), 3, 21, 16, 0, 0), none, none, some ((.iload_n 2), 1, 0, 0, 0, 0), some (.iastore, 1, 0, 0, 0, 0), some ((.aload_n 0), 1, 0, 0, 0, 0), some ((.getfield 56), 3, 21, 20, 1, 0), none, none, some ((.aload_n 0), 1, 0, 0, 0, 0), some ((.getfield 96), 3, 21, 16, 0, 0), none, none, some ((.iload_n 3), 1, 0, 0, 0, 0), some (.iastore, 1, 0, 0, 0, 0), some ((.aload_n 0), 1, 0, 0, 0, 0), some ((.getfield 59), 3, 21, 21, 1, 0), none, none, some ((.aload_n 0), 1, 0, 0, 0, 0), some ((.getfield 96), 3, 21, 16, 0, 0), none, none, some ((.iload 4), 2, 0, 0, 0, 0), none, some (.iastore, 1, 0, 0, 0, 0), some ((.aload_n 0), 1, 0, 0, 0, 0), some ((.getfield 62), 3, 21, 22, 1, 0), none, none, some ((.aload_n 0), 1, 0, 0, 0, 0), some ((.getfield 96), 3, 21, 16, 0, 0), none, none, some ((.aload_n 0), 1, 0, 0, 0, 0), some ((.getfield 99), 3, 21, 1, 0, 0), none, none, some ((.iload 5), 2, 0, 0, 0, 0), none, some (.iadd, 1, 0, 0, 0, 0), some (.iastore, 1, 0, 0, 0, 0), some ((.aload_n 0), 1, 0, 0, 0, 0), some ((.getfield 65), 3, 21, 23, 1, 0), none, none, some ((.aload_n 0), 1, 0, 0, 0, 0), some ((.getfield 96), 3, 21, 16, 0, 0), none, none, some ((.iconst (0)), 1, 0, 0, 0, 0), some (.iastore, 1, 0, 0, 0, 0), some ((.aload_n 0), 1, 0, 0, 0, 0), some (.dup, 1, 0, 0, 0, 0), some ((.getfield 96), 3, 21, 16, 0, 0), none, none, some ((.iconst (1)), 1, 0, 0, 0, 1), some (.iadd, 1, 0, 0, 0, 0), some ((.putfield 96), 3, 21, 16, 0, 0), none, none, some ((.aload_n 0), 1, 0, 0, 0, 0), some ((.getfield 44), 3, 21, 15, 1, 0), none, none, some ((.iload_n 1), 1, 0, 0, 0, 0), some (.iaload, 1, 0, 0, 0, 0), some (.ireturn, 1, 0, 0, 0, 0)]
def zt85 : List (Option zE) := [some ((.aload_n 0), 1, 0, 0, 0, 0), some (.dup, 1, 0, 0, 0, 0), some ((.getfield 96), 3, 21, 16, 0, 0), none, none, some ((.iconst (1)), 1, 0, 0, 0, 1), some (.isub, 1, 0, 0, 0, 0), some ((.putfield 96), 3, 21, 16, 0, 0), none, none, some ((.iload_n 1), 1, 0, 0, 0, 0), some ((.istore_n 2), 1, 0, 0, 0, 0), some ((.iload_n 2), 1, 0, 0, 0, 0), some ((.aload_n 0), 1, 0, 0, 0, 0), some ((.getfield 96), 3, 21, 16, 0, 0), none, none, some ((.if_icmp .ge (107)), 3, 124, 0, 0, 0), none, none, some ((.aload_n 0), 1, 0, 0, 0, 0), some ((.getfield 47), 3, 21, 17, 1, 0), none, none, some ((.iload_n 2), 1, 0, 0, 0, 0), some ((.aload_n 0), 1, 0, 0, 0, 0), some ((.getfield 47), 3, 21, 17, 1, 0), none, none, some ((.iload_n 2), 1, 0, 0, 0, 0), some ((.iconst (1)), 1, 0, 0, 0, 1), some (.iadd, 1, 0, 0, 0, 0), some (.iaload, 1, 0, 0, 0, 0), some (.iastore, 1, 0, 0, 0, 0), some ((.aload_n 0), 1, 0, 0, 0, 0), some ((.getfield 50), 3, 21, 18, 1, 0), none, none, some ((.iload_n 2), 1, 0, 0, 0, 0), some ((.aload_n 0), 1, 0, 0, 0, 0), some ((.getfield 50), 3, 21, 18, 1, 0), none, none, some ((.iload_n 2), 1, 0, 0, 0, 0), some ((.iconst (1)), 1, 0, 0, 0, 1), some (.iadd, 1, 0, 0, 0, 0), some (.iaload, 1, 0, 0, 0, 0), some (.iastore, 1, 0, 0, 0, 0), some ((.aload_n 0), 1, 0, 0, 0, 0), some ((.getfield 53), 3, 21, 19, 1, 0), none, none, some ((.iload_n 2), 1, 0, 0, 0, 0), some ((.aload_n 0), 1, 0, 0, 0, 0), some ((.getfield 53), 3, 21, 19, 1, 0), none, none, some ((.iload_n 2), 1, 0, 0, 0, 0), some ((.iconst (1)), 1, 0, 0, 0, 1), some (.iadd, 1, 0, 0, 0, 0), some (.iaload, 1, 0, 0, 0, 0), some (.iastore, 1, 0, 0, 0, 0), some ((.aload_n 0), 1, 0, 0, 0, 0), some ((.getfield 56), 3, 21, 20, 1, 0), none, none, some ((.iload_n 2), 1, 0, 0, 0, 0), some ((.aload_n 0), 1, 0, 0, 0, 0), some ((.getfield 56), 3, 21, 20, 1, 0), none, none, some ((.iload_n 2), 1, 0, 0, 0, 0), some ((.iconst (1)), 1, 0, 0, 0, 1), some (.iadd, 1, 0, 0, 0, 0), some (.iaload, 1, 0, 0, 0, 0), some (.iastore, 1, 0, 0, 0, 0), some ((.aload_n 0), 1, 0, 0, 0, 0), some ((.getfield 59), 3, 21, 21, 1, 0), none, none, some ((.iload_n 2), 1, 0, 0, 0, 0), some ((.aload_n 0), 1, 0, 0, 0, 0), some ((.getfield 59), 3, 21, 21, 1, 0), none, none, some ((.iload_n 2), 1, 0, 0, 0, 0), some ((.iconst (1)), 1, 0, 0, 0, 1), some (.iadd, 1, 0, 0, 0, 0), some (.iaload, 1, 0, 0, 0, 0), some (.iastore, 1, 0, 0, 0, 0), some ((.aload_n 0), 1, 0, 0, 0, 0), some ((.getfield 62), 3, 21, 22, 1, 0), none, none, some ((.iload_n 2), 1, 0, 0, 0, 0), some ((.aload_n 0), 1, 0, 0, 0, 0), some ((.getfield 62), 3, 21, 22, 1, 0), none, none, some ((.iload_n 2), 1, 0, 0, 0, 0), some ((.iconst (1)), 1, 0, 0, 0, 1), some (.iadd, 1, 0, 0, 0, 0), some (.iaload, 1, 0, 0, 0, 0), some (.iastore, 1, 0, 0, 0, 0), some ((.aload_n 0), 1, 0, 0, 0, 0), some ((.getfield 65), 3, 21, 23, 1, 0), none, none, some ((.iload_n 2), 1, 0, 0, 0, 0), some ((.aload_n 0), 1, 0, 0, 0, 0), some ((.getfield 65), 3, 21, 23, 1, 0), none, none, some ((.iload_n 2), 1, 0, 0, 0, 0), some ((.iconst (1)), 1, 0, 0, 0, 1), some (.iadd, 1, 0, 0, 0, 0), some (.iaload, 1, 0, 0, 0, 0), some (.iastore, 1, 0, 0, 0, 0), some ((.iinc 2 (1)), 3, 0, 0, 0, 1), none, none, some ((.goto (-109)), 3, 12, 0, 0, 0), none, none, some (.return_, 1, 0, 0, 0, 0)]
def zt86 : List (Option zE) := [some ((.aload_n 0), 1, 0, 0, 0, 0), some ((.getfield 53), 3, 21, 19, 1, 0), none, none, some ((.iload_n 1), 1, 0, 0, 0, 0), some (.iaload, 1, 0, 0, 0, 0), some ((.ifCond .ne (24)), 3, 30, 0, 0, 0), none, none, some ((.aload_n 0), 1, 0, 0, 0, 0), some ((.getfield 35), 3, 21, 12, 1, 0), none, none, some ((.iconst (4)), 1, 0, 0, 0, 4), some ((.aload_n 0), 1, 0, 0, 0, 0), some ((.getfield 47), 3, 21, 17, 1, 0), none, none, some ((.iload_n 1), 1, 0, 0, 0, 0), some (.iaload, 1, 0, 0, 0, 0), some (.imul, 1, 0, 0, 0, 0), some ((.aload_n 0), 1, 0, 0, 0, 0), some ((.getfield 56), 3, 21, 20, 1, 0), none, none, some ((.iload_n 1), 1, 0, 0, 0, 0), some (.iaload, 1, 0, 0, 0, 0), some (.iadd, 1, 0, 0, 0, 0), some ((.iload_n 2), 1, 0, 0, 0, 0), some (.iastore, 1, 0, 0, 0, 0), some ((.aload_n 0), 1, 0, 0, 0, 0), some ((.iload_n 1), 1, 0, 0, 0, 0), some ((.invokevirtual 102), 3, 85, 1, 21, 0), none, none, some (.return_, 1, 0, 0, 0, 0)]
def zt87 : List (Option zE) := [some ((.aload_n 0), 1, 0, 0, 0, 0), some ((.getfield 106), 3, 21, 27, 0, 0), none, none, some ((.bipush (24)), 2, 0, 0, 0, 24), none, some ((.if_icmp .ne (4)), 3, 10, 0, 0, 0), none, none, some (.return_, 1, 0, 0, 0, 0), some ((.aload_n 0), 1, 0, 0, 0, 0), some ((.getfield 74), 3, 21, 28, 1, 0), none, none, some ((.bipush (8)), 2, 0, 0, 0, 8), none, some ((.aload_n 0), 1, 0, 0, 0, 0), some ((.getfield 106), 3, 21, 27, 0, 0), none, none, some (.imul, 1, 0, 0, 0, 0), some ((.iload_n 1), 1, 0, 0, 0, 0), some (.iastore, 1, 0, 0, 0, 0), some ((.aload_n 0), 1, 0, 0, 0, 0), some ((.getfield 74), 3, 21, 28, 1, 0), none, none, some ((.bipush (8)), 2, 0, 0, 0, 8), none, some ((.aload_n 0), 1, 0, 0, 0, 0), some ((.getfield 106), 3, 21, 27, 0, 0), none, none, some (.imul, 1, 0, 0, 0, 0), some ((.iconst (1)), 1, 0, 0, 0, 1), some (.iadd, 1, 0, 0, 0, 0), some ((.iload_n 2), 1, 0, 0, 0, 0), some (.iastore, 1, 0, 0, 0, 0), some ((.aload_n 0), 1, 0, 0, 0, 0), some ((.getfield 74), 3, 21, 28, 1, 0), none, none, some ((.bipush (8)), 2, 0, 0, 0, 8), none, some ((.aload_n 0), 1, 0, 0, 0, 0), some ((.getfield 106), 3, 21, 27, 0, 0), none, none, some (.imul, 1, 0, 0, 0, 0), some ((.iconst (2)), 1, 0, 0, 0, 2), some (.iadd, 1, 0, 0, 0, 0), some ((.iload_n 3), 1, 0, 0, 0, 0), some ((.bipush (10)), 2, 0, 0, 0, 10), none, some (.idiv, 1, 0, 0, 0, 0), some (.iastore, 1, 0, 0, 0, 0), some ((.aload_n 0), 1, 0, 0, 0, 0), some ((.getfield 74), 3, 21, 28, 1, 0), none, none, some ((.bipush (8)), 2, 0, 0, 0, 8), none, some ((.aload_n 0), 1, 0, 0, 0, 0), some ((.getfield 106), 3, 21, 27, 0, 0), none, none, some (.imul, 1, 0, 0, 0, 0), some ((.iconst (3)), 1, 0, 0, 0, 3), some (.iadd, 1, 0, 0, 0, 0), some ((.iload_n 3), 1, 0, 0, 0, 0), some ((.bipush (10)), 2, 0, 0, 0, 10), none, some (.irem, 1, 0, 0, 0, 0), some (.iastore, 1, 0, 0, 0, 0), some ((.aload_n 0), 1, 0, 0, 0, 0), some ((.getfield 74), 3, 21, 28, 1, 0), none, none, some ((.bipush (8)), 2, 0, 0, 0, 8), none, some ((.aload_n 0), 1, 0, 0, 0, 0), some ((.getfield 106), 3, 21, 27, 0, 0), none, none, some (.imul, 1, 0, 0, 0, 0), some ((.iconst (4)), 1, 0, 0, 0, 4), some (.iadd, 1, 0, 0, 0, 0), some ((.iload 4), 2, 0, 0, 0, 0), none, some (.iastore, 1, 0, 0, 0, 0), some ((.aload_n 0), 1, 0, 0, 0, 0), some ((.getfield 74), 3, 21, 28, 1, 0), none, none, some ((.bipush (8)), 2, 0, 0, 0, 8), none, some ((.aload_n 0), 1, 0, 0, 0, 0), some ((.getfield 106), 3, 21, 27, 0, 0), none, none, some (.imul, 1, 0, 0, 0, 0), some ((.iconst (5)), 1, 0, 0, 0, 5), some (.iadd, 1, 0, 0, 0, 0), some ((.iload 5), 2, 0, 0, 0, 0), none, some (.iastore, 1, 0, 0, 0, 0), some ((.aload_n 0), 1, 0, 0, 0, 0), some ((.getfield 74), 3, 21, 28, 1, 0), none, none, some ((.bipush (8)), 2, 0, 0, 0, 8), none, some ((.aload_n 0), 1, 0, 0, 0, 0), some ((.getfield 106), 3, 21, 27, 0, 0), none, none, some (.imul, 1, 0, 0, 0, 0), some ((.bipush (6)), 2, 0, 0, 0, 6), none, some (.iadd, 1, 0, 0, 0, 0), some ((.iload 6), 2, 0, 0, 0, 0), none, some (.iastore, 1, 0, 0, 0, 0), some ((.aload_n 0), 1, 0, 0, 0, 0), some ((.getfield 74), 3, 21, 28, 1, 0), none, none, some ((.bipush (8)), 2, 0, 0, 0, 8), none, some ((.aload_n 0), 1, 0, 0, 0, 0), some ((.getfield 106), 3, 21, 27, 0, 0), none, none, some (.imul, 1, 0, 0, 0, 0), some ((.bipush (7)), 2, 0, 0, 0, 7), none, some (.iadd, 1, 0, 0, 0, 0), some ((.iload 7), 2, 0, 0, 0, 0), none, some (.iastore, 1, 0, 0, 0, 0), some ((.aload_n 0), 1, 0, 0, 0, 0), some (.dup, 1, 0, 0, 0, 0), some ((.getfield 106), 3, 21, 27, 0, 0), none, none, some ((.iconst (1)), 1, 0, 0, 0, 1), some (.iadd, 1, 0, 0, 0, 0), some ((.putfield 106), 3, 21, 27, 0, 0), none, none, some (.return_, 1, 0, 0, 0, 0)]
def zt88 : List (Option zE) := [some ((.aload_n 0), 1, 0, 0, 0, 0), some (.dup, 1, 0, 0, 0, 0), some ((.getfield 106), 3, 21, 27, 0, 0), none, none, some ((.iconst (1)), 1, 0, 0, 0, 1), some (.isub, 1, 0, 0, 0, 0), some ((.putfield 106), 3, 21, 27, 0, 0), none, none, some ((.bipush (8)), 2, 0, 0, 0, 8), none, some ((.iload_n 1), 1, 0, 0, 0, 0), some (.imul, 1, 0, 0, 0, 0), some ((.istore_n 2), 1, 0, 0, 0, 0), some ((.iload_n 2), 1, 0, 0, 0, 0), some ((.bipush (8)), 2, 0, 0, 0, 8), none, some ((.aload_n 0), 1, 0, 0, 0, 0), some ((.getfield 106), 3, 21, 27, 0, 0), none, none, some (.imul, 1, 0, 0, 0, 0), some ((.if_icmp .ge (24)), 3, 47, 0, 0, 0), none, none, some ((.aload_n 0), 1, 0, 0, 0, 0), some ((.getfield 74), 3, 21, 28, 1, 0), none, none, some ((.iload_n 2), 1, 0, 0, 0, 0), some ((.aload_n 0), 1, 0, 0, 0, 0), some ((.getfield 74), 3, 21, 28, 1, 0), none, none, some ((.iload_n 2), 1, 0, 0, 0, 0), some ((.bipush (8)), 2, 0, 0, 0, 8), none, some (.iadd, 1, 0, 0, 0, 0), some (.iaload, 1, 0, 0, 0, 0), some (.iastore, 1, 0, 0, 0, 0), some ((.iinc 2 (1)), 3, 0, 0, 0, 1), none, none, some ((.goto (-29)), 3, 15, 0, 0, 0), none, none, some (.return_, 1, 0, 0, 0, 0)]
def zt89 : List (Option zE) := [some ((.aload_n 0), 1, 0, 0, 0, 0), some ((.iload_n 1), 1, 0, 0, 0, 0), some ((.invokevirtual 109), 3, 76, 1, 21, 0), none, none, some ((.ifCond .eq (12)), 3, 17, 0, 0, 0), none, none, some ((.iload_n 2), 1, 0, 0, 0, 0), some ((.iconst (0)), 1, 0, 0, 0, 0), some ((.iconst (3)), 1, 0, 0, 0, 3), some ((.invokestatic 84), 3, 75, 3, 0, 0), none, none, some ((.ifCond .eq (6)), 3, 20, 0, 0, 0), none, none, some ((.bipush (-9)), 2, 0, 0, 0, -9), none, some (.ireturn, 1, 0, 0, 0, 0), some ((.aload_n 0), 1, 0, 0, 0, 0), some ((.iload_n 1), 1, 0, 0, 0, 0), some ((.invokevirtual 113), 3, 81, 1, 21, 0), none, none, some ((.iconst (2)), 1, 0, 0, 0, 2), some ((.if_icmp .eq (14)), 3, 40, 0, 0, 0), none, none, some ((.aload_n 0), 1, 0, 0, 0, 0), some ((.iload_n 1), 1, 0, 0, 0, 0), some ((.iconst (0)), 1, 0, 0, 0, 0), some ((.iload_n 2), 1, 0, 0, 0, 0), some ((.iconst (0)), 1, 0, 0, 0, 0), some ((.invokevirtual 116), 3, 83, 4, 21, 0), none, none, some ((.ifCond .lt (6)), 3, 43, 0, 0, 0), none, none, some ((.bipush (-8)), 2, 0, 0, 0, -8), none, some (.ireturn, 1, 0, 0, 0, 0), some ((.aload_n 0), 1, 0, 0, 0, 0), some ((.iload_n 2), 1, 0, 0, 0, 0), some ((.invokevirtual 120), 3, 80, 1, 21, 0), none, none, some ((.ifCond .ne (6)), 3, 54, 0, 0, 0), none, none, some ((.bipush (-7)), 2, 0, 0, 0, -7), none, some (.ireturn, 1, 0, 0, 0, 0), some ((.aload_n 0), 1, 0, 0, 0, 0), some ((.iload_n 1), 1, 0, 0, 0, 0), some ((.iconst (0)), 1, 0, 0, 0, 0), some ((.iload_n 2), 1, 0, 0, 0, 0), some ((.iconst (0)), 1, 0, 0, 0, 0), some ((.bipush (10)), 2, 0, 0, 0, 10), none, some ((.invokevirtual 123), 3, 84, 5, 21, 0), none, none, some ((.istore_n 3), 1, 0, 0, 0, 0), some ((.aload_n 0), 1, 0, 0, 0, 0), some ((.getfield 35), 3, 21, 12, 1, 0), none, none, some ((.iconst (4)), 1, 0, 0, 0, 4), some ((.iload_n 1), 1, 0, 0, 0, 0), some (.imul, 1, 0, 0, 0, 0), some ((.iload_n 2), 1, 0, 0, 0, 0), some (.iadd, 1, 0, 0, 0, 0), some ((.iconst (1)), 1, 0, 0, 0, 1), some (.iastore, 1, 0, 0, 0, 0), some ((.aload_n 0), 1, 0, 0, 0, 0), some ((.iload_n 1), 1, 0, 0, 0, 0), some ((.iconst (0)), 1, 0, 0, 0, 0), some ((.bipush (11)), 2, 0, 0, 0, 11), none, some ((.iload_n 2), 1, 0, 0, 0, 0), some ((.iload_n 3), 1, 0, 0, 0, 0), some ((.iconst (0)), 1, 0, 0, 0, 0), some ((.iconst (0)), 1, 0, 0, 0, 0), some ((.invokevirtual 127), 3, 87, 7, 21, 0), none, none, some ((.iload_n 3), 1, 0, 0, 0, 0), some (.ireturn, 1, 0, 0, 0, 0)]
def zt90 : List (Option zE) := [some ((.iload_n 1), 1, 0, 0, 0, 0), some ((.iconst (0)), 1, 0, 0, 0, 0), some ((.iconst (3)), 1, 0, 0, 0, 3), some ((.invokestatic 84), 3, 75, 3, 0, 0), none, none, some ((.ifCond .eq (6)), 3, 12, 0, 0, 0), none, none, some ((.bipush (-9)), 2, 0, 0, 0, -9), none, some (.ireturn, 1, 0, 0, 0, 0), some ((.aload_n 0), 1, 0, 0, 0, 0), some ((.getfield 13), 3, 21, 3, 1, 0), none, none, some ((.iload_n 1), 1, 0, 0, 0, 0), some (.iaload, 1, 0, 0, 0, 0), some ((.ifCond .ne (6)), 3, 24, 0, 0, 0), none, none, some ((.bipush (-7)), 2, 0, 0, 0, -7), none, some (.ireturn, 1, 0, 0, 0, 0), some ((.aload_n 0), 1, 0, 0, 0, 0), some ((.iconst (0)), 1, 0, 0, 0, 0), some ((.invokevirtual 113), 3, 81, 1, 21, 0), none, none, some ((.iconst (4)), 1, 0, 0, 0, 4), some ((.if_icmp .ne (6)), 3, 36, 0, 0, 0), none, none, some ((.bipush (-8)), 2, 0, 0, 0, -8), none, some (.ireturn, 1, 0, 0, 0, 0), some ((.aload_n 0), 1, 0, 0, 0, 0), some ((.iconst (0)), 1, 0, 0, 0, 0), some ((.iconst (3)), 1, 0, 0, 0, 3), some ((.iload_n 1), 1, 0, 0, 0, 0), some ((.aload_n 0), 1, 0, 0, 0, 0), some ((.getfield 13), 3, 21, 3, 1, 0), none, none, some ((.iload_n 1), 1, 0, 0, 0, 0), some (.iaload, 1, 0, 0, 0, 0), some ((.bipush (6)), 2, 0, 0, 0, 6), none, some ((.invokevirtual 123), 3, 84, 5, 21, 0), none, none, some ((.istore_n 2), 1, 0, 0, 0, 0), some ((.aload_n 0), 1, 0, 0, 0, 0), some ((.getfield 68), 3, 21, 25, 1, 0), none, none, some ((.aload_n 0), 1, 0, 0, 0, 0), some ((.getfield 131), 3, 21, 24, 0, 0), none, none, some ((.iload_n 2), 1, 0, 0, 0, 0), some (.iastore, 1, 0, 0, 0, 0), some ((.aload_n 0), 1, 0, 0, 0, 0), some ((.getfield 71), 3, 21, 26, 1, 0), none, none, some ((.aload_n 0), 1, 0, 0, 0, 0), some ((.getfield 131), 3, 21, 24, 0, 0), none, none, some ((.bipush (-6)), 2, 0, 0, 0, -6), none, some (.iastore, 1, 0, 0, 0, 0), some ((.aload_n 0), 1, 0, 0, 0, 0), some (.dup, 1, 0, 0, 0, 0), some ((.getfield 131), 3, 21, 24, 0, 0), none, none, some ((.iconst (1)), 1, 0, 0, 0, 1), some (.iadd, 1, 0, 0, 0, 0), some ((.putfield 131), 3, 21, 24, 0, 0), none, none, some ((.aload_n 0), 1, 0, 0, 0, 0), some ((.iconst (0)), 1, 0, 0, 0, 0), some ((.aload_n 0), 1, 0, 0, 0, 0), some ((.getfield 13), 3, 21, 3, 1, 0), none, none, some ((.iload_n 1), 1, 0, 0, 0, 0), some (.iaload, 1, 0, 0, 0, 0), some ((.bipush (14)), 2, 0, 0, 0, 14), none, some ((.iload_n 1), 1, 0, 0, 0, 0), some ((.iload_n 2), 1, 0, 0, 0, 0), some ((.iconst (0)), 1, 0, 0, 0, 0), some ((.iconst (0)), 1, 0, 0, 0, 0), some ((.invokevirtual 127), 3, 87, 7, 21, 0), none, none, some ((.iload_n 2), 1, 0, 0, 0, 0), some (.ireturn, 1, 0, 0, 0, 0)]
def zt91 : List (Option zE) := [some ((.iconst (0)), 1, 0, 0, 0, 0), some ((.istore_n 2), 1, 0, 0, 0, 0), some ((.iload_n 2), 1, 0, 0, 0, 0), some ((.aload_n 0), 1, 0, 0, 0, 0), some ((.getfield 131), 3, 21, 24, 0, 0), none, none, some ((.if_icmp .ge (21)), 3, 28, 0, 0, 0), none, none, some ((.aload_n 0), 1, 0, 0, 0, 0), some ((.getfield 68), 3, 21, 25, 1, 0), none, none, some ((.iload_n 2), 1, 0, 0, 0, 0), some (.iaload, 1, 0, 0, 0, 0), some ((.iload_n 1), 1, 0, 0, 0, 0), some ((.if_icmp .ne (5)), 3, 22, 0, 0, 0), none, none, some ((.iload_n 2), 1, 0, 0, 0, 0), some (.ireturn, 1, 0, 0, 0, 0), some ((.iinc 2 (1)), 3, 0, 0, 0, 1), none, none, some ((.goto (-23)), 3, 2, 0, 0, 0), none, none, some ((.iconst (-1)), 1, 0, 0, 0, -1), some (.ireturn, 1, 0, 0, 0, 0)]
def zt92 : List (Option zE) := [some ((.aload_n 0), 1, 0, 0, 0, 0), some ((.iload_n 1), 1, 0, 0, 0, 0), some ((.invokevirtual 134), 3, 91, 1, 21, 0), none, none, some ((.istore_n 2), 1, 0, 0, 0, 0), some ((.iload_n 2), 1, 0, 0, 0, 0), some ((.ifCond .lt (16)), 3, 23, 0, 0, 0), none, none, some ((.aload_n 0), 1, 0, 0, 0, 0), some ((.getfield 131), 3, 21, 24, 0, 0), none, none, some ((.iconst (1)), 1, 0, 0, 0, 1), some (.isub, 1, 0, 0, 0, 0), some ((.iload_n 2), 1, 0, 0, 0, 0), some (.isub, 1, 0, 0, 0, 0), some ((.bipush (20)), 2, 0, 0, 0, 20), none, some ((.if_icmp .lt (8)), 3, 28, 0, 0, 0), none, none, some ((.bipush (-9)), 2, 0, 0, 0, -9), none, some ((.goto (9)), 3, 34, 0, 0, 0), none, none, some ((.aload_n 0), 1, 0, 0, 0, 0), some ((.getfield 71), 3, 21, 26, 1, 0), none, none, some ((.iload_n 2), 1, 0, 0, 0, 0), some (.iaload, 1, 0, 0, 0, 0), some (.ireturn, 1, 0, 0, 0, 0)]
def zt93 : List (Option zE) := [some ((.iconst (0)), 1, 0, 0, 0, 0), some ((.istore_n 3), 1, 0, 0, 0, 0), some ((.iload_n 3), 1, 0, 0, 0, 0), some ((.aload_n 0), 1, 0, 0, 0, 0), some ((.getfield 137), 3, 21, 8, 0, 0), none, none, some ((.if_icmp .ge (31)), 3, 38, 0, 0, 0), none, none, some ((.aload_n 0), 1, 0, 0, 0, 0), some ((.getfield 26), 3, 21, 9, 1, 0), none, none, some ((.iload_n 3), 1, 0, 0, 0, 0), some (.iaload, 1, 0, 0, 0, 0), some ((.iload_n 1), 1, 0, 0, 0, 0), some ((.if_icmp .ne (15)), 3, 32, 0, 0, 0), none, none, some ((.aload_n 0), 1, 0, 0, 0, 0), some ((.getfield 29), 3, 21, 10, 1, 0), none, none, some ((.iload_n 3), 1, 0, 0, 0, 0), some (.iaload, 1, 0, 0, 0, 0), some ((.iload_n 2), 1, 0, 0, 0, 0), some ((.if_icmp .ne (5)), 3, 32, 0, 0, 0), none, none, some ((.iload_n 3), 1, 0, 0, 0, 0), some (.ireturn, 1, 0, 0, 0, 0), some ((.iinc 3 (1)), 3, 0, 0, 0, 1), none, none, some ((.goto (-33)), 3, 2, 0, 0, 0), none, none, some ((.iconst (-1)), 1, 0, 0, 0, -1), some (.ireturn, 1, 0, 0, 0, 0)]
def zt94 : List (Option zE) := [some ((.aload_n 0), 1, 0, 0, 0, 0), some ((.iload_n 1), 1, 0, 0, 0, 0), some ((.iload_n 2), 1, 0, 0, 0, 0), some ((.invokevirtual 140), 3, 93, 2, 21, 0), none, none, some ((.istore_n 3), 1, 0, 0, 0, 0), some ((.iload_n 3), 1, 0, 0, 0, 0), some ((.ifCond .ge (4)), 3, 12, 0, 0, 0), none, none, some (.return_, 1, 0, 0, 0, 0), some ((.aload_n 0), 1, 0, 0, 0, 0), some (.dup, 1, 0, 0, 0, 0), some ((.getfield 137), 3, 21, 8, 0, 0), none, none, some ((.iconst (1)), 1, 0, 0, 0, 1), some (.isub, 1, 0, 0, 0, 0), some ((.putfield 137), 3, 21, 8, 0, 0), none, none, some ((.iload_n 3), 1, 0, 0, 0, 0), some ((.istore 4), 2, 0, 0, 0, 0), none, some ((.iload 4), 2, 0, 0, 0, 0), none, some ((.aload_n 0), 1, 0, 0, 0, 0), some ((.getfield 137), 3, 21, 8, 0, 0), none, none, some ((.if_icmp .ge (41)), 3, 72, 0, 0, 0), none, none, some ((.aload_n 0), 1, 0, 0, 0, 0), some ((.getfield 26), 3, 21, 9, 1, 0), none, none, some ((.iload 4), 2, 0, 0, 0, 0), none, some ((.aload_n 0), 1, 0, 0, 0, 0), some ((.getfield 26), 3, 21, 9, 1, 0), none, none, some ((.iload 4), 2, 0, 0, 0, 0), none, some ((.iconst (1)), 1, 0, 0, 0, 1), some (.iadd, 1, 0, 0, 0, 0), some (.iaload, 1, 0, 0, 0, 0), some (.iastore, 1, 0, 0, 0, 0), some ((.aload_n 0), 1, 0, 0, 0, 0), some ((.getfield 29), 3, 21, 10, 1, 0), none, none, some ((.iload 4), 2, 0, 0, 0, 0), none, some ((.aload_n 0), 1, 0, 0, 0, 0), some ((.getfield 29), 3, 21, 10, 1, 0), none, none, some ((.iload 4), 2, 0, 0, 0, 0), none, some ((.iconst (1)), 1, 0, 0, 0, 1), some (.iadd, 1, 0, 0, 0, 0), some (.iaload, 1, 0, 0, 0, 0), some (.iastore, 1, 0, 0, 0, 0), some ((.iinc 4 (1)), 3, 0, 0, 0, 1), none, none, some ((.goto (-44)), 3, 25, 0, 0, 0), none, none, some (.return_, 1, 0, 0, 0, 0)]
def zt95 : List (Option zE) := [some ((.aload_n 0), 1, 0, 0, 0, 0), some ((.iload_n 1), 1, 0, 0, 0, 0), some ((.iload_n 2), 1, 0, 0, 0, 0), some ((.bipush (40)), 2, 0, 0, 0, 40), none, some ((.iconst (0)), 1, 0, 0, 0, 0), some ((.iload 4), 2, 0, 0, 0, 0), none, some ((.iload_n 3), 1, 0, 0, 0, 0), some ((.iconst (0)), 1, 0, 0, 0, 0), some ((.invokevirtual 127), 3, 87, 7, 21, 0), none, none, some (.return_, 1, 0, 0, 0, 0)]
def zt96 : List (Option zE) := [some ((.iconst (0)), 1, 0, 0, 0, 0), some ((.istore 4), 2, 0, 0, 0, 0), none, some ((.iload 4), 2, 0, 0, 0, 0), none, some ((.aload_n 0), 1, 0, 0, 0, 0), some ((.getfield 96), 3, 21, 16, 0, 0), none, none, some ((.if_icmp .ge (53)), 3, 62, 0, 0, 0), none, none, some ((.aload_n 0), 1, 0, 0, 0, 0), some ((.getfield 47), 3, 21, 17, 1, 0), none, none, some ((.iload 4), 2, 0, 0, 0, 0), none, some (.iaload, 1, 0, 0, 0, 0), some ((.ifCond .ne (37)), 3, 56, 0, 0, 0), none, none, some ((.aload_n 0), 1, 0, 0, 0, 0), some ((.getfield 53), 3, 21, 19, 1, 0), none, none, some ((.iload 4), 2, 0, 0, 0, 0), none, some (.iaload, 1, 0, 0, 0, 0), some ((.iconst (1)), 1, 0, 0, 0, 1), some ((.if_icmp .ne (26)), 3, 56, 0, 0, 0), none, none, some ((.aload_n 0), 1, 0, 0, 0, 0), some ((.getfield 59), 3, 21, 21, 1, 0), none, none, some ((.iload 4), 2, 0, 0, 0, 0), none, some (.iaload, 1, 0, 0, 0, 0), some ((.iload_n 1), 1, 0, 0, 0, 0), some ((.if_icmp .ne (15)), 3, 56, 0, 0, 0), none, none, some ((.aload_n 0), 1, 0, 0, 0, 0), some ((.getfield 65), 3, 21, 23, 1, 0), none, none, some ((.iload 4), 2, 0, 0, 0, 0), none, some (.iaload, 1, 0, 0, 0, 0), some ((.iload_n 2), 1, 0, 0, 0, 0), some ((.if_icmp .ne (4)), 3, 56, 0, 0, 0), none, none, some (.return_, 1, 0, 0, 0, 0), some ((.iinc 4 (1)), 3, 0, 0, 0, 1), none, none, some ((.goto (-56)), 3, 3, 0, 0, 0), none, none, some ((.aload_n 0), 1, 0, 0, 0, 0), some ((.getfield 13), 3, 21, 3, 1, 0), none, none, some ((.iload_n 3), 1, 0, 0, 0, 0), some (.iaload, 1, 0, 0, 0, 0), some ((.istore 4), 2, 0, 0, 0, 0), none, some ((.iload 4), 2, 0, 0, 0, 0), none, some ((.ifCond .eq (13)), 3, 85, 0, 0, 0), none, none, some ((.iload 4), 2, 0, 0, 0, 0), none, some ((.iload_n 1), 1, 0, 0, 0, 0), some ((.if_icmp .eq (7)), 3, 85, 0, 0, 0), none, none, some ((.iconst (1)), 1, 0, 0, 0, 1), some ((.goto (4)), 3, 86, 0, 0, 0), none, none, some ((.iconst (0)), 1, 0, 0, 0, 0), some ((.istore 5), 2, 0, 0, 0, 0), none, some ((.iload 5), 2, 0, 0, 0, 0), none, some ((.ifCond .eq (17)), 3, 107, 0, 0, 0), none, none, some ((.aload_n 0), 1, 0, 0, 0, 0), some ((.iload 4), 2, 0, 0, 0, 0), none, some ((.iload_n 3), 1, 0, 0, 0, 0), some ((.invokevirtual 140), 3, 93, 2, 21, 0), none, none, some ((.ifCond .ge (7)), 3, 107, 0, 0, 0), none, none, some ((.iconst (1)), 1, 0, 0, 0, 1), some ((.goto (4)), 3, 108, 0, 0, 0), none, none, some ((.iconst (0)), 1, 0, 0, 0, 0), some ((.istore 6), 2, 0, 0, 0, 0), none, some ((.aload_n 0), 1, 0, 0, 0, 0), some ((.iconst (0)), 1, 0, 0, 0, 0), some ((.invokevirtual 113), 3, 81, 1, 21, 0), none, none, some ((.iconst (4)), 1, 0, 0, 0, 4), some ((.if_icmp .eq (17)), 3, 133, 0, 0, 0), none, none, some ((.iload 6), 2, 0, 0, 0, 0), none, some ((.ifCond .eq (21)), 3, 142, 0, 0, 0), none, none, some ((.aload_n 0), 1, 0, 0, 0, 0), some ((.getfield 137), 3, 21, 8, 0, 0), none, none, some ((.bipush (6)), 2, 0, 0, 0, 6), none, some ((.if_icmp .ne (12)), 3, 142, 0, 0, 0), none, none, some ((.aload_n 0), 1, 0, 0, 0, 0), some ((.iconst (0)), 1, 0, 0, 0, 0), some ((.iload_n 1), 1, 0, 0, 0, 0), some ((.iload_n 2), 1, 0, 0, 0, 0), some ((.iconst (0)), 1, 0, 0, 0, 0), some ((.invokevirtual 144), 3, 95, 4, 21, 0), none, none, some (.return_, 1, 0, 0, 0, 0), some ((.iload 6), 2, 0, 0, 0, 0), none, some ((.ifCond .eq (34)), 3, 178, 0, 0, 0), none, none, some ((.aload_n 0), 1, 0, 0, 0, 0), some ((.getfield 26), 3, 21, 9, 1, 0), none, none, some ((.aload_n 0), 1, 0, 0, 0, 0), some ((.getfield 137), 3, 21, 8, 0, 0), none, none, some ((.iload 4), 2, 0, 0, 0, 0), none, some (.iastore, 1, 0, 0, 0, 0), some ((.aload_n 0), 1, 0, 0, 0, 0), some ((.getfield 29), 3, 21, 10, 1, 0), none, none, some ((.aload_n 0), 1, 0, 0, 0, 0), some ((.getfield 137), 3, 21, 8, 0, 0), none, none, some ((.iload_n 3), 1, 0, 0, 0, 0), some (.iastore, 1, 0, 0, 0, 0), some ((.aload_n 0), 1, 0, 0, 0, 0), some (.dup, 1, 0, 0, 0, 0), some ((.getfield 137), 3, 21, 8, 0, 0), none, none, some ((.iconst (1)), 1, 0, 0, 0, 1), some (.iadd, 1, 0, 0, 0, 0), some ((.putfield 137), 3, 21, 8, 0, 0), none, none, some ((.aload_n 0), 1, 0, 0, 0, 0), some ((.iload_n 1), 1, 0, 0, 0, 0), some ((.iload_n 3), 1, 0, 0, 0, 0), some ((.invokevirtual 148), 3, 94, 2, 21, 0), none, none, some ((.aload_n 0), 1, 0, 0, 0, 0), some ((.iconst (0)), 1, 0, 0, 0, 0), some ((.iconst (2)), 1, 0, 0, 0, 2), some ((.iload_n 3), 1, 0, 0, 0, 0), some ((.iload_n 1), 1, 0, 0, 0, 0), some ((.invokevirtual 116), 3, 83, 4, 21, 0), none, none, some ((.istore 7), 2, 0, 0, 0, 0), none, some ((.iload 7), 2, 0, 0, 0, 0), none, some ((.ifCond .lt (9)), 3, 205, 0, 0, 0), none, none, some ((.aload_n 0), 1, 0, 0, 0, 0), some ((.iload 7), 2, 0, 0, 0, 0), none, some ((.invokevirtual 102), 3, 85, 1, 21, 0), none, none, some ((.aload_n 0), 1, 0, 0, 0, 0), some ((.getfield 13), 3, 21, 3, 1, 0), none, none, some ((.iload_n 3), 1, 0, 0, 0, 0), some ((.iload_n 1), 1, 0, 0, 0, 0), some (.iastore, 1, 0, 0, 0, 0), some ((.aload_n 0), 1, 0, 0, 0, 0), some ((.iconst (0)), 1, 0, 0, 0, 0), some ((.iconst (1)), 1, 0, 0, 0, 1), some ((.iload_n 3), 1, 0, 0, 0, 0), some ((.iload_n 1), 1, 0, 0, 0, 0), some ((.bipush (6)), 2, 0, 0, 0, 6), none, some ((.invokevirtual 123), 3, 84, 5, 21, 0), none, none, some ((.istore 8), 2, 0, 0, 0, 0), none, some ((.aload_n 0), 1, 0, 0, 0, 0), some ((.getfield 65), 3, 21, 23, 1, 0), none, none, some ((.aload_n 0), 1, 0, 0, 0, 0), some ((.getfield 96), 3, 21, 16, 0, 0), none, none, some ((.iconst (1)), 1, 0, 0, 0, 1), some (.isub, 1, 0, 0, 0, 0), some ((.iload_n 2), 1, 0, 0, 0, 0), some (.iastore, 1, 0, 0, 0, 0), some ((.aload_n 0), 1, 0, 0, 0, 0), some ((.iconst (0)), 1, 0, 0, 0, 0), some ((.iload_n 1), 1, 0, 0, 0, 0), some ((.bipush (22)), 2, 0, 0, 0, 22), none, some ((.iload_n 3), 1, 0, 0, 0, 0), some ((.iload 8), 2, 0, 0, 0, 0), none, some ((.iload_n 2), 1, 0, 0, 0, 0), some ((.iconst (0)), 1, 0, 0, 0, 0), some ((.invokevirtual 127), 3, 87, 7, 21, 0), none, none, some (.return_, 1, 0, 0, 0, 0)]
def zt97 : List (Option zE) := [some ((.aload_n 0), 1, 0, 0, 0, 0), some ((.iload_n 1), 1, 0, 0, 0, 0), some ((.iload 4), 2, 0, 0, 0, 0), none, some ((.invokevirtual 152), 3, 82, 2, 21, 0), none, none, some ((.istore 5), 2, 0, 0, 0, 0), none, some ((.iload 5), 2, 0, 0, 0, 0), none, some ((.ifCond .ge (12)), 3, 23, 0, 0, 0), none, none, some ((.aload_n 0), 1, 0, 0, 0, 0), some ((.iload_n 1), 1, 0, 0, 0, 0), some ((.iload_n 2), 1, 0, 0, 0, 0), some ((.iload_n 3), 1, 0, 0, 0, 0), some ((.iconst (0)), 1, 0, 0, 0, 0), some ((.invokevirtual 144), 3, 95, 4, 21, 0), none, none, some (.return_, 1, 0, 0, 0, 0), some ((.aload_n 0), 1, 0, 0, 0, 0), some ((.getfield 56), 3, 21, 20, 1, 0), none, none, some ((.iload 5), 2, 0, 0, 0, 0), none, some (.iaload, 1, 0, 0, 0, 0), some ((.istore 6), 2, 0, 0, 0, 0), none, some ((.iload_n 1), 1, 0, 0, 0, 0), some ((.ifCond .ne (26)), 3, 59, 0, 0, 0), none, none, some ((.aload_n 0), 1, 0, 0, 0, 0), some ((.iload 5), 2, 0, 0, 0, 0), none, some ((.invokevirtual 102), 3, 85, 1, 21, 0), none, none, some ((.aload_n 0), 1, 0, 0, 0, 0), some ((.iconst (0)), 1, 0, 0, 0, 0), some ((.iload_n 2), 1, 0, 0, 0, 0), some ((.bipush (31)), 2, 0, 0, 0, 31), none, some ((.iload 6), 2, 0, 0, 0, 0), none, some ((.iload 4), 2, 0, 0, 0, 0), none, some ((.iload_n 3), 1, 0, 0, 0, 0), some ((.iconst (0)), 1, 0, 0, 0, 0), some ((.invokevirtual 127), 3, 87, 7, 21, 0), none, none, some ((.goto (43)), 3, 99, 0, 0, 0), none, none, some ((.aload_n 0), 1, 0, 0, 0, 0), some ((.getfield 32), 3, 21, 11, 1, 0), none, none, some ((.iconst (4)), 1, 0, 0, 0, 4), some ((.iload_n 1), 1, 0, 0, 0, 0), some (.imul, 1, 0, 0, 0, 0), some ((.iload 6), 2, 0, 0, 0, 0), none, some (.iadd, 1, 0, 0, 0, 0), some ((.iconst (1)), 1, 0, 0, 0, 1), some (.bastore, 1, 0, 0, 0, 0), some ((.aload_n 0), 1, 0, 0, 0, 0), some ((.getfield 62), 3, 21, 22, 1, 0), none, none, some ((.iload 5), 2, 0, 0, 0, 0), none, some ((.aload_n 0), 1, 0, 0, 0, 0), some ((.getfield 99), 3, 21, 1, 0, 0), none, none, some ((.bipush (10)), 2, 0, 0, 0, 10), none, some (.iadd, 1, 0, 0, 0, 0), some (.iastore, 1, 0, 0, 0, 0), some ((.aload_n 0), 1, 0, 0, 0, 0), some ((.iload_n 1), 1, 0, 0, 0, 0), some ((.iload_n 2), 1, 0, 0, 0, 0), some ((.bipush (22)), 2, 0, 0, 0, 22), none, some ((.iload 6), 2, 0, 0, 0, 0), none, some ((.iload 4), 2, 0, 0, 0, 0), none, some ((.iload_n 3), 1, 0, 0, 0, 0), some ((.iconst (0)), 1, 0, 0, 0, 0), some ((.invokevirtual 127), 3, 87, 7, 21, 0), none, none, some (.return_, 1, 0, 0, 0, 0)]
def zt98 : List (Option zE) := [some ((.aload_n 0), 1, 0, 0, 0, 0), some ((.getfield 32), 3, 21, 11, 1, 0), none, none, some ((.iconst (4)), 1, 0, 0, 0, 4), some ((.iload_n 1), 1, 0, 0, 0, 0), some (.imul, 1, 0, 0, 0, 0), some ((.iload 4), 2, 0, 0, 0, 0), none, some (.iadd, 1, 0, 0, 0, 0), some ((.iconst (0)), 1, 0, 0, 0, 0), some (.bastore, 1, 0, 0, 0, 0), some ((.aload_n 0), 1, 0, 0, 0, 0), some ((.iload_n 1), 1, 0, 0, 0, 0), some ((.iconst (0)), 1, 0, 0, 0, 0), some ((.iload 4), 2, 0, 0, 0, 0), none, some ((.iconst (0)), 1, 0, 0, 0, 0), some ((.invokevirtual 116), 3, 83, 4, 21, 0), none, none, some ((.istore 5), 2, 0, 0, 0, 0), none, some ((.iload 5), 2, 0, 0, 0, 0), none, some ((.ifCond .lt (10)), 3, 35, 0, 0, 0), none, none, some ((.aload_n 0), 1, 0, 0, 0, 0), some ((.iload 5), 2, 0, 0, 0, 0), none, some ((.iconst (3)), 1, 0, 0, 0, 3), some ((.invokevirtual 155), 3, 86, 2, 21, 0), none, none, some ((.aload_n 0), 1, 0, 0, 0, 0), some ((.iload_n 1), 1, 0, 0, 0, 0), some ((.iload_n 2), 1, 0, 0, 0, 0), some ((.bipush (33)), 2, 0, 0, 0, 33), none, some ((.iload 4), 2, 0, 0, 0, 0), none, some ((.iconst (0)), 1, 0, 0, 0, 0), some ((.iload_n 3), 1, 0, 0, 0, 0), some ((.iconst (0)), 1, 0, 0, 0, 0), some ((.invokevirtual 127), 3, 87, 7, 21, 0), none, none, some (.return_, 1, 0, 0, 0, 0)]
def zt99 : List (Option zE) := [some ((.aload_n 0), 1, 0, 0, 0, 0), some ((.getfield 32), 3, 21, 11, 1, 0), none, none, some ((.iconst (4)), 1, 0, 0, 0, 4), some ((.iload_n 1), 1, 0, 0, 0, 0), some (.imul, 1, 0, 0, 0, 0), some ((.iload 4), 2, 0, 0, 0, 0), none, some (.iadd, 1, 0, 0, 0, 0), some (.baload, 1, 0, 0, 0, 0), some ((.ifCond .eq (8)), 3, 19, 0, 0, 0), none, none, some ((.bipush (-2)), 2, 0, 0, 0, -2), none, some ((.goto (4)), 3, 20, 0, 0, 0), none, none, some ((.iconst (-1)), 1, 0, 0, 0, -1), some ((.istore 5), 2, 0, 0, 0, 0), none, some ((.iconst (1)), 1, 0, 0, 0, 1), some ((.istore 6), 2, 0, 0, 0, 0), none, some ((.iload 6), 2, 0, 0, 0, 0), none, some ((.ifCond .lt (43)), 3, 70, 0, 0, 0), none, none, some ((.iload 5), 2, 0, 0, 0, 0), none, some ((.iconst (-1)), 1, 0, 0, 0, -1), some ((.if_icmp .eq (37)), 3, 70, 0, 0, 0), none, none, some ((.aload_n 0), 1, 0, 0, 0, 0), some ((.getfield 38), 3, 21, 13, 1, 0), none, none, some ((.iconst (2)), 1, 0, 0, 0, 2), some ((.iload_n 1), 1, 0, 0, 0, 0), some (.imul, 1, 0, 0, 0, 0), some ((.iload 6), 2, 0, 0, 0, 0), none, some (.iadd, 1, 0, 0, 0, 0), some (.iaload, 1, 0, 0, 0, 0), some ((.ifCond .ge (13)), 3, 60, 0, 0, 0), none, none, some ((.bipush (100)), 2, 0, 0, 0, 100), none, some ((.iload_n 1), 1, 0, 0, 0, 0), some (.imul, 1, 0, 0, 0, 0), some ((.iload 6), 2, 0, 0, 0, 0), none, some (.iadd, 1, 0, 0, 0, 0), some ((.goto (5)), 3, 62, 0, 0, 0), none, none, some ((.iload 5), 2, 0, 0, 0, 0), none, some ((.istore 5), 2, 0, 0, 0, 0), none, some ((.iinc 6 (-1)), 3, 0, 0, 0, -1), none, none, some ((.goto (-42)), 3, 25, 0, 0, 0), none, none, some ((.iload 5), 2, 0, 0, 0, 0), none, some ((.ifCond .lt (40)), 3, 112, 0, 0, 0), none, none, some ((.aload_n 0), 1, 0, 0, 0, 0), some ((.getfield 38), 3, 21, 13, 1, 0), none, none, some ((.iconst (2)), 1, 0, 0, 0, 2), some ((.iload_n 1), 1, 0, 0, 0, 0), some (.imul, 1, 0, 0, 0, 0), some ((.iload 5), 2, 0, 0, 0, 0), none, some ((.bipush (100)), 2, 0, 0, 0, 100), none, some (.irem, 1, 0, 0, 0, 0), some (.iadd, 1, 0, 0, 0, 0), some ((.iload 4), 2, 0, 0, 0, 0), none, some (.iastore, 1, 0, 0, 0, 0), some ((.aload_n 0), 1, 0, 0, 0, 0), some ((.getfield 41), 3, 21, 14, 1, 0), none, none, some ((.iconst (2)), 1, 0, 0, 0, 2), some ((.iload_n 1), 1, 0, 0, 0, 0), some (.imul, 1, 0, 0, 0, 0), some ((.iload 5), 2, 0, 0, 0, 0), none, some ((.bipush (100)), 2, 0, 0, 0, 100), none, some (.irem, 1, 0, 0, 0, 0), some (.iadd, 1, 0, 0, 0, 0), some ((.aload_n 0), 1, 0, 0, 0, 0), some ((.getfield 99), 3, 21, 1, 0, 0), none, none, some ((.bipush (8)), 2, 0, 0, 0, 8), none, some (.iadd, 1, 0, 0, 0, 0), some (.iastore, 1, 0, 0, 0, 0), some ((.aload_n 0), 1, 0, 0, 0, 0), some ((.iload_n 1), 1, 0, 0, 0, 0), some ((.iload_n 2), 1, 0, 0, 0, 0), some ((.bipush (34)), 2, 0, 0, 0, 34), none, some ((.iload 4), 2, 0, 0, 0, 0), none, some ((.iconst (0)), 1, 0, 0, 0, 0), some ((.iload_n 3), 1, 0, 0, 0, 0), some ((.iload 5), 2, 0, 0, 0, 0), none, some ((.invokevirtual 127), 3, 87, 7, 21, 0), none, none, some (.return_, 1, 0, 0, 0, 0)]
def zt100 : List (Option zE) := [some ((.aload_n 0), 1, 0, 0, 0, 0), some ((.iload_n 1), 1, 0, 0, 0, 0), some ((.iload 4), 2, 0, 0, 0, 0), none, some ((.invokevirtual 152), 3, 82, 2, 21, 0), none, none, some ((.istore 6), 2, 0, 0, 0, 0), none, some ((.iload 6), 2, 0, 0, 0, 0), none, some ((.ifCond .ge (4)), 3, 15, 0, 0, 0), none, none, some (.return_, 1, 0, 0, 0, 0), some ((.iload_n 2), 1, 0, 0, 0, 0), some ((.iconst (4)), 1, 0, 0, 0, 4), some ((.if_icmp .ne (13)), 3, 30, 0, 0, 0), none, none, some ((.aload_n 0), 1, 0, 0, 0, 0), some ((.iload 6), 2, 0, 0, 0, 0), none, some ((.iconst (3)), 1, 0, 0, 0, 3), some ((.invokevirtual 155), 3, 86, 2, 21, 0), none, none, some ((.goto (69)), 3, 96, 0, 0, 0), none, none, some ((.iload_n 3), 1, 0, 0, 0, 0), some ((.iconst (1)), 1, 0, 0, 0, 1), some ((.if_icmp .ne (13)), 3, 45, 0, 0, 0), none, none, some ((.aload_n 0), 1, 0, 0, 0, 0), some ((.iload 6), 2, 0, 0, 0, 0), none, some ((.iconst (2)), 1, 0, 0, 0, 2), some ((.invokevirtual 155), 3, 86, 2, 21, 0), none, none, some ((.goto (54)), 3, 96, 0, 0, 0), none, none, some ((.iload_n 3), 1, 0, 0, 0, 0), some ((.iconst (3)), 1, 0, 0, 0, 3), some ((.if_icmp .ne (30)), 3, 77, 0, 0, 0), none, none, some ((.aload_n 0), 1, 0, 0, 0, 0), some ((.aload_n 0), 1, 0, 0, 0, 0), some ((.getfield 59), 3, 21, 21, 1, 0), none, none, some ((.iload 6), 2, 0, 0, 0, 0), none, some (.iaload, 1, 0, 0, 0, 0), some ((.aload_n 0), 1, 0, 0, 0, 0), some ((.getfield 56), 3, 21, 20, 1, 0), none, none, some ((.iload 6), 2, 0, 0, 0, 0), none, some (.iaload, 1, 0, 0, 0, 0), some ((.invokevirtual 148), 3, 94, 2, 21, 0), none, none, some ((.aload_n 0), 1, 0, 0, 0, 0), some ((.iload 6), 2, 0, 0, 0, 0), none, some ((.invokevirtual 102), 3, 85, 1, 21, 0), none, none, some ((.goto (22)), 3, 96, 0, 0, 0), none, none, some ((.aload_n 0), 1, 0, 0, 0, 0), some ((.getfield 71), 3, 21, 26, 1, 0), none, none, some ((.aload_n 0), 1, 0, 0, 0, 0), some ((.iload 4), 2, 0, 0, 0, 0), none, some ((.invokevirtual 134), 3, 91, 1, 21, 0), none, none, some ((.iload 5), 2, 0, 0, 0, 0), none, some (.iastore, 1, 0, 0, 0, 0), some ((.aload_n 0), 1, 0, 0, 0, 0), some ((.iload 6), 2, 0, 0, 0, 0), none, some ((.invokevirtual 102), 3, 85, 1, 21, 0), none, none, some (.return_, 1, 0, 0, 0, 0)]
def zt101 : List (Option zE) := [some ((.iload_n 1), 1, 0, 0, 0, 0), some ((.ifCond .lt (11)), 3, 12, 0, 0, 0), none, none, some ((.iload_n 1), 1, 0, 0, 0, 0), some ((.aload_n 0), 1, 0, 0, 0, 0), some ((.getfield 106), 3, 21, 27, 0, 0), none, none, some ((.if_icmp .lt (6)), 3, 15, 0, 0, 0), none, none, some ((.bipush (-9)), 2, 0, 0, 0, -9), none, some (.ireturn, 1, 0, 0, 0, 0), some ((.iconst (0)), 1, 0, 0, 0, 0), some ((.istore_n 2), 1, 0, 0, 0, 0), some ((.iload_n 2), 1, 0, 0, 0, 0), some ((.bipush (8)), 2, 0, 0, 0, 8), none, some ((.if_icmp .ge (26)), 3, 46, 0, 0, 0), none, none, some ((.aload_n 0), 1, 0, 0, 0, 0), some ((.getfield 77), 3, 21, 29, 1, 0), none, none, some ((.iload_n 2), 1, 0, 0, 0, 0), some ((.aload_n 0), 1, 0, 0, 0, 0), some ((.getfield 74), 3, 21, 28, 1, 0), none, none, some ((.bipush (8)), 2, 0, 0, 0, 8), none, some ((.iload_n 1), 1, 0, 0, 0, 0), some (.imul, 1, 0, 0, 0, 0), some ((.iload_n 2), 1, 0, 0, 0, 0), some (.iadd, 1, 0, 0, 0, 0), some (.iaload, 1, 0, 0, 0, 0), some (.iastore, 1, 0, 0, 0, 0), some ((.iinc 2 (1)), 3, 0, 0, 0, 1), none, none, some ((.goto (-26)), 3, 17, 0, 0, 0), none, none, some ((.aload_n 0), 1, 0, 0, 0, 0), some ((.iload_n 1), 1, 0, 0, 0, 0), some ((.invokevirtual 158), 3, 88, 1, 21, 0), none, none, some ((.aload_n 0), 1, 0, 0, 0, 0), some ((.getfield 77), 3, 21, 29, 1, 0), none, none, some ((.iconst (0)), 1, 0, 0, 0, 0), some (.iaload, 1, 0, 0, 0, 0), some ((.istore_n 2), 1, 0, 0, 0, 0), some ((.aload_n 0), 1, 0, 0, 0, 0), some ((.getfield 77), 3, 21, 29, 1, 0), none, none, some ((.iconst (1)), 1, 0, 0, 0, 1), some (.iaload, 1, 0, 0, 0, 0), some ((.istore_n 3), 1, 0, 0, 0, 0), some ((.aload_n 0), 1, 0, 0, 0, 0), some ((.getfield 77), 3, 21, 29, 1, 0), none, none, some ((.iconst (2)), 1, 0, 0, 0, 2), some (.iaload, 1, 0, 0, 0, 0), some ((.istore 4), 2, 0, 0, 0, 0), none, some ((.aload_n 0), 1, 0, 0, 0, 0), some ((.getfield 77), 3, 21, 29, 1, 0), none, none, some ((.iconst (3)), 1, 0, 0, 0, 3), some (.iaload, 1, 0, 0, 0, 0), some ((.istore 5), 2, 0, 0, 0, 0), none, some ((.iload 4), 2, 0, 0, 0, 0), none, some ((.iconst (1)), 1, 0, 0, 0, 1), some ((.if_icmp .ne (29)), 3, 113, 0, 0, 0), none, none, some ((.iload 5), 2, 0, 0, 0, 0), none, some ((.iconst (1)), 1, 0, 0, 0, 1), some ((.if_icmp .ne (23)), 3, 113, 0, 0, 0), none, none, some ((.aload_n 0), 1, 0, 0, 0, 0), some ((.iload_n 2), 1, 0, 0, 0, 0), some ((.aload_n 0), 1, 0, 0, 0, 0), some ((.getfield 77), 3, 21, 29, 1, 0), none, none, some ((.iconst (5)), 1, 0, 0, 0, 5), some (.iaload, 1, 0, 0, 0, 0), some ((.aload_n 0), 1, 0, 0, 0, 0), some ((.getfield 77), 3, 21, 29, 1, 0), none, none, some ((.iconst (4)), 1, 0, 0, 0, 4), some (.iaload, 1, 0, 0, 0, 0), some ((.invokevirtual 161), 3, 96, 3, 21, 0), none, none, some ((.goto (114)), 3, 224, 0, 0, 0), none, none, some ((.iload 4), 2, 0, 0, 0, 0), none, some ((.iconst (1)), 1, 0, 0, 0, 1), some ((.if_icmp .ne (30)), 3, 146, 0, 0, 0), none, none, some ((.iload 5), 2, 0, 0, 0, 0), none, some ((.iconst (3)), 1, 0, 0, 0, 3), some ((.if_icmp .ne (24)), 3, 146, 0, 0, 0), none, none, some ((.aload_n 0), 1, 0, 0, 0, 0), some ((.iload_n 3), 1, 0, 0, 0, 0), some ((.iload_n 2), 1, 0, 0, 0, 0), some ((.aload_n 0), 1, 0, 0, 0, 0), some ((.getfield 77), 3, 21, 29, 1, 0), none, none, some ((.iconst (5)), 1, 0, 0, 0, 5), some (.iaload, 1, 0, 0, 0, 0), some ((.aload_n 0), 1, 0, 0, 0, 0), some ((.getfield 77), 3, 21, 29, 1, 0), none, none, some ((.iconst (4)), 1, 0, 0, 0, 4), some (.iaload, 1, 0, 0, 0, 0), some ((.invokevirtual 165), 3, 98, 4, 21, 0), none, none, some ((.goto (81)), 3, 224, 0, 0, 0), none, none, some ((.iload 4), 2, 0, 0, 0, 0), none, some ((.iconst (1)), 1, 0, 0, 0, 1), some ((.if_icmp .ne (24)), 3, 173, 0, 0, 0), none, none, some ((.aload_n 0), 1, 0, 0, 0, 0), some ((.iload_n 3), 1, 0, 0, 0, 0), some ((.iload_n 2), 1, 0, 0, 0, 0), some ((.aload_n 0), 1, 0, 0, 0, 0), some ((.getfield 77), 3, 21, 29, 1, 0), none, none, some ((.iconst (5)), 1, 0, 0, 0, 5), some (.iaload, 1, 0, 0, 0, 0), some ((.aload_n 0), 1, 0, 0, 0, 0), some ((.getfield 77), 3, 21, 29, 1, 0), none, none, some ((.iconst (4)), 1, 0, 0, 0, 4), some (.iaload, 1, 0, 0, 0, 0), some ((.invokevirtual 168), 3, 99, 4, 21, 0), none, none, some ((.goto (54)), 3, 224, 0, 0, 0), none, none, some ((.iload 4), 2, 0, 0, 0, 0), none, some ((.iconst (2)), 1, 0, 0, 0, 2), some ((.if_icmp .ne (25)), 3, 201, 0, 0, 0), none, none, some ((.aload_n 0), 1, 0, 0, 0, 0), some ((.iload_n 3), 1, 0, 0, 0, 0), some ((.iload_n 2), 1, 0, 0, 0, 0), some ((.aload_n 0), 1, 0, 0, 0, 0), some ((.getfield 77), 3, 21, 29, 1, 0), none, none, some ((.iconst (5)), 1, 0, 0, 0, 5), some (.iaload, 1, 0, 0, 0, 0), some ((.aload_n 0), 1, 0, 0, 0, 0), some ((.getfield 77), 3, 21, 29, 1, 0), none, none, some ((.bipush (6)), 2, 0, 0, 0, 6), none, some (.iaload, 1, 0, 0, 0, 0), some ((.invokevirtual 171), 3, 97, 4, 21, 0), none, none, some ((.goto (26)), 3, 224, 0, 0, 0), none, none, some ((.aload_n 0), 1, 0, 0, 0, 0), some ((.iload_n 3), 1, 0, 0, 0, 0), some ((.iload 4), 2, 0, 0, 0, 0), none, some ((.iload 5), 2, 0, 0, 0, 0), none, some ((.aload_n 0), 1, 0, 0, 0, 0), some ((.getfield 77), 3, 21, 29, 1, 0), none, none, some ((.bipush (6)), 2, 0, 0, 0, 6), none, some (.iaload, 1, 0, 0, 0, 0), some ((.aload_n 0), 1, 0, 0, 0, 0), some ((.getfield 77), 3, 21, 29, 1, 0), none, none, some ((.bipush (7)), 2, 0, 0, 0, 7), none, some (.iaload, 1, 0, 0, 0, 0), some ((.invokevirtual 174), 3, 100, 5, 21, 0), none, none, some ((.bipush (10)), 2, 0, 0, 0, 10), none, some ((.iload 4), 2, 0, 0, 0, 0), none, some (.imul, 1, 0, 0, 0, 0), some ((.iload 5), 2, 0, 0, 0, 0), none, some (.iadd, 1, 0, 0, 0, 0), some (.ireturn, 1, 0, 0, 0, 0)]
def zt102 : List (Option zE) := [some ((.iload_n 1), 1, 0, 0, 0, 0), some ((.ifCond .lt (11)), 3, 12, 0, 0, 0), none, none, some ((.iload_n 1), 1, 0, 0, 0, 0), some ((.aload_n 0), 1, 0, 0, 0, 0), some ((.getfield 106), 3, 21, 27, 0, 0), none, none, some ((.if_icmp .lt (5)), 3, 14, 0, 0, 0), none, none, some ((.iconst (0)), 1, 0, 0, 0, 0), some (.ireturn, 1, 0, 0, 0, 0), some ((.aload_n 0), 1, 0, 0, 0, 0), some ((.iload_n 1), 1, 0, 0, 0, 0), some ((.invokevirtual 158), 3, 88, 1, 21, 0), none, none, some ((.iconst (1)), 1, 0, 0, 0, 1), some (.ireturn, 1, 0, 0, 0, 0)]
def zt103 : List (Option zE) := [some ((.iload_n 1), 1, 0, 0, 0, 0), some ((.ifCond .lt (20)), 3, 21, 0, 0, 0), none, none, some ((.iload_n 1), 1, 0, 0, 0, 0), some ((.aload_n 0), 1, 0, 0, 0, 0), some ((.getfield 106), 3, 21, 27, 0, 0), none, none, some ((.if_icmp .ge (12)), 3, 21, 0, 0, 0), none, none, some ((.aload_n 0), 1, 0, 0, 0, 0), some ((.getfield 106), 3, 21, 27, 0, 0), none, none, some ((.bipush (24)), 2, 0, 0, 0, 24), none, some ((.if_icmp .ne (5)), 3, 23, 0, 0, 0), none, none, some ((.iconst (0)), 1, 0, 0, 0, 0), some (.ireturn, 1, 0, 0, 0, 0), some ((.iconst (0)), 1, 0, 0, 0, 0), some ((.istore_n 2), 1, 0, 0, 0, 0), some ((.iload_n 2), 1, 0, 0, 0, 0), some ((.bipush (8)), 2, 0, 0, 0, 8), none, some ((.if_icmp .ge (34)), 3, 62, 0, 0, 0), none, none, some ((.aload_n 0), 1, 0, 0, 0, 0), some ((.getfield 74), 3, 21, 28, 1, 0), none, none, some ((.bipush (8)), 2, 0, 0, 0, 8), none, some ((.aload_n 0), 1, 0, 0, 0, 0), some ((.getfield 106), 3, 21, 27, 0, 0), none, none, some (.imul, 1, 0, 0, 0, 0), some ((.iload_n 2), 1, 0, 0, 0, 0), some (.iadd, 1, 0, 0, 0, 0), some ((.aload_n 0), 1, 0, 0, 0, 0), some ((.getfield 74), 3, 21, 28, 1, 0), none, none, some ((.bipush (8)), 2, 0, 0, 0, 8), none, some ((.iload_n 1), 1, 0, 0, 0, 0), some (.imul, 1, 0, 0, 0, 0), some ((.iload_n 2), 1, 0, 0, 0, 0), some (.iadd, 1, 0, 0, 0, 0), some (.iaload, 1, 0, 0, 0, 0), some (.iastore, 1, 0, 0, 0, 0), some ((.iinc 2 (1)), 3, 0, 0, 0, 1), none, none, some ((.goto (-34)), 3, 25, 0, 0, 0), none, none, some ((.aload_n 0), 1, 0, 0, 0, 0), some (.dup, 1, 0, 0, 0, 0), some ((.getfield 106), 3, 21, 27, 0, 0), none, none, some ((.iconst (1)), 1, 0, 0, 0, 1), some (.iadd, 1, 0, 0, 0, 0), some ((.putfield 106), 3, 21, 27, 0, 0), none, none, some ((.iconst (1)), 1, 0, 0, 0, 1), some (.ireturn, 1, 0, 0, 0, 0)]
def zt104 : List (Option zE) := [some ((.aload_n 0), 1, 0, 0, 0, 0), some ((.getfield 106), 3, 21, 27, 0, 0), none, none, some (.ireturn, 1, 0, 0, 0, 0)]
def zt105 : List (Option zE) := [some ((.iload_n 1), 1, 0, 0, 0, 0), some ((.ifCond .lt (21)), 3, 22, 0, 0, 0), none, none, some ((.iload_n 1), 1, 0, 0, 0, 0), some ((.aload_n 0), 1, 0, 0, 0, 0), some ((.getfield 106), 3, 21, 27, 0, 0), none, none, some ((.if_icmp .ge (13)), 3, 22, 0, 0, 0), none, none, some ((.iload_n 2), 1, 0, 0, 0, 0), some ((.iconst (0)), 1, 0, 0, 0, 0), some ((.bipush (7)), 2, 0, 0, 0, 7), none, some ((.invokestatic 84), 3, 75, 3, 0, 0), none, none, some ((.ifCond .eq (8)), 3, 27, 0, 0, 0), none, none, some ((.bipush (-9)), 2, 0, 0, 0, -9), none, some ((.goto (14)), 3, 38, 0, 0, 0), none, none, some ((.aload_n 0), 1, 0, 0, 0, 0), some ((.getfield 74), 3, 21, 28, 1, 0), none, none, some ((.bipush (8)), 2, 0, 0, 0, 8), none, some ((.iload_n 1), 1, 0, 0, 0, 0), some (.imul, 1, 0, 0, 0, 0), some ((.iload_n 2), 1, 0, 0, 0, 0), some (.iadd, 1, 0, 0, 0, 0), some (.iaload, 1, 0, 0, 0, 0), some (.ireturn, 1, 0, 0, 0, 0)]
def zt106 : List (Option zE) := [some ((.aload_n 0), 1, 0, 0, 0, 0), some ((.getfield 47), 3, 21, 17, 1, 0), none, none, some ((.iload_n 1), 1, 0, 0, 0, 0), some (.iaload, 1, 0, 0, 0, 0), some ((.istore_n 2), 1, 0, 0, 0, 0), some ((.aload_n 0), 1, 0, 0, 0, 0), some ((.getfield 50), 3, 21, 18, 1, 0), none, none, some ((.iload_n 1), 1, 0, 0, 0, 0), some (.iaload, 1, 0, 0, 0, 0), some ((.istore_n 3), 1, 0, 0, 0, 0), some ((.aload_n 0), 1, 0, 0, 0, 0), some ((.getfield 53), 3, 21, 19, 1, 0), none, none, some ((.iload_n 1), 1, 0, 0, 0, 0), some (.iaload, 1, 0, 0, 0, 0), some ((.iconst (1)), 1, 0, 0, 0, 1), some ((.if_icmp .ne (24)), 3, 45, 0, 0, 0), none, none, some ((.aload_n 0), 1, 0, 0, 0, 0), some ((.iload_n 2), 1, 0, 0, 0, 0), some ((.aload_n 0), 1, 0, 0, 0, 0), some ((.getfield 59), 3, 21, 21, 1, 0), none, none, some ((.iload_n 1), 1, 0, 0, 0, 0), some (.iaload, 1, 0, 0, 0, 0), some ((.aload_n 0), 1, 0, 0, 0, 0), some ((.getfield 65), 3, 21, 23, 1, 0), none, none, some ((.iload_n 1), 1, 0, 0, 0, 0), some (.iaload, 1, 0, 0, 0, 0), some ((.iload_n 3), 1, 0, 0, 0, 0), some ((.invokevirtual 144), 3, 95, 4, 21, 0), none, none, some ((.goto (25)), 3, 67, 0, 0, 0), none, none, some ((.aload_n 0), 1, 0, 0, 0, 0), some ((.getfield 53), 3, 21, 19, 1, 0), none, none, some ((.iload_n 1), 1, 0, 0, 0, 0), some (.iaload, 1, 0, 0, 0, 0), some ((.iconst (3)), 1, 0, 0, 0, 3), some ((.if_icmp .ne (15)), 3, 67, 0, 0, 0), none, none, some ((.aload_n 0), 1, 0, 0, 0, 0), some ((.getfield 71), 3, 21, 26, 1, 0), none, none, some ((.aload_n 0), 1, 0, 0, 0, 0), some ((.iload_n 3), 1, 0, 0, 0, 0), some ((.invokevirtual 134), 3, 91, 1, 21, 0), none, none, some ((.bipush (-3)), 2, 0, 0, 0, -3), none, some (.iastore, 1, 0, 0, 0, 0), some ((.aload_n 0), 1, 0, 0, 0, 0), some ((.iload_n 1), 1, 0, 0, 0, 0), some ((.iconst (3)), 1, 0, 0, 0, 3), some ((.invokevirtual 155), 3, 86, 2, 21, 0), none, none, some (.return_, 1, 0, 0, 0, 0)]
def zt107 : List (Option zE) := [some ((.aload_n 0), 1, 0, 0, 0, 0), some (.dup, 1, 0, 0, 0, 0), some ((.getfield 99), 3, 21, 1, 0, 0), none, none, some ((.iconst (1)), 1, 0, 0, 0, 1), some (.iadd, 1, 0, 0, 0, 0), some ((.putfield 99), 3, 21, 1, 0, 0), none, none, some ((.iconst (0)), 1, 0, 0, 0, 0), some ((.istore_n 1), 1, 0, 0, 0, 0), some ((.iload_n 1), 1, 0, 0, 0, 0), some ((.aload_n 0), 1, 0, 0, 0, 0), some ((.getfield 80), 3, 21, 0, 0, 0), none, none, some ((.if_icmp .gt (56)), 3, 73, 0, 0, 0), none, none, some ((.iconst (0)), 1, 0, 0, 0, 0), some ((.istore_n 2), 1, 0, 0, 0, 0), some ((.iload_n 2), 1, 0, 0, 0, 0), some ((.aload_n 0), 1, 0, 0, 0, 0), some ((.getfield 96), 3, 21, 16, 0, 0), none, none, some ((.if_icmp .ge (40)), 3, 67, 0, 0, 0), none, none, some ((.aload_n 0), 1, 0, 0, 0, 0), some ((.getfield 47), 3, 21, 17, 1, 0), none, none, some ((.iload_n 2), 1, 0, 0, 0, 0), some (.iaload, 1, 0, 0, 0, 0), some ((.iload_n 1), 1, 0, 0, 0, 0), some ((.if_icmp .ne (24)), 3, 61, 0, 0, 0), none, none, some ((.aload_n 0), 1, 0, 0, 0, 0), some ((.getfield 62), 3, 21, 22, 1, 0), none, none, some ((.iload_n 2), 1, 0, 0, 0, 0), some (.iaload, 1, 0, 0, 0, 0), some ((.aload_n 0), 1, 0, 0, 0, 0), some ((.getfield 99), 3, 21, 1, 0, 0), none, none, some ((.if_icmp .ne (11)), 3, 61, 0, 0, 0), none, none, some ((.aload_n 0), 1, 0, 0, 0, 0), some ((.iload_n 2), 1, 0, 0, 0, 0), some ((.invokevirtual 178), 3, 106, 1, 21, 0), none, none, some ((.goto (-36)), 3, 22, 0, 0, 0), none, none, some ((.iinc 2 (1)), 3, 0, 0, 0, 1), none, none, some ((.goto (-42)), 3, 22, 0, 0, 0), none, none, some ((.iinc 1 (1)), 3, 0, 0, 0, 1), none, none, some ((.goto (-58)), 3, 12, 0, 0, 0), none, none, some ((.iconst (2)), 1, 0, 0, 0, 2), some ((.istore_n 1), 1, 0, 0, 0, 0), some ((.iload_n 1), 1, 0, 0, 0, 0), some ((.bipush (10)), 2, 0, 0, 0, 10), none, some ((.if_icmp .ge (47)), 3, 125, 0, 0, 0), none, none, some ((.aload_n 0), 1, 0, 0, 0, 0), some ((.getfield 38), 3, 21, 13, 1, 0), none, none, some ((.iload_n 1), 1, 0, 0, 0, 0), some ((.aload_n 0), 1, 0, 0, 0, 0), some ((.getfield 38), 3, 21, 13, 1, 0), none, none, some ((.iload_n 1), 1, 0, 0, 0, 0), some (.iaload, 1, 0, 0, 0, 0), some ((.ifCond .lt (20)), 3, 112, 0, 0, 0), none, none, some ((.aload_n 0), 1, 0, 0, 0, 0), some ((.getfield 41), 3, 21, 14, 1, 0), none, none, some ((.iload_n 1), 1, 0, 0, 0, 0), some (.iaload, 1, 0, 0, 0, 0), some ((.aload_n 0), 1, 0, 0, 0, 0), some ((.getfield 99), 3, 21, 1, 0, 0), none, none, some ((.if_icmp .ne (7)), 3, 112, 0, 0, 0), none, none, some ((.iconst (-1)), 1, 0, 0, 0, -1), some ((.goto (9)), 3, 118, 0, 0, 0), none, none, some ((.aload_n 0), 1, 0, 0, 0, 0), some ((.getfield 38), 3, 21, 13, 1, 0), none, none, some ((.iload_n 1), 1, 0, 0, 0, 0), some (.iaload, 1, 0, 0, 0, 0), some (.iastore, 1, 0, 0, 0, 0), some ((.iinc 1 (1)), 3, 0, 0, 0, 1), none, none, some ((.goto (-47)), 3, 75, 0, 0, 0), none, none, some ((.iconst (0)), 1, 0, 0, 0, 0), some ((.istore_n 1), 1, 0, 0, 0, 0), some ((.iload_n 1), 1, 0, 0, 0, 0), some ((.aload_n 0), 1, 0, 0, 0, 0), some ((.getfield 137), 3, 21, 8, 0, 0), none, none, some ((.if_icmp .ge (81)), 3, 213, 0, 0, 0), none, none, some ((.aload_n 0), 1, 0, 0, 0, 0), some ((.iconst (0)), 1, 0, 0, 0, 0), some ((.iconst (2)), 1, 0, 0, 0, 2), some ((.aload_n 0), 1, 0, 0, 0, 0), some ((.getfield 29), 3, 21, 10, 1, 0), none, none, some ((.iload_n 1), 1, 0, 0, 0, 0), some (.iaload, 1, 0, 0, 0, 0), some ((.aload_n 0), 1, 0, 0, 0, 0), some ((.getfield 26), 3, 21, 9, 1, 0), none, none, some ((.iload_n 1), 1, 0, 0, 0, 0), some (.iaload, 1, 0, 0, 0, 0), some ((.invokevirtual 116), 3, 83, 4, 21, 0), none, none, some ((.ifCond .ge (54)), 3, 207, 0, 0, 0), none, none, some ((.aload_n 0), 1, 0, 0, 0, 0), some ((.iconst (0)), 1, 0, 0, 0, 0), some ((.invokevirtual 113), 3, 81, 1, 21, 0), none, none, some ((.iconst (4)), 1, 0, 0, 0, 4), some ((.if_icmp .ge (45)), 3, 207, 0, 0, 0), none, none, some ((.aload_n 0), 1, 0, 0, 0, 0), some ((.iconst (0)), 1, 0, 0, 0, 0), some ((.iconst (2)), 1, 0, 0, 0, 2), some ((.aload_n 0), 1, 0, 0, 0, 0), some ((.getfield 29), 3, 21, 10, 1, 0), none, none, some ((.iload_n 1), 1, 0, 0, 0, 0), some (.iaload, 1, 0, 0, 0, 0), some ((.aload_n 0), 1, 0, 0, 0, 0), some ((.getfield 26), 3, 21, 9, 1, 0), none, none, some ((.iload_n 1), 1, 0, 0, 0, 0), some (.iaload, 1, 0, 0, 0, 0), some ((.iconst (4)), 1, 0, 0, 0, 4), some ((.invokevirtual 123), 3, 84, 5, 21, 0), none, none, some ((.istore_n 2), 1, 0, 0, 0, 0), some ((.aload_n 0), 1, 0, 0, 0, 0), some ((.iconst (0)), 1, 0, 0, 0, 0), some ((.aload_n 0), 1, 0, 0, 0, 0), some ((.getfield 26), 3, 21, 9, 1, 0), none, none, some ((.iload_n 1), 1, 0, 0, 0, 0), some (.iaload, 1, 0, 0, 0, 0), some ((.bipush (13)), 2, 0, 0, 0, 13), none, some ((.aload_n 0), 1, 0, 0, 0, 0), some ((.getfield 29), 3, 21, 10, 1, 0), none, none, some ((.iload_n 1), 1, 0, 0, 0, 0), some (.iaload, 1, 0, 0, 0, 0), some ((.iload_n 2), 1, 0, 0, 0, 0), some ((.iconst (0)), 1, 0, 0, 0, 0), some ((.iconst (0)), 1, 0, 0, 0, 0), some ((.invokevirtual 127), 3, 87, 7, 21, 0), none, none, some ((.iinc 1 (1)), 3, 0, 0, 0, 1), none, none, some ((.goto (-83)), 3, 127, 0, 0, 0), none, none, some ((.aload_n 0), 1, 0, 0, 0, 0), some ((.getfield 99), 3, 21, 1, 0, 0), none, none, some (.ireturn, 1, 0, 0, 0, 0)]
def zt108 : List (Option zE) := [some ((.aload_n 0), 1, 0, 0, 0, 0), some ((.iload_n 1), 1, 0, 0, 0, 0), some ((.invokevirtual 109), 3, 76, 1, 21, 0), none, none, some ((.ifCond .eq (29)), 3, 34, 0, 0, 0), none, none, some ((.iload_n 2), 1, 0, 0, 0, 0), some ((.iconst (0)), 1, 0, 0, 0, 0), some ((.iconst (3)), 1, 0, 0, 0, 3), some ((.invokestatic 84), 3, 75, 3, 0, 0), none, none, some ((.ifCond .ne (20)), 3, 34, 0, 0, 0), none, none, some ((.aload_n 0), 1, 0, 0, 0, 0), some ((.getfield 32), 3, 21, 11, 1, 0), none, none, some ((.iconst (4)), 1, 0, 0, 0, 4), some ((.iload_n 1), 1, 0, 0, 0, 0), some (.imul, 1, 0, 0, 0, 0), some ((.iload_n 2), 1, 0, 0, 0, 0), some (.iadd, 1, 0, 0, 0, 0), some (.baload, 1, 0, 0, 0, 0), some ((.ifCond .eq (7)), 3, 34, 0, 0, 0), none, none, some ((.iconst (1)), 1, 0, 0, 0, 1), some ((.goto (4)), 3, 35, 0, 0, 0), none, none, some ((.iconst (0)), 1, 0, 0, 0, 0), some (.ireturn, 1, 0, 0, 0, 0)]
def zt109 : List (Option zE) := [some ((.iload_n 1), 1, 0, 0, 0, 0), some ((.iconst (0)), 1, 0, 0, 0, 0), some ((.iconst (3)), 1, 0, 0, 0, 3), some ((.invokestatic 84), 3, 75, 3, 0, 0), none, none, some ((.ifCond .eq (8)), 3, 14, 0, 0, 0), none, none, some ((.bipush (-9)), 2, 0, 0, 0, -9), none, some ((.goto (9)), 3, 20, 0, 0, 0), none, none, some ((.aload_n 0), 1, 0, 0, 0, 0), some ((.getfield 13), 3, 21, 3, 1, 0), none, none, some ((.iload_n 1), 1, 0, 0, 0, 0), some (.iaload, 1, 0, 0, 0, 0), some (.ireturn, 1, 0, 0, 0, 0)]
def zt110 : List (Option zE) := [some ((.aload_n 0), 1, 0, 0, 0, 0), some ((.iload_n 1), 1, 0, 0, 0, 0), some ((.invokevirtual 109), 3, 76, 1, 21, 0), none, none, some ((.ifCond .eq (12)), 3, 17, 0, 0, 0), none, none, some ((.iload_n 2), 1, 0, 0, 0, 0), some ((.iconst (0)), 1, 0, 0, 0, 0), some ((.iconst (3)), 1, 0, 0, 0, 3), some ((.invokestatic 84), 3, 75, 3, 0, 0), none, none, some ((.ifCond .eq (8)), 3, 22, 0, 0, 0), none, none, some ((.bipush (-9)), 2, 0, 0, 0, -9), none, some ((.goto (13)), 3, 32, 0, 0, 0), none, none, some ((.aload_n 0), 1, 0, 0, 0, 0), some ((.getfield 35), 3, 21, 12, 1, 0), none, none, some ((.iconst (4)), 1, 0, 0, 0, 4), some ((.iload_n 1), 1, 0, 0, 0, 0), some (.imul, 1, 0, 0, 0, 0), some ((.iload_n 2), 1, 0, 0, 0, 0), some (.iadd, 1, 0, 0, 0, 0), some (.iaload, 1, 0, 0, 0, 0), some (.ireturn, 1, 0, 0, 0, 0)]
def zt111 : List (Option zE) := [some ((.iload_n 1), 1, 0, 0, 0, 0), some ((.iconst (0)), 1, 0, 0, 0, 0), some ((.aload_n 0), 1, 0, 0, 0, 0), some ((.getfield 80), 3, 21, 0, 0, 0), none, none, some ((.invokestatic 84), 3, 75, 3, 0, 0), none, none, some ((.ifCond .eq (8)), 3, 17, 0, 0, 0), none, none, some ((.bipush (-9)), 2, 0, 0, 0, -9), none, some ((.goto (8)), 3, 22, 0, 0, 0), none, none, some ((.aload_n 0), 1, 0, 0, 0, 0), some ((.iload_n 1), 1, 0, 0, 0, 0), some ((.invokevirtual 113), 3, 81, 1, 21, 0), none, none, some (.ireturn, 1, 0, 0, 0, 0)]
def zt112 : List (Option zE) := [some ((.iload_n 2), 1, 0, 0, 0, 0), some ((.istore_n 3), 1, 0, 0, 0, 0), some ((.iconst (0)), 1, 0, 0, 0, 0), some ((.istore 4), 2, 0, 0, 0, 0), none, some ((.iload 4), 2, 0, 0, 0, 0), none, some ((.aload_n 0), 1, 0, 0, 0, 0), some ((.getfield 96), 3, 21, 16, 0, 0), none, none, some ((.if_icmp .ge (39)), 3, 50, 0, 0, 0), none, none, some ((.iload_n 2), 1, 0, 0, 0, 0), some ((.ifCond .lt (35)), 3, 50, 0, 0, 0), none, none, some ((.aload_n 0), 1, 0, 0, 0, 0), some ((.getfield 47), 3, 21, 17, 1, 0), none, none, some ((.iload 4), 2, 0, 0, 0, 0), none, some (.iaload, 1, 0, 0, 0, 0), some ((.iload_n 1), 1, 0, 0, 0, 0), some ((.if_icmp .ne (18)), 3, 44, 0, 0, 0), none, none, some ((.iload_n 3), 1, 0, 0, 0, 0), some ((.ifCond .ne (11)), 3, 41, 0, 0, 0), none, none, some ((.aload_n 0), 1, 0, 0, 0, 0), some ((.getfield 50), 3, 21, 18, 1, 0), none, none, some ((.iload 4), 2, 0, 0, 0, 0), none, some (.iaload, 1, 0, 0, 0, 0), some (.ireturn, 1, 0, 0, 0, 0), some ((.iinc 3 (-1)), 3, 0, 0, 0, -1), none, none, some ((.iinc 4 (1)), 3, 0, 0, 0, 1), none, none, some ((.goto (-42)), 3, 5, 0, 0, 0), none, none, some ((.bipush (-9)), 2, 0, 0, 0, -9), none, some (.ireturn, 1, 0, 0, 0, 0)]
def zt113 : List (Option zE) := [some ((.iload_n 1), 1, 0, 0, 0, 0), some ((.ifCond .lt (11)), 3, 12, 0, 0, 0), none, none, some ((.iload_n 1), 1, 0, 0, 0, 0), some ((.aload_n 0), 1, 0, 0, 0, 0), some ((.getfield 137), 3, 21, 8, 0, 0), none, none, some ((.if_icmp .lt (7)), 3, 16, 0, 0, 0), none, none, some ((.iconst (-1)), 1, 0, 0, 0, -1), some ((.goto (18)), 3, 31, 0, 0, 0), none, none, some ((.iconst (4)), 1, 0, 0, 0, 4), some ((.aload_n 0), 1, 0, 0, 0, 0), some ((.getfield 26), 3, 21, 9, 1, 0), none, none, some ((.iload_n 1), 1, 0, 0, 0, 0), some (.iaload, 1, 0, 0, 0, 0), some (.imul, 1, 0, 0, 0, 0), some ((.aload_n 0), 1, 0, 0, 0, 0), some ((.getfield 29), 3, 21, 10, 1, 0), none, none, some ((.iload_n 1), 1, 0, 0, 0, 0), some (.iaload, 1, 0, 0, 0, 0), some (.iadd, 1, 0, 0, 0, 0), some (.ireturn, 1, 0, 0, 0, 0)]
def zt114 : List (Option zE) := [some ((.iload_n 1), 1, 0, 0, 0, 0), some ((.bipush (100)), 2, 0, 0, 0, 100), none, some (.idiv, 1, 0, 0, 0, 0), some ((.istore_n 2), 1, 0, 0, 0, 0), some ((.iload_n 1), 1, 0, 0, 0, 0), some ((.bipush (100)), 2, 0, 0, 0, 100), none, some ((.iload_n 2), 1, 0, 0, 0, 0), some (.imul, 1, 0, 0, 0, 0), some (.isub, 1, 0, 0, 0, 0), some ((.istore_n 3), 1, 0, 0, 0, 0), some ((.aload_n 0), 1, 0, 0, 0, 0), some ((.iload_n 2), 1, 0, 0, 0, 0), some ((.invokevirtual 109), 3, 76, 1, 21, 0), none, none, some ((.ifCond .eq (12)), 3, 29, 0, 0, 0), none, none, some ((.iload_n 3), 1, 0, 0, 0, 0), some ((.iconst (0)), 1, 0, 0, 0, 0), some ((.iconst (1)), 1, 0, 0, 0, 1), some ((.invokestatic 84), 3, 75, 3, 0, 0), none, none, some ((.ifCond .eq (6)), 3, 32, 0, 0, 0), none, none, some ((.bipush (-9)), 2, 0, 0, 0, -9), none, some (.ireturn, 1, 0, 0, 0, 0), some ((.aload_n 0), 1, 0, 0, 0, 0), some ((.getfield 38), 3, 21, 13, 1, 0), none, none, some ((.iconst (2)), 1, 0, 0, 0, 2), some ((.iload_n 2), 1, 0, 0, 0, 0), some (.imul, 1, 0, 0, 0, 0), some ((.iload_n 3), 1, 0, 0, 0, 0), some (.iadd, 1, 0, 0, 0, 0), some (.iaload, 1, 0, 0, 0, 0), some ((.istore 4), 2, 0, 0, 0, 0), none, some ((.aload_n 0), 1, 0, 0, 0, 0), some ((.getfield 38), 3, 21, 13, 1, 0), none, none, some ((.iconst (2)), 1, 0, 0, 0, 2), some ((.iload_n 2), 1, 0, 0, 0, 0), some (.imul, 1, 0, 0, 0, 0), some ((.iload_n 3), 1, 0, 0, 0, 0), some (.iadd, 1, 0, 0, 0, 0), some ((.iconst (-1)), 1, 0, 0, 0, -1), some (.iastore, 1, 0, 0, 0, 0), some ((.iload 4), 2, 0, 0, 0, 0), none, some (.ireturn, 1, 0, 0, 0, 0)]
def zt115 : List (Option zE) := []
def zt116 : List (Option zE) := [some ((.iload_n 1), 1, 0, 0, 0, 0), some ((.aload_n 0), 1, 0, 0, 0, 0), some (.arraylength, 1, 101, 0, 0, 0), some ((.if_icmp .ge (9)), 3, 12, 0, 0, 0), none, none, some ((.aload_n 0), 1, 0, 0, 0, 0), some ((.iload_n 1), 1, 0, 0, 0, 0), some (.iaload, 1, 0, 0, 0, 0), some ((.goto (4)), 3, 13, 0, 0, 0), none, none, some ((.iconst (0)), 1, 0, 0, 0, 0), some (.ireturn, 1, 0, 0, 0, 0)]
def zt117 : List (Option zE) := [some ((.new 7), 3, 3, 14, 0, 0), none, none, some (.dup, 1, 0, 0, 0, 0), some ((.aload_n 0), 1, 0, 0, 0, 0), some ((.iconst (0)), 1, 0, 0, 0, 0), some ((.invokestatic 9), 3, 116, 2, 0, 0), none, none, some ((.invokespecial 15), 3, 0, 1, 3, 0), none, none, some ((.astore_n 1), 1, 0, 0, 0, 0), some ((.new 18), 3, 21, 30, 0, 0), none, none, some (.dup, 1, 0, 0, 0, 0), some ((.aload_n 0), 1, 0, 0, 0, 0), some ((.iconst (0)), 1, 0, 0, 0, 0), some ((.invokestatic 9), 3, 116, 2, 0, 0), none, none, some ((.invokespecial 20), 3, 74, 1, 21, 0), none, none, some ((.astore_n 2), 1, 0, 0, 0, 0), some ((.iconst (1)), 1, 0, 0, 0, 1), some ((.istore_n 3), 1, 0, 0, 0, 0), some ((.iload_n 3), 1, 0, 0, 0, 0), some ((.aload_n 0), 1, 0, 0, 0, 0), some (.arraylength, 1, 101, 0, 0, 0), some ((.iconst (4)), 1, 0, 0, 0, 4), some (.isub, 1, 0, 0, 0, 0), some ((.if_icmp .gt (591)), 3, 624, 0, 0, 0), none, none, some ((.aload_n 0), 1, 0, 0, 0, 0), some ((.iload_n 3), 1, 0, 0, 0, 0), some (.iaload, 1, 0, 0, 0, 0), some ((.bipush (31)), 2, 0, 0, 0, 31), none, some (.iand, 1, 0, 0, 0, 0), some ((.tableswitch (576) (0) (17) #[86, 119, 178, 211, 234, 257, 280, 303, 326, 339, 372, 385, 418, 441, 474, 497, 530, 553]), 86, 0, 0, 0, 0), none, none, none, none, none, none, none, none, none, none, none, none, none, none, none, none, none, none, none, none, none, none, none, none, none, none, none, none, none, none, none, none, none, none, none, none, none, none, none, none, none, none, none, none, none, none, none, none, none, none, none, none, none, none, none, none, none, none, none, none, none, none, none, none, none, none, none, none, none, none, none, none, none, none, none, none, none, none, none, none, none, none, none, none, none, some ((.aload_n 1), 1, 0, 0, 0, 0), some ((.aload_n 0), 1, 0, 0, 0, 0), some ((.iload_n 3), 1, 0, 0, 0, 0), some ((.iconst (1)), 1, 0, 0, 0, 1), some (.iadd, 1, 0, 0, 0, 0), some (.iaload, 1, 0, 0, 0, 0), some ((.aload_n 0), 1, 0, 0, 0, 0), some ((.iload_n 3), 1, 0, 0, 0, 0), some ((.iconst (2)), 1, 0, 0, 0, 2), some (.iadd, 1, 0, 0, 0, 0), some (.iaload, 1, 0, 0, 0, 0), some ((.invokevirtual 21), 3, 1, 2, 3, 0), none, none, some ((.aload_n 2), 1, 0, 0, 0, 0), some ((.aload_n 0), 1, 0, 0, 0, 0), some ((.iload_n 3), 1, 0, 0, 0, 0), some ((.iconst (1)), 1, 0, 0, 0, 1), some (.iadd, 1, 0, 0, 0, 0), some (.iaload, 1, 0, 0, 0, 0), some ((.aload_n 0), 1, 0, 0, 0, 0), some ((.iload_n 3), 1, 0, 0, 0, 0), some ((.iconst (2)), 1, 0, 0, 0, 2), some (.iadd, 1, 0, 0, 0, 0), some (.iaload, 1, 0, 0, 0, 0), some ((.invokevirtual 25), 3, 78, 2, 21, 0), none, none, some ((.if_icmp .eq (462)), 3, 618, 0, 0, 0), none, none, some ((.iconst (0)), 1, 0, 0, 0, 0), some (.ireturn, 1, 0, 0, 0, 0), some ((.aload_n 1), 1, 0, 0, 0, 0), some ((.aload_n 0), 1, 0, 0, 0, 0), some ((.iload_n 3), 1, 0, 0, 0, 0), some ((.iconst (1)), 1, 0, 0, 0, 1), some (.iadd, 1, 0, 0, 0, 0), some (.iaload, 1, 0, 0, 0, 0), some ((.aload_n 0), 1, 0, 0, 0, 0), some ((.iload_n 3), 1, 0, 0, 0, 0), some ((.iconst (2)), 1, 0, 0, 0, 2), some (.iadd, 1, 0, 0, 0, 0), some (.iaload, 1, 0, 0, 0, 0), some ((.aload_n 0), 1, 0, 0, 0, 0), some ((.iload_n 3), 1, 0, 0, 0, 0), some ((.iconst (3)), 1, 0, 0, 0, 3), some (.iadd, 1, 0, 0, 0, 0), some (.iaload, 1, 0, 0, 0, 0), some ((.ifCond .eq (7)), 3, 184, 0, 0, 0), none, none, some ((.iconst (1)), 1, 0, 0, 0, 1), some ((.goto (4)), 3, 185, 0, 0, 0), none, none, some ((.iconst (0)), 1, 0, 0, 0, 0), some ((.invokevirtual 26), 3, 2, 3, 3, 0), none, none, some ((.aload_n 2), 1, 0, 0, 0, 0), some ((.aload_n 0), 1, 0, 0, 0, 0), some ((.iload_n 3), 1, 0, 0, 0, 0), some ((.iconst (1)), 1, 0, 0, 0, 1), some (.iadd, 1, 0, 0, 0, 0), some (.iaload, 1, 0, 0, 0, 0), some ((.aload_n 0), 1, 0, 0, 0, 0), some ((.iload_n 3), 1, 0, 0, 0, 0), some ((.iconst (2)), 1, 0, 0, 0, 2), some (.iadd, 1, 0, 0, 0, 0), some (.iaload, 1, 0, 0, 0, 0), some ((.aload_n 0), 1, 0, 0, 0, 0), some ((.iload_n 3), 1, 0, 0, 0, 0), some ((.iconst (3)), 1, 0, 0, 0, 3), some (.iadd, 1, 0, 0, 0, 0), some (.iaload, 1, 0, 0, 0, 0), some ((.ifCond .eq (7)), 3, 211, 0, 0, 0), none, none, some ((.iconst (1)), 1, 0, 0, 0, 1), some ((.goto (4)), 3, 212, 0, 0, 0), none, none, some ((.iconst (0)), 1, 0, 0, 0, 0), some ((.invokevirtual 30), 3, 79, 3, 21, 0), none, none, some ((.if_icmp .eq (403)), 3, 618, 0, 0, 0), none, none, some ((.iconst (0)), 1, 0, 0, 0, 0), some (.ireturn, 1, 0, 0, 0, 0), some ((.aload_n 1), 1, 0, 0, 0, 0), some ((.aload_n 0), 1, 0, 0, 0, 0), some ((.iload_n 3), 1, 0, 0, 0, 0), some ((.iconst (1)), 1, 0, 0, 0, 1), some (.iadd, 1, 0, 0, 0, 0), some (.iaload, 1, 0, 0, 0, 0), some ((.aload_n 0), 1, 0, 0, 0, 0), some ((.iload_n 3), 1, 0, 0, 0, 0), some ((.iconst (2)), 1, 0, 0, 0, 2), some (.iadd, 1, 0, 0, 0, 0), some (.iaload, 1, 0, 0, 0, 0), some ((.invokevirtual 31), 3, 3, 2, 3, 0), none, none, some ((.aload_n 2), 1, 0, 0, 0, 0), some ((.aload_n 0), 1, 0, 0, 0, 0), some ((.iload_n 3), 1, 0, 0, 0, 0), some ((.iconst (1)), 1, 0, 0, 0, 1), some (.iadd, 1, 0, 0, 0, 0), some (.iaload, 1, 0, 0, 0, 0), some ((.aload_n 0), 1, 0, 0, 0, 0), some ((.iload_n 3), 1, 0, 0, 0, 0), some ((.iconst (2)), 1, 0, 0, 0, 2), some (.iadd, 1, 0, 0, 0, 0), some (.iaload, 1, 0, 0, 0, 0), some ((.invokevirtual 35), 3, 89, 2, 21, 0), none, none, some ((.if_icmp .eq (370)), 3, 618, 0, 0, 0), none, none, some ((.iconst (0)), 1, 0, 0, 0, 0), some (.ireturn, 1, 0, 0, 0, 0), some ((.aload_n 1), 1, 0, 0, 0, 0), some ((.aload_n 0), 1, 0, 0, 0, 0), some ((.iload_n 3), 1, 0, 0, 0, 0), some ((.iconst (1)), 1, 0, 0, 0, 1), some (.iadd, 1, 0, 0, 0, 0), some (.iaload, 1, 0, 0, 0, 0), some ((.invokevirtual 36), 3, 4, 1, 3, 0), none, none, some ((.aload_n 2), 1, 0, 0, 0, 0), some ((.aload_n 0), 1, 0, 0, 0, 0), some ((.iload_n 3), 1, 0, 0, 0, 0), some ((.iconst (1)), 1, 0, 0, 0, 1), some (.iadd, 1, 0, 0, 0, 0), some (.iaload, 1, 0, 0, 0, 0), some ((.invokevirtual 40), 3, 90, 1, 21, 0), none, none, some ((.if_icmp .eq (347)), 3, 618, 0, 0, 0), none, none, some ((.iconst (0)), 1, 0, 0, 0, 0), some (.ireturn, 1, 0, 0, 0, 0), some ((.aload_n 1), 1, 0, 0, 0, 0), some ((.aload_n 0), 1, 0, 0, 0, 0), some ((.iload_n 3), 1, 0, 0, 0, 0), some ((.iconst (1)), 1, 0, 0, 0, 1), some (.iadd, 1, 0, 0, 0, 0), some (.iaload, 1, 0, 0, 0, 0), some ((.invokevirtual 41), 3, 5, 1, 3, 0), none, none, some ((.aload_n 2), 1, 0, 0, 0, 0), some ((.aload_n 0), 1, 0, 0, 0, 0), some ((.iload_n 3), 1, 0, 0, 0, 0), some ((.iconst (1)), 1, 0, 0, 0, 1), some (.iadd, 1, 0, 0, 0, 0), some (.iaload, 1, 0, 0, 0, 0), some ((.invokevirtual 44), 3, 92, 1, 21, 0), none, none, some ((.if_icmp .eq (324)), 3, 618, 0, 0, 0), none, none, some ((.iconst (0)), 1, 0, 0, 0, 0), some (.ireturn, 1, 0, 0, 0, 0), some ((.aload_n 1), 1, 0, 0, 0, 0), some ((.aload_n 0), 1, 0, 0, 0, 0), some ((.iload_n 3), 1, 0, 0, 0, 0), some ((.iconst (1)), 1, 0, 0, 0, 1), some (.iadd, 1, 0, 0, 0, 0), some (.iaload, 1, 0, 0, 0, 0), some ((.invokevirtual 45), 3, 6, 1, 3, 0), none, none, some ((.aload_n 2), 1, 0, 0, 0, 0), some ((.aload_n 0), 1, 0, 0, 0, 0), some ((.iload_n 3), 1, 0, 0, 0, 0), some ((.iconst (1)), 1, 0, 0, 0, 1), some (.iadd, 1, 0, 0, 0, 0), some (.iaload, 1, 0, 0, 0, 0), some ((.invokevirtual 48), 3, 101, 1, 21, 0), none, none, some ((.if_icmp .eq (301)), 3, 618, 0, 0, 0), none, none, some ((.iconst (0)), 1, 0, 0, 0, 0), some (.ireturn, 1, 0, 0, 0, 0), some ((.aload_n 1), 1, 0, 0, 0, 0), some ((.aload_n 0), 1, 0, 0, 0, 0), some ((.iload_n 3), 1, 0, 0, 0, 0), some ((.iconst (1)), 1, 0, 0, 0, 1), some (.iadd, 1, 0, 0, 0, 0), some (.iaload, 1, 0, 0, 0, 0), some ((.invokevirtual 49), 3, 7, 1, 3, 0), none, none, some ((.aload_n 2), 1, 0, 0, 0, 0), some ((.aload_n 0), 1, 0, 0, 0, 0), some ((.iload_n 3), 1, 0, 0, 0, 0), some ((.iconst (1)), 1, 0, 0, 0, 1), some (.iadd, 1, 0, 0, 0, 0), some (.iaload, 1, 0, 0, 0, 0), some ((.invokevirtual 53), 3, 102, 1, 21, 0), none, none, some ((.if_icmp .eq (278)), 3, 618, 0, 0, 0), none, none, some ((.iconst (0)), 1, 0, 0, 0, 0), some (.ireturn, 1, 0, 0, 0, 0), some ((.aload_n 1), 1, 0, 0, 0, 0), some ((.aload_n 0), 1, 0, 0, 0, 0), some ((.iload_n 3), 1, 0, 0, 0, 0), some ((.iconst (1)), 1, 0, 0, 0, 1), some (.iadd, 1, 0, 0, 0, 0), some (.iaload, 1, 0, 0, 0, 0), some ((.invokevirtual 54), 3, 8, 1, 3, 0), none, none, some ((.aload_n 2), 1, 0, 0, 0, 0), some ((.aload_n 0), 1, 0, 0, 0, 0), some ((.iload_n 3), 1, 0, 0, 0, 0), some ((.iconst (1)), 1, 0, 0, 0, 1), some (.iadd, 1, 0, 0, 0, 0), some (.iaload, 1, 0, 0, 0, 0), some ((.invokevirtual 57), 3, 103, 1, 21, 0), none, none, some ((.if_icmp .eq (255)), 3, 618, 0, 0, 0), none, none, some ((.iconst (0)), 1, 0, 0, 0, 0), some (.ireturn, 1, 0, 0, 0, 0), some ((.aload_n 1), 1, 0, 0, 0, 0), some ((.invokevirtual 58), 3, 9, 0, 3, 0), none, none, some ((.aload_n 2), 1, 0, 0, 0, 0), some ((.invokevirtual 62), 3, 104, 0, 21, 0), none, none, some ((.if_icmp .eq (242)), 3, 618, 0, 0, 0), none, none, some ((.iconst (0)), 1, 0, 0, 0, 0), some (.ireturn, 1, 0, 0, 0, 0), some ((.aload_n 1), 1, 0, 0, 0, 0), some ((.aload_n 0), 1, 0, 0, 0, 0), some ((.iload_n 3), 1, 0, 0, 0, 0), some ((.iconst (1)), 1, 0, 0, 0, 1), some (.iadd, 1, 0, 0, 0, 0), some (.iaload, 1, 0, 0, 0, 0), some ((.aload_n 0), 1, 0, 0, 0, 0), some ((.iload_n 3), 1, 0, 0, 0, 0), some ((.iconst (2)), 1, 0, 0, 0, 2), some (.iadd, 1, 0, 0, 0, 0), some (.iaload, 1, 0, 0, 0, 0), some ((.invokevirtual 63), 3, 10, 2, 3, 0), none, none, some ((.aload_n 2), 1, 0, 0, 0, 0), some ((.aload_n 0), 1, 0, 0, 0, 0), some ((.iload_n 3), 1, 0, 0, 0, 0), some ((.iconst (1)), 1, 0, 0, 0, 1), some (.iadd, 1, 0, 0, 0, 0), some (.iaload, 1, 0, 0, 0, 0), some ((.aload_n 0), 1, 0, 0, 0, 0), some ((.iload_n 3), 1, 0, 0, 0, 0), some ((.iconst (2)), 1, 0, 0, 0, 2), some (.iadd, 1, 0, 0, 0, 0), some (.iaload, 1, 0, 0, 0, 0), some ((.invokevirtual 66), 3, 105, 2, 21, 0), none, none, some ((.if_icmp .eq (209)), 3, 618, 0, 0, 0), none, none, some ((.iconst (0)), 1, 0, 0, 0, 0), some (.ireturn, 1, 0, 0, 0, 0), some ((.aload_n 1), 1, 0, 0, 0, 0), some ((.invokevirtual 67), 3, 11, 0, 3, 0), none, none, some ((.aload_n 2), 1, 0, 0, 0, 0), some ((.invokevirtual 70), 3, 107, 0, 21, 0), none, none, some ((.if_icmp .eq (196)), 3, 618, 0, 0, 0), none, none, some ((.iconst (0)), 1, 0, 0, 0, 0), some (.ireturn, 1, 0, 0, 0, 0), some ((.aload_n 1), 1, 0, 0, 0, 0), some ((.aload_n 0), 1, 0, 0, 0, 0), some ((.iload_n 3), 1, 0, 0, 0, 0), some ((.iconst (1)), 1, 0, 0, 0, 1), some (.iadd, 1, 0, 0, 0, 0), some (.iaload, 1, 0, 0, 0, 0), some ((.aload_n 0), 1, 0, 0, 0, 0), some ((.iload_n 3), 1, 0, 0, 0, 0), some ((.iconst (2)), 1, 0, 0, 0, 2), some (.iadd, 1, 0, 0, 0, 0), some (.iaload, 1, 0, 0, 0, 0), some ((.invokevirtual 71), 3, 12, 2, 3, 0), none, none, some ((.aload_n 2), 1, 0, 0, 0, 0), some ((.aload_n 0), 1, 0, 0, 0, 0), some ((.iload_n 3), 1, 0, 0, 0, 0), some ((.iconst (1)), 1, 0, 0, 0, 1), some (.iadd, 1, 0, 0, 0, 0), some (.iaload, 1, 0, 0, 0, 0), some ((.aload_n 0), 1, 0, 0, 0, 0), some ((.iload_n 3), 1, 0, 0, 0, 0), some ((.iconst (2)), 1, 0, 0, 0, 2), some (.iadd, 1, 0, 0, 0, 0), some (.iaload, 1, 0, 0, 0, 0), some ((.invokevirtual 74), 3, 108, 2, 21, 0), none, none, some ((.if_icmp .eq (163)), 3, 618, 0, 0, 0), none, none, some ((.iconst (0)), 1, 0, 0, 0, 0), some (.ireturn, 1, 0, 0, 0, 0), some ((.aload_n 1), 1, 0, 0, 0, 0), some ((.aload_n 0), 1, 0, 0, 0, 0), some ((.iload_n 3), 1, 0, 0, 0, 0), some ((.iconst (1)), 1, 0, 0, 0, 1), some (.iadd, 1, 0, 0, 0, 0), some (.iaload, 1, 0, 0, 0, 0), some ((.invokevirtual 75), 3, 13, 1, 3, 0), none, none, some ((.aload_n 2), 1, 0, 0, 0, 0), some ((.aload_n 0), 1, 0, 0, 0, 0), some ((.iload_n 3), 1, 0, 0, 0, 0), some ((.iconst (1)), 1, 0, 0, 0, 1), some (.iadd, 1, 0, 0, 0, 0), some (.iaload, 1, 0, 0, 0, 0), some ((.invokevirtual 78), 3, 109, 1, 21, 0), none, none, some ((.if_icmp .eq (140)), 3, 618, 0, 0, 0), none, none, some ((.iconst (0)), 1, 0, 0, 0, 0), some (.ireturn, 1, 0, 0, 0, 0), some ((.aload_n 1), 1, 0, 0, 0, 0), some ((.aload_n 0), 1, 0, 0, 0, 0), some ((.iload_n 3), 1, 0, 0, 0, 0), some ((.iconst (1)), 1, 0, 0, 0, 1), some (.iadd, 1, 0, 0, 0, 0), some (.iaload, 1, 0, 0, 0, 0), some ((.aload_n 0), 1, 0, 0, 0, 0), some ((.iload_n 3), 1, 0, 0, 0, 0), some ((.iconst (2)), 1, 0, 0, 0, 2), some (.iadd, 1, 0, 0, 0, 0), some (.iaload, 1, 0, 0, 0, 0), some ((.invokevirtual 79), 3, 14, 2, 3, 0), none, none, some ((.aload_n 2), 1, 0, 0, 0, 0), some ((.aload_n 0), 1, 0, 0, 0, 0), some ((.iload_n 3), 1, 0, 0, 0, 0), some ((.iconst (1)), 1, 0, 0, 0, 1), some (.iadd, 1, 0, 0, 0, 0), some (.iaload, 1, 0, 0, 0, 0), some ((.aload_n 0), 1, 0, 0, 0, 0), some ((.iload_n 3), 1, 0, 0, 0, 0), some ((.iconst (2)), 1, 0, 0, 0, 2), some (.iadd, 1, 0, 0, 0, 0), some (.iaload, 1, 0, 0, 0, 0), some ((.invokevirtual 82), 3, 110, 2, 21, 0), none, none, some ((.if_icmp .eq (107)), 3, 618, 0, 0, 0), none, none, some ((.iconst (0)), 1, 0, 0, 0, 0), some (.ireturn, 1, 0, 0, 0, 0), some ((.aload_n 1), 1, 0, 0, 0, 0), some ((.aload_n 0), 1, 0, 0, 0, 0), some ((.iload_n 3), 1, 0, 0, 0, 0), some ((.iconst (1)), 1, 0, 0, 0, 1), some (.iadd, 1, 0, 0, 0, 0), some (.iaload, 1, 0, 0, 0, 0), some ((.invokevirtual 83), 3, 15, 1, 3, 0), none, none, some ((.aload_n 2), 1, 0, 0, 0, 0), some ((.aload_n 0), 1, 0, 0, 0, 0), some ((.iload_n 3), 1, 0, 0, 0, 0), some ((.iconst (1)), 1, 0, 0, 0, 1), some (.iadd, 1, 0, 0, 0, 0), some (.iaload, 1, 0, 0, 0, 0), some ((.invokevirtual 86), 3, 111, 1, 21, 0), none, none, some ((.if_icmp .eq (84)), 3, 618, 0, 0, 0), none, none, some ((.iconst (0)), 1, 0, 0, 0, 0), some (.ireturn, 1, 0, 0, 0, 0), some ((.aload_n 1), 1, 0, 0, 0, 0), some ((.aload_n 0), 1, 0, 0, 0, 0), some ((.iload_n 3), 1, 0, 0, 0, 0), some ((.iconst (1)), 1, 0, 0, 0, 1), some (.iadd, 1, 0, 0, 0, 0), some (.iaload, 1, 0, 0, 0, 0), some ((.aload_n 0), 1, 0, 0, 0, 0), some ((.iload_n 3), 1, 0, 0, 0, 0), some ((.iconst (2)), 1, 0, 0, 0, 2), some (.iadd, 1, 0, 0, 0, 0), some (.iaload, 1, 0, 0, 0, 0), some ((.invokevirtual 87), 3, 16, 2, 3, 0), none, none, some ((.aload_n 2), 1, 0, 0, 0, 0), some ((.aload_n 0), 1, 0, 0, 0, 0), some ((.iload_n 3), 1, 0, 0, 0, 0), some ((.iconst (1)), 1, 0, 0, 0, 1), some (.iadd, 1, 0, 0, 0, 0), some (.iaload, 1, 0, 0, 0, 0), some ((.aload_n 0), 1, 0, 0, 0, 0), some ((.iload_n 3), 1, 0, 0, 0, 0), some ((.iconst (2)), 1, 0, 0, 0, 2), some (.iadd, 1, 0, 0, 0, 0), some (.iaload, 1, 0, 0, 0, 0), some ((.invokevirtual 90), 3, 112, 2, 21, 0), none, none, some ((.if_icmp .eq (51)), 3, 618, 0, 0, 0), none, none, some ((.iconst (0)), 1, 0, 0, 0, 0), some (.ireturn, 1, 0, 0, 0, 0), some ((.aload_n 1), 1, 0, 0, 0, 0), some ((.aload_n 0), 1, 0, 0, 0, 0), some ((.iload_n 3), 1, 0, 0, 0, 0), some ((.iconst (1)), 1, 0, 0, 0, 1), some (.iadd, 1, 0, 0, 0, 0), some (.iaload, 1, 0, 0, 0, 0), some ((.invokevirtual 91), 3, 17, 1, 3, 0), none, none, some ((.aload_n 2), 1, 0, 0, 0, 0), some ((.aload_n 0), 1, 0, 0, 0, 0), some ((.iload_n 3), 1, 0, 0, 0, 0), some ((.iconst (1)), 1, 0, 0, 0, 1), some (.iadd, 1, 0, 0, 0, 0), some (.iaload, 1, 0, 0, 0, 0), some ((.invokevirtual 94), 3, 113, 1, 21, 0), none, none, some ((.if_icmp .eq (28)), 3, 618, 0, 0, 0), none, none, some ((.iconst (0)), 1, 0, 0, 0, 0), some (.ireturn, 1, 0, 0, 0, 0), some ((.aload_n 1), 1, 0, 0, 0, 0), some ((.aload_n 0), 1, 0, 0, 0, 0), some ((.iload_n 3), 1, 0, 0, 0, 0), some ((.iconst (1)), 1, 0, 0, 0, 1), some (.iadd, 1, 0, 0, 0, 0), some (.iaload, 1, 0, 0, 0, 0), some ((.invokevirtual 95), 3, 18, 1, 3, 0), none, none, some ((.aload_n 2), 1, 0, 0, 0, 0), some ((.aload_n 0), 1, 0, 0, 0, 0), some ((.iload_n 3), 1, 0, 0, 0, 0), some ((.iconst (1)), 1, 0, 0, 0, 1), some (.iadd, 1, 0, 0, 0, 0), some (.iaload, 1, 0, 0, 0, 0), some ((.invokevirtual 98), 3, 114, 1, 21, 0), none, none, some ((.if_icmp .eq (5)), 3, 618, 0, 0, 0), none, none, some ((.iconst (0)), 1, 0, 0, 0, 0), some (.ireturn, 1, 0, 0, 0, 0), some ((.iinc 3 (4)), 3, 0, 0, 0, 4), none, none, some ((.goto (-593)), 3, 28, 0, 0, 0), none, none, some ((.iconst (1)), 1, 0, 0, 0, 1), some (.ireturn, 1, 0, 0, 0, 0)]
abbrev zm0 : zMt := (zt0, 2, 80, 600)
abbrev zm1 : zMt := (zt1, 1, 0, 0)
abbrev zm2 : zMt := (zt2, 1, 0, 0)
abbrev zm3 : zMt := (zt3, 0, 0, 0)
abbrev zm4 : zMt := (zt4, 0, 0, 0)
abbrev zm5 : zMt := (zt5, 0, 0, 0)
abbrev zm6 : zMt := (zt6, 0, 0, 0)
abbrev zm7 : zMt := (zt7, 1, 0, 0)
abbrev zm8 : zMt := (zt8, 1, 0, 0)
abbrev zm9 : zMt := (zt9, 0, 0, 0)
abbrev zm10 : zMt := (zt10, 0, 0, 0)
abbrev zm11 : zMt := (zt11, 0, 0, 0)
abbrev zm12 : zMt := (zt12, 1, 0, 0)
abbrev zm13 : zMt := (zt13, 0, 0, 0)
abbrev zm14 : zMt := (zt14, 0, 0, 0)
abbrev zm15 : zMt := (zt15, 0, 0, 0)
abbrev zm16 : zMt := (zt16, 0, 0, 0)
abbrev zm17 : zMt := (zt17, 0, 0, 0)
abbrev zm18 : zMt := (zt18, 0, 0, 0)
abbrev zm19 : zMt := (zt19, 1, 0, 0)
abbrev zm20 : zMt := (zt20, 1, 0, 0)
abbrev zm21 : zMt := (zt21, 1, 0, 0)
abbrev zm22 : zMt := (zt22, 0, 0, 0)
abbrev zm23 : zMt := (zt23, 2, 0, 0)
abbrev zm24 : zMt := (zt24, 2, 0, 0)
abbrev zm25 : zMt := (zt25, 1, 0, 0)
abbrev zm26 : zMt := (zt26, 1, 0, 0)
abbrev zm27 : zMt := (zt27, 2, 0, 0)
abbrev zm28 : zMt := (zt28, 2, 0, 0)
abbrev zm29 : zMt := (zt29, 2, 0, 0)
abbrev zm30 : zMt := (zt30, 2, 0, 0)
abbrev zm31 : zMt := (zt31, 2, 0, 0)
abbrev zm32 : zMt := (zt32, 2, 0, 0)
abbrev zm33 : zMt := (zt33, 2, 0, 0)
abbrev zm34 : zMt := (zt34, 2, 0, 0)
abbrev zm35 : zMt := (zt35, 2, 0, 0)
abbrev zm36 : zMt := (zt36, 2, 0, 0)
abbrev zm37 : zMt := (zt37, 2, 3, 18)
abbrev zm38 : zMt := (zt38, 1, 0, 0)
abbrev zm39 : zMt := (zt39, 0, 0, 0)
abbrev zm40 : zMt := (zt40, 1, 0, 0)
abbrev zm41 : zMt := (zt41, 2, 1, 6)
abbrev zm42 : zMt := (zt42, 1, 0, 0)
abbrev zm43 : zMt := (zt43, 1, 0, 0)
abbrev zm44 : zMt := (zt44, 0, 0, 0)
abbrev zm45 : zMt := (zt45, 2, 0, 0)
abbrev zm46 : zMt := (zt46, 2, 0, 0)
abbrev zm47 : zMt := (zt47, 0, 0, 0)
abbrev zm48 : zMt := (zt48, 2, 2, 40)
abbrev zm49 : zMt := (zt49, 2, 0, 0)
abbrev zm50 : zMt := (zt50, 2, 0, 0)
abbrev zm51 : zMt := (zt51, 0, 0, 0)
abbrev zm52 : zMt := (zt52, 0, 0, 0)
abbrev zm53 : zMt := (zt53, 2, 2, 20)
abbrev zm54 : zMt := (zt54, 0, 0, 0)
abbrev zm55 : zMt := (zt55, 0, 0, 0)
abbrev zm56 : zMt := (zt56, 2, 0, 0)
abbrev zm57 : zMt := (zt57, 2, 0, 0)
abbrev zm58 : zMt := (zt58, 2, 5, 28)
abbrev zm59 : zMt := (zt59, 1, 0, 0)
abbrev zm60 : zMt := (zt60, 0, 0, 0)
abbrev zm61 : zMt := (zt61, 0, 0, 0)
abbrev zm62 : zMt := (zt62, 0, 0, 0)
abbrev zm63 : zMt := (zt63, 0, 0, 0)
abbrev zm64 : zMt := (zt64, 2, 0, 0)
abbrev zm65 : zMt := (zt65, 2, 0, 0)
abbrev zm66 : zMt := (zt66, 2, 0, 0)
abbrev zm67 : zMt := (zt67, 0, 0, 0)
abbrev zm68 : zMt := (zt68, 2, 25, 192)
abbrev zm69 : zMt := (zt69, 1, 0, 0)
abbrev zm70 : zMt := (zt70, 1, 0, 0)
abbrev zm71 : zMt := (zt71, 2, 0, 0)
abbrev zm72 : zMt := (zt72, 2, 0, 0)
abbrev zm73 : zMt := (zt73, 2, 0, 0)
abbrev zm74 : zMt := (zt74, 2, 23, 1429)
abbrev zm75 : zMt := (zt75, 1, 0, 0)
abbrev zm76 : zMt := (zt76, 1, 0, 0)
abbrev zm77 : zMt := (zt77, 0, 0, 0)
abbrev zm78 : zMt := (zt78, 1, 0, 0)
abbrev zm79 : zMt := (zt79, 1, 0, 0)
abbrev zm80 : zMt := (zt80, 1, 0, 0)
abbrev zm81 : zMt := (zt81, 0, 0, 0)
abbrev zm82 : zMt := (zt82, 0, 0, 0)
abbrev zm83 : zMt := (zt83, 0, 0, 0)
abbrev zm84 : zMt := (zt84, 0, 0, 0)
abbrev zm85 : zMt := (zt85, 2, 0, 0)
abbrev zm86 : zMt := (zt86, 2, 0, 0)
abbrev zm87 : zMt := (zt87, 2, 0, 0)
abbrev zm88 : zMt := (zt88, 2, 0, 0)
abbrev zm89 : zMt := (zt89, 0, 0, 0)
abbrev zm90 : zMt := (zt90, 0, 0, 0)
abbrev zm91 : zMt := (zt91, 0, 0, 0)
abbrev zm92 : zMt := (zt92, 0, 0, 0)
abbrev zm93 : zMt := (zt93, 0, 0, 0)
abbrev zm94 : zMt := (zt94, 2, 0, 0)
abbrev zm95 : zMt := (zt95, 2, 0, 0)
abbrev zm96 : zMt := (zt96, 2, 0, 0)
abbrev zm97 : zMt := (zt97, 2, 0, 0)
abbrev zm98 : zMt := (zt98, 2, 0, 0)
abbrev zm99 : zMt := (zt99, 2, 0, 0)
abbrev zm100 : zMt := (zt100, 2, 0, 0)
abbrev zm101 : zMt := (zt101, 0, 0, 0)
abbrev zm102 : zMt := (zt102, 1, 0, 0)
abbrev zm103 : zMt := (zt103, 1, 0, 0)
abbrev zm104 : zMt := (zt104, 0, 0, 0)
abbrev zm105 : zMt := (zt105, 0, 0, 0)
abbrev zm106 : zMt := (zt106, 2, 0, 0)
abbrev zm107 : zMt := (zt107, 0, 0, 0)
abbrev zm108 : zMt := (zt108, 1, 0, 0)
abbrev zm109 : zMt := (zt109, 0, 0, 0)
abbrev zm110 : zMt := (zt110, 0, 0, 0)
abbrev zm111 : zMt := (zt111, 0, 0, 0)
abbrev zm112 : zMt := (zt112, 0, 0, 0)
abbrev zm113 : zMt := (zt113, 0, 0, 0)
abbrev zm114 : zMt := (zt114, 0, 0, 0)
abbrev zm115 : zMt := (zt115, 2, 0, 0)
abbrev zm116 : zMt := (zt116, 0, 0, 0)
abbrev zm117 : zMt := (zt117, 1, 200, 4000)
def zTab (y : Nat) : zMt := [zm0, zm1, zm2, zm3, zm4, zm5, zm6, zm7, zm8, zm9, zm10, zm11, zm12, zm13, zm14, zm15, zm16, zm17, zm18, zm19, zm20, zm21, zm22, zm23, zm24, zm25, zm26, zm27, zm28, zm29, zm30, zm31, zm32, zm33, zm34, zm35, zm36, zm37, zm38, zm39, zm40, zm41, zm42, zm43, zm44, zm45, zm46, zm47, zm48, zm49, zm50, zm51, zm52, zm53, zm54, zm55, zm56, zm57, zm58, zm59, zm60, zm61, zm62, zm63, zm64, zm65, zm66, zm67, zm68, zm69, zm70, zm71, zm72, zm73, zm74, zm75, zm76, zm77, zm78, zm79, zm80, zm81, zm82, zm83, zm84, zm85, zm86, zm87, zm88, zm89, zm90, zm91, zm92, zm93, zm94, zm95, zm96, zm97, zm98, zm99, zm100, zm101, zm102, zm103, zm104, zm105, zm106, zm107, zm108, zm109, zm110, zm111, zm112, zm113, zm114, zm115, zm116, zm117].getD y ([], 0, 0, 0)
def zNum : Nat := 118
def zMl (y : Nat) : Nat := [3, 3, 4, 5, 4, 2, 2, 2, 2, 1, 3, 2, 3, 2, 3, 2, 3, 2, 4, 2, 2, 1, 2, 2, 5, 3, 3, 3, 3, 4, 4, 3, 4, 2, 5, 4, 5, 1, 5, 4, 5, 1, 1, 2, 2, 2, 4, 3, 1, 2, 4, 3, 3, 3, 6, 5, 3, 1, 3, 1, 7, 3, 6, 5, 4, 1, 2, 2, 2, 2, 1, 9, 2, 4, 3, 3, 2, 3, 3, 5, 5, 4, 4, 6, 6, 3, 3, 8, 3, 4, 3, 3, 3, 4, 5, 5, 9, 7, 6, 7, 7, 6, 2, 3, 1, 3, 4, 3, 3, 2, 3, 2, 5, 2, 5, 1, 2, 4].getD y 0
def zMc (y : Nat) : Nat := (zTab y).2.2.1
def zMs (y : Nat) : Nat := (zTab y).2.2.2
def zOn (y : Nat) : Nat := [0, 0, 0, 0, 0, 0, 0, 0, 0, 0, 0, 0, 0, 0, 0, 0, 0, 0, 0, 0, 0, 0, 0, 0, 0, 0, 0, 0, 0, 0, 0, 0, 0, 0, 0, 0, 0, 1, 1, 1, 1, 2, 2, 2, 2, 2, 2, 2, 3, 3, 3, 3, 3, 4, 4, 4, 4, 5, 6, 6, 6, 6, 6, 6, 6, 7, 7, 7, 8, 8, 8, 8, 8, 8, 9, 9, 9, 9, 9, 9, 9, 9, 9, 9, 9, 9, 9, 9, 9, 9, 9, 9, 9, 9, 9, 9, 9, 9, 9, 9, 9, 9, 9, 9, 9, 9, 9, 9, 9, 9, 9, 9, 9, 9, 9, 10, 10, 10].getD y 0
def zNm (y : Nat) : MethodName := [⟨"RoamingRegisters", "<init>", "(I)V"⟩, ⟨"RoamingRegisters", "digits", "(II)Z"⟩, ⟨"RoamingRegisters", "title", "(IIZ)Z"⟩, ⟨"RoamingRegisters", "appear", "(II)I"⟩, ⟨"RoamingRegisters", "ask", "(I)I"⟩, ⟨"RoamingRegisters", "answer", "(I)I"⟩, ⟨"RoamingRegisters", "deliver", "(I)I"⟩, ⟨"RoamingRegisters", "lose", "(I)Z"⟩, ⟨"RoamingRegisters", "copy", "(I)Z"⟩, ⟨"RoamingRegisters", "flying", "()I"⟩, ⟨"RoamingRegisters", "datagram", "(II)I"⟩, ⟨"RoamingRegisters", "tick", "()I"⟩, ⟨"RoamingRegisters", "holds", "(II)Z"⟩, ⟨"RoamingRegisters", "location", "(I)I"⟩, ⟨"RoamingRegisters", "registration", "(II)I"⟩, ⟨"RoamingRegisters", "dialogues", "(I)I"⟩, ⟨"RoamingRegisters", "dialogue", "(II)I"⟩, ⟨"RoamingRegisters", "cancellation", "(I)I"⟩, ⟨"RoamingRegisters", "call", "(I)I"⟩, ⟨"RoamingRegisters", "isNode", "(I)Z"⟩, ⟨"RoamingRegisters", "isVisited", "(I)Z"⟩, ⟨"RoamingRegisters", "isSubscriber", "(I)Z"⟩, ⟨"RoamingRegisters", "place", "(II)I"⟩, ⟨"RoamingRegisters", "receive", "(LRoamingRegisters$Datagram;)V"⟩, ⟨"RoamingRegisters", "receiveBeginUpdate", "(LRoamingRegisters$Datagram;)V"⟩, ⟨"RoamingRegisters", "isElsewhere", "(II)Z"⟩, ⟨"RoamingRegisters", "mayMove", "(II)Z"⟩, ⟨"RoamingRegisters", "move", "(II)V"⟩, ⟨"RoamingRegisters", "receiveInsert", "(LRoamingRegisters$Datagram;)V"⟩, ⟨"RoamingRegisters", "receiveBeginCancel", "(LRoamingRegisters$Datagram;)V"⟩, ⟨"RoamingRegisters", "receiveBeginProvide", "(LRoamingRegisters$Datagram;)V"⟩, ⟨"RoamingRegisters", "receiveLast", "(LRoamingRegisters$Datagram;)V"⟩, ⟨"RoamingRegisters", "endRegistration", "(III)V"⟩, ⟨"RoamingRegisters", "sendAbort", "(LRoamingRegisters$Datagram;)V"⟩, ⟨"RoamingRegisters", "endThoseDue", "(I)V"⟩, ⟨"RoamingRegisters", "giveUp", "(II)V"⟩, ⟨"RoamingRegisters", "sendCancel", "(I)V"⟩, ⟨"RoamingRegisters$Titles", "<init>", "()V"⟩, ⟨"RoamingRegisters$Titles", "put", "(IIZ)Z"⟩, ⟨"RoamingRegisters$Titles", "indexOf", "(II)I"⟩, ⟨"RoamingRegisters$Titles", "reach", "(I)Z"⟩, ⟨"RoamingRegisters$Places", "<init>", "()V"⟩, ⟨"RoamingRegisters$Places", "isFull", "()Z"⟩, ⟨"RoamingRegisters$Places", "has", "(I)Z"⟩, ⟨"RoamingRegisters$Places", "at", "(I)I"⟩, ⟨"RoamingRegisters$Places", "add", "(I)V"⟩, ⟨"RoamingRegisters$Places", "drop", "(I)V"⟩, ⟨"RoamingRegisters$Places", "indexOf", "(I)I"⟩, ⟨"RoamingRegisters$Queries", "<init>", "()V"⟩, ⟨"RoamingRegisters$Queries", "add", "(I)V"⟩, ⟨"RoamingRegisters$Queries", "settle", "(II)V"⟩, ⟨"RoamingRegisters$Queries", "answerTo", "(I)I"⟩, ⟨"RoamingRegisters$Queries", "indexOf", "(I)I"⟩, ⟨"RoamingRegisters$RoamingNumbers", "<init>", "(I)V"⟩, ⟨"RoamingRegisters$RoamingNumbers", "allot", "(III)I"⟩, ⟨"RoamingRegisters$RoamingNumbers", "use", "(II)I"⟩, ⟨"RoamingRegisters$RoamingNumbers", "freeAllottedUntil", "(I)V"⟩, ⟨"RoamingRegisters$Dialogue", "<init>", "()V"⟩, ⟨"RoamingRegisters$Dialogues", "<init>", "(I)V"⟩, ⟨"RoamingRegisters$Dialogues", "isFull", "()Z"⟩, ⟨"RoamingRegisters$Dialogues", "begin", "(IIIII)I"⟩, ⟨"RoamingRegisters$Dialogues", "indexOf", "(I)I"⟩, ⟨"RoamingRegisters$Dialogues", "find", "(III)I"⟩, ⟨"RoamingRegisters$Dialogues", "findUpdate", "(II)I"⟩, ⟨"RoamingRegisters$Dialogues", "end", "(I)V"⟩, ⟨"RoamingRegisters$Datagram", "<init>", "()V"⟩, ⟨"RoamingRegisters$Datagram", "become", "(LRoamingRegisters$Datagram;)V"⟩, ⟨"RoamingRegisters$Datagram", "part", "(I)I"⟩, ⟨"RoamingRegisters$Network", "<init>", "()V"⟩, ⟨"RoamingRegisters$Network", "has", "(I)Z"⟩, ⟨"RoamingRegisters$Network", "isFull", "()Z"⟩, ⟨"RoamingRegisters$Network", "send", "(IIIIIII)V"⟩, ⟨"RoamingRegisters$Network", "repeat", "(I)V"⟩, ⟨"RoamingRegisters$Network", "remove", "(I)V"⟩, ⟨"RoamingRegistersModel", "<init>", "(I)V"⟩, ⟨"RoamingRegistersModel", "outside", "(III)Z"⟩, ⟨"RoamingRegistersModel", "isVisited", "(I)Z"⟩, ⟨"RoamingRegistersModel", "ten", "(I)I"⟩, ⟨"RoamingRegistersModel", "digits", "(II)Z"⟩, ⟨"RoamingRegistersModel", "title", "(IIZ)Z"⟩, ⟨"RoamingRegistersModel", "reached", "(I)Z"⟩, ⟨"RoamingRegistersModel", "openAt", "(I)I"⟩, ⟨"RoamingRegistersModel", "find", "(II)I"⟩, ⟨"RoamingRegistersModel", "about", "(IIII)I"⟩, ⟨"RoamingRegistersModel", "begin", "(IIIII)I"⟩, ⟨"RoamingRegistersModel", "close", "(I)V"⟩, ⟨"RoamingRegistersModel", "end", "(II)V"⟩, ⟨"RoamingRegistersModel", "send", "(IIIIIII)V"⟩, ⟨"RoamingRegistersModel", "takeOut", "(I)V"⟩, ⟨"RoamingRegistersModel", "appear", "(II)I"⟩, ⟨"RoamingRegistersModel", "ask", "(I)I"⟩, ⟨"RoamingRegistersModel", "query", "(I)I"⟩, ⟨"RoamingRegistersModel", "answer", "(I)I"⟩, ⟨"RoamingRegistersModel", "cancelled", "(II)I"⟩, ⟨"RoamingRegistersModel", "strike", "(II)V"⟩, ⟨"RoamingRegistersModel", "refuse", "(IIII)V"⟩, ⟨"RoamingRegistersModel", "update", "(III)V"⟩, ⟨"RoamingRegistersModel", "insert", "(IIII)V"⟩, ⟨"RoamingRegistersModel", "cancel", "(IIII)V"⟩, ⟨"RoamingRegistersModel", "provide", "(IIII)V"⟩, ⟨"RoamingRegistersModel", "closing", "(IIIII)V"⟩, ⟨"RoamingRegistersModel", "deliver", "(I)I"⟩, ⟨"RoamingRegistersModel", "lose", "(I)Z"⟩, ⟨"RoamingRegistersModel", "copy", "(I)Z"⟩, ⟨"RoamingRegistersModel", "flying", "()I"⟩, ⟨"RoamingRegistersModel", "datagram", "(II)I"⟩, ⟨"RoamingRegistersModel", "expire", "(I)V"⟩, ⟨"RoamingRegistersModel", "tick", "()I"⟩, ⟨"RoamingRegistersModel", "holds", "(II)Z"⟩, ⟨"RoamingRegistersModel", "location", "(I)I"⟩, ⟨"RoamingRegistersModel", "registration", "(II)I"⟩, ⟨"RoamingRegistersModel", "dialogues", "(I)I"⟩, ⟨"RoamingRegistersModel", "dialogue", "(II)I"⟩, ⟨"RoamingRegistersModel", "cancellation", "(I)I"⟩, ⟨"RoamingRegistersModel", "call", "(I)I"⟩, ⟨"RoamingRegistersLaw", "<init>", "()V"⟩, ⟨"RoamingRegistersLaw", "cell", "([II)I"⟩, ⟨"RoamingRegistersLaw", "law", "([I)Z"⟩].getD y ⟨"", "", ""⟩
def zBy (y : Nat) : ByteArray := [prog_1_method_1_code, prog_1_method_2_code, prog_1_method_3_code, prog_1_method_4_code, prog_1_method_5_code, prog_1_method_6_code, prog_1_method_7_code, prog_1_method_8_code, prog_1_method_9_code, prog_1_method_10_code, prog_1_method_11_code, prog_1_method_12_code, prog_1_method_13_code, prog_1_method_14_code, prog_1_method_15_code, prog_1_method_16_code, prog_1_method_17_code, prog_1_method_18_code, prog_1_method_19_code, prog_1_method_20_code, prog_1_method_21_code, prog_1_method_22_code, prog_1_method_23_code, prog_1_method_24_code, prog_1_method_25_code, prog_1_method_26_code, prog_1_method_27_code, prog_1_method_28_code, prog_1_method_29_code, prog_1_method_30_code, prog_1_method_31_code, prog_1_method_32_code, prog_1_method_33_code, prog_1_method_34_code, prog_1_method_35_code, prog_1_method_36_code, prog_1_method_37_code, prog_9_method_1_code, prog_9_method_2_code, prog_9_method_3_code, prog_9_method_4_code, prog_6_method_1_code, prog_6_method_2_code, prog_6_method_3_code, prog_6_method_4_code, prog_6_method_5_code, prog_6_method_6_code, prog_6_method_7_code, prog_7_method_1_code, prog_7_method_2_code, prog_7_method_3_code, prog_7_method_4_code, prog_7_method_5_code, prog_8_method_1_code, prog_8_method_2_code, prog_8_method_3_code, prog_8_method_4_code, prog_3_method_1_code, prog_4_method_1_code, prog_4_method_2_code, prog_4_method_3_code, prog_4_method_4_code, prog_4_method_5_code, prog_4_method_6_code, prog_4_method_7_code, prog_2_method_1_code, prog_2_method_2_code, prog_2_method_3_code, prog_5_method_1_code, prog_5_method_2_code, prog_5_method_3_code, prog_5_method_4_code, prog_5_method_5_code, prog_5_method_6_code, prog_11_method_1_code, prog_11_method_2_code, prog_11_method_3_code, prog_11_method_4_code, prog_11_method_5_code, prog_11_method_6_code, prog_11_method_7_code, prog_11_method_8_code, prog_11_method_9_code, prog_11_method_10_code, prog_11_method_11_code, prog_11_method_12_code, prog_11_method_13_code, prog_11_method_14_code, prog_11_method_15_code, prog_11_method_16_code, prog_11_method_17_code, prog_11_method_18_code, prog_11_method_19_code, prog_11_method_20_code, prog_11_method_21_code, prog_11_method_22_code, prog_11_method_23_code, prog_11_method_24_code, prog_11_method_25_code, prog_11_method_26_code, prog_11_method_27_code, prog_11_method_28_code, prog_11_method_29_code, prog_11_method_30_code, prog_11_method_31_code, prog_11_method_32_code, prog_11_method_33_code, prog_11_method_34_code, prog_11_method_35_code, prog_11_method_36_code, prog_11_method_37_code, prog_11_method_38_code, prog_11_method_39_code, prog_11_method_40_code, prog_11_method_41_code, ByteArray.empty, method_2_code, code].getD y ByteArray.empty
def zRet (y : Nat) : Option FieldType := [none, some .boolean, some .boolean, some .int, some .int, some .int, some .int, some .boolean, some .boolean, some .int, some .int, some .int, some .boolean, some .int, some .int, some .int, some .int, some .int, some .int, some .boolean, some .boolean, some .boolean, some .int, none, none, some .boolean, some .boolean, none, none, none, none, none, none, none, none, none, none, none, some .boolean, some .int, some .boolean, none, some .boolean, some .boolean, some .int, none, none, some .int, none, none, none, some .int, some .int, none, some .int, some .int, none, none, none, some .boolean, some .int, some .int, some .int, some .int, none, none, none, some .int, none, some .boolean, some .boolean, none, none, none, none, some .boolean, some .boolean, some .int, some .boolean, some .boolean, some .boolean, some .int, some .int, some .int, some .int, none, none, none, none, some .int, some .int, some .int, some .int, some .int, none, none, none, none, none, none, none, some .int, some .boolean, some .boolean, some .int, some .int, none, some .int, some .boolean, some .int, some .int, some .int, some .int, some .int, some .int, none, some .int, some .boolean].getD y none
def zSc : String := "RoamingRegisters"
def zSn : String := "POWERS_OF_TEN"
end
section
/-! ===== words, written by a program: where each stands in lw_tbl ===== -/
def zAll : List Cond := lw_tbl.filter goodWord
theorem zAll_good : ∀ w ∈ zAll, (w.onTables && w.keeps) = true ∨ ∃ ty, w = .arrayClass ty := fun w h => good_of_word (List.mem_filter.mp h).2
def zIx {α : Type} (f : α → Cond) (L : List (α × Nat)) : Bool := L.all (fun q => decide (lw_tbl[q.2]? = some (f q.1)) && goodWord (f q.1))
theorem zIx_ok {α : Type} {f : α → Cond} {L : List (α × Nat)} (h : zIx f L = true) : ∀ q ∈ L.map Prod.fst, f q ∈ zAll := by
  intro q hq
  obtain ⟨x, hx, rfl⟩ := List.mem_map.mp hq
  have h1 := List.all_eq_true.mp h x hx
  rw [Bool.and_eq_true] at h1
  exact List.mem_filter.mpr ⟨List.mem_of_getElem? (of_decide_eq_true h1.1), h1.2⟩
def zIn {α : Type} (f : α → Cond) (L : List (α × Nat)) : Bool := L.all (fun q => decide (lw_tbl[q.2]? = some (f q.1)))
theorem zIn_ok {α : Type} {f : α → Cond} {L : List (α × Nat)} (h : zIn f L = true) : ∀ q ∈ L.map Prod.fst, f q ∈ lw_tbl := by
  intro q hq
  obtain ⟨x, hx, rfl⟩ := List.mem_map.mp hq
  exact List.mem_of_getElem? (of_decide_eq_true (List.all_eq_true.mp h x hx))
def zF (ci k : Nat) : String × String × String × Bool := match zCl[ci]? with
  | some r => r.2.1 k
  | none => ("", "", "", false)
theorem zF_eq {ci k : Nat} {C : String} {T : u_T} {N : Nat} (h : zCl[ci]? = some (C, T, N)) : zF ci k = T k := by
  unfold zF; rw [h]
def zFlw (q : Nat × Nat × Nat × Nat) : Cond := .fieldLink (zCn q.1) q.2.1 (zF q.2.2.1 q.2.2.2).1 (zF q.2.2.1 q.2.2.2).2.1 (zF q.2.2.1 q.2.2.2).2.2.1
def zFnw (q : Nat × Nat × Nat × Nat) : Cond := .fieldLinkNest (zCn q.1) q.2.1 (zF q.2.2.1 q.2.2.2).1 (zF q.2.2.1 q.2.2.2).2.1 (zF q.2.2.1 q.2.2.2).2.2.1 "RoamingRegisters"
theorem zFlw_eq {own idx ci k : Nat} {C : String} {T : u_T} {N : Nat} (h : zCl[ci]? = some (C, T, N)) : zFlw (own, idx, ci, k) = .fieldLink (zCn own) idx (T k).1 (T k).2.1 (T k).2.2.1 := by
  unfold zFlw; rw [zF_eq h]
theorem zFnw_eq {own idx ci k : Nat} {C : String} {T : u_T} {N : Nat} (h : zCl[ci]? = some (C, T, N)) : zFnw (own, idx, ci, k) = .fieldLinkNest (zCn own) idx (T k).1 (T k).2.1 (T k).2.2.1 "RoamingRegisters" := by
  unfold zFnw; rw [zF_eq h]
def zFlsI : List ((Nat × Nat × Nat × Nat) × Nat) := [((1, 11, 1, 0), 65), ((1, 15, 1, 1), 66), ((1, 18, 1, 2), 67), ((1, 26, 1, 3), 68), ((2, 11, 2, 0), 86), ((2, 15, 2, 1), 87), ((3, 11, 3, 0), 100), ((3, 15, 3, 1), 101), ((3, 18, 3, 2), 102), ((7, 9, 7, 0), 123), ((7, 15, 7, 1), 126), ((7, 18, 7, 2), 129), ((7, 21, 7, 3), 132), ((7, 24, 7, 4), 135), ((7, 27, 7, 5), 138), ((7, 30, 7, 6), 141), ((8, 11, 8, 0), 159), ((8, 16, 8, 1), 161), ((4, 11, 4, 0), 182), ((4, 15, 4, 1), 183), ((6, 11, 6, 0), 227), ((6, 18, 6, 1), 229), ((6, 22, 6, 2), 231), ((0, 60, 0, 0), 240), ((0, 116, 0, 1), 241), ((0, 9, 0, 2), 242), ((0, 13, 0, 3), 243), ((0, 64, 0, 4), 244), ((0, 68, 0, 5), 245), ((0, 19, 0, 6), 246), ((0, 26, 0, 7), 247), ((0, 33, 0, 8), 248), ((0, 40, 0, 9), 249), ((0, 47, 0, 10), 250), ((0, 76, 0, 11), 251), ((0, 83, 0, 12), 252), ((0, 87, 0, 13), 253), ((9, 80, 9, 0), 557), ((9, 99, 9, 1), 558), ((9, 7, 9, 2), 559), ((9, 13, 9, 3), 560), ((9, 93, 9, 4), 561), ((9, 16, 9, 5), 562), ((9, 19, 9, 6), 563), ((9, 22, 9, 7), 564), ((9, 137, 9, 8), 565), ((9, 26, 9, 9), 566), ((9, 29, 9, 10), 567), ((9, 32, 9, 11), 568), ((9, 35, 9, 12), 569), ((9, 38, 9, 13), 570), ((9, 41, 9, 14), 571), ((9, 44, 9, 15), 572), ((9, 96, 9, 16), 573), ((9, 47, 9, 17), 574), ((9, 50, 9, 18), 575), ((9, 53, 9, 19), 576), ((9, 56, 9, 20), 577), ((9, 59, 9, 21), 578), ((9, 62, 9, 22), 579), ((9, 65, 9, 23), 580), ((9, 131, 9, 24), 581), ((9, 68, 9, 25), 582), ((9, 71, 9, 26), 583), ((9, 106, 9, 27), 584), ((9, 74, 9, 28), 585), ((9, 77, 9, 29), 586)]
abbrev zFls : List (Nat × Nat × Nat × Nat) := zFlsI.map Prod.fst
def zFnsI : List ((Nat × Nat × Nat × Nat) × Nat) := [((0, 173, 2, 1), 88), ((8, 24, 7, 0), 124), ((0, 210, 7, 0), 125), ((8, 27, 7, 1), 127), ((0, 245, 7, 1), 128), ((8, 30, 7, 2), 130), ((0, 154, 7, 2), 131), ((8, 33, 7, 3), 133), ((0, 213, 7, 3), 134), ((8, 36, 7, 4), 136), ((0, 216, 7, 4), 137), ((8, 39, 7, 5), 139), ((0, 248, 7, 5), 140), ((8, 42, 7, 6), 142), ((0, 268, 7, 6), 143), ((0, 140, 8, 0), 160), ((0, 161, 8, 1), 162), ((6, 25, 5, 0), 202), ((0, 187, 5, 0), 203), ((6, 28, 5, 1), 204), ((0, 277, 5, 1), 205), ((6, 31, 5, 2), 206), ((0, 264, 5, 2), 207), ((6, 34, 5, 3), 208), ((0, 267, 5, 3), 209), ((6, 37, 5, 4), 210), ((0, 254, 5, 4), 211), ((6, 40, 5, 5), 212), ((0, 280, 5, 5), 213), ((0, 184, 6, 0), 228), ((0, 183, 6, 1), 230)]
abbrev zFns : List (Nat × Nat × Nat × Nat) := zFnsI.map Prod.fst
def zSlsI : List ((Nat × Nat) × Nat) := [((0, 95), 290)]
abbrev zSls : List (Nat × Nat) := zSlsI.map Prod.fst
def zSnsI : List ((Nat × Nat) × Nat) := [((1, 30), 324)]
abbrev zSns : List (Nat × Nat) := zSnsI.map Prod.fst
theorem zFls_ok : ∀ q ∈ zFls, zFlw q ∈ zAll := zIx_ok (by decide +kernel)
theorem zFns_in : ∀ q ∈ zFns, zFnw q ∈ lw_tbl := zIn_ok (by decide +kernel)
def zSlw (q : Nat × Nat) : Cond := .fieldLink (zCn q.1) q.2 zSc zSn "[I"
def zSnw (q : Nat × Nat) : Cond := .fieldLinkNest (zCn q.1) q.2 zSc zSn "[I" "RoamingRegisters"
theorem zSls_ok : ∀ q ∈ zSls, zSlw q ∈ zAll := zIx_ok (by decide +kernel)
theorem zSns_in : ∀ q ∈ zSns, zSnw q ∈ lw_tbl := zIn_ok (by decide +kernel)
def zMnsI : List ((Nat × Nat × Nat) × Nat) := [((0, 18, 37), 61), ((0, 25, 41), 82), ((0, 32, 48), 96), ((8, 15, 65), 119), ((0, 46, 65), 169), ((6, 17, 57), 198)]
abbrev zMns : List (Nat × Nat × Nat) := zMnsI.map Prod.fst
def zMnw (q : Nat × Nat × Nat) : Cond := .methodLinkNest (zCn q.1) q.2.1 (zNm q.2.2) "RoamingRegisters"
theorem zMns_in : ∀ q ∈ zMns, zMnw q ∈ lw_tbl := zIn_ok (by decide +kernel)
def zAosI : List ((Nat) × Nat) := [(7, 117), (5, 196), (6, 239)]
abbrev zAos : List (Nat) := zAosI.map Prod.fst
theorem zAos_in : ∀ q ∈ zAos, Cond.arrayOver (.object (zCn q)) ∈ lw_tbl := zIn_ok (f := fun q => Cond.arrayOver (.object (zCn q))) (by decide +kernel)
set_option maxRecDepth 100000 in
theorem zcd0 : Cond.code (zNm 0) (zBy 0) (zMl 0) (zRet 0) ∈ zAll := List.mem_filter.mpr ⟨List.mem_of_getElem? (i := 55) rfl, rfl⟩
set_option maxRecDepth 100000 in
theorem zcd1 : Cond.code (zNm 1) (zBy 1) (zMl 1) (zRet 1) ∈ zAll := List.mem_filter.mpr ⟨List.mem_of_getElem? (i := 286) rfl, rfl⟩
set_option maxRecDepth 100000 in
theorem zcd2 : Cond.code (zNm 2) (zBy 2) (zMl 2) (zRet 2) ∈ zAll := List.mem_filter.mpr ⟨List.mem_of_getElem? (i := 295) rfl, rfl⟩
set_option maxRecDepth 100000 in
theorem zcd3 : Cond.code (zNm 3) (zBy 3) (zMl 3) (zRet 3) ∈ zAll := List.mem_filter.mpr ⟨List.mem_of_getElem? (i := 307) rfl, rfl⟩
set_option maxRecDepth 100000 in
theorem zcd4 : Cond.code (zNm 4) (zBy 4) (zMl 4) (zRet 4) ∈ zAll := List.mem_filter.mpr ⟨List.mem_of_getElem? (i := 343) rfl, rfl⟩
set_option maxRecDepth 100000 in
theorem zcd5 : Cond.code (zNm 5) (zBy 5) (zMl 5) (zRet 5) ∈ zAll := List.mem_filter.mpr ⟨List.mem_of_getElem? (i := 351) rfl, rfl⟩
set_option maxRecDepth 100000 in
theorem zcd6 : Cond.code (zNm 6) (zBy 6) (zMl 6) (zRet 6) ∈ zAll := List.mem_filter.mpr ⟨List.mem_of_getElem? (i := 363) rfl, rfl⟩
set_option maxRecDepth 100000 in
theorem zcd7 : Cond.code (zNm 7) (zBy 7) (zMl 7) (zRet 7) ∈ zAll := List.mem_filter.mpr ⟨List.mem_of_getElem? (i := 465) rfl, rfl⟩
set_option maxRecDepth 100000 in
theorem zcd8 : Cond.code (zNm 8) (zBy 8) (zMl 8) (zRet 8) ∈ zAll := List.mem_filter.mpr ⟨List.mem_of_getElem? (i := 469) rfl, rfl⟩
set_option maxRecDepth 100000 in
theorem zcd9 : Cond.code (zNm 9) (zBy 9) (zMl 9) (zRet 9) ∈ zAll := List.mem_filter.mpr ⟨List.mem_of_getElem? (i := 479) rfl, rfl⟩
set_option maxRecDepth 100000 in
theorem zcd10 : Cond.code (zNm 10) (zBy 10) (zMl 10) (zRet 10) ∈ zAll := List.mem_filter.mpr ⟨List.mem_of_getElem? (i := 483) rfl, rfl⟩
set_option maxRecDepth 100000 in
theorem zcd11 : Cond.code (zNm 11) (zBy 11) (zMl 11) (zRet 11) ∈ zAll := List.mem_filter.mpr ⟨List.mem_of_getElem? (i := 491) rfl, rfl⟩
set_option maxRecDepth 100000 in
theorem zcd12 : Cond.code (zNm 12) (zBy 12) (zMl 12) (zRet 12) ∈ zAll := List.mem_filter.mpr ⟨List.mem_of_getElem? (i := 515) rfl, rfl⟩
set_option maxRecDepth 100000 in
theorem zcd13 : Cond.code (zNm 13) (zBy 13) (zMl 13) (zRet 13) ∈ zAll := List.mem_filter.mpr ⟨List.mem_of_getElem? (i := 519) rfl, rfl⟩
set_option maxRecDepth 100000 in
theorem zcd14 : Cond.code (zNm 14) (zBy 14) (zMl 14) (zRet 14) ∈ zAll := List.mem_filter.mpr ⟨List.mem_of_getElem? (i := 523) rfl, rfl⟩
set_option maxRecDepth 100000 in
theorem zcd15 : Cond.code (zNm 15) (zBy 15) (zMl 15) (zRet 15) ∈ zAll := List.mem_filter.mpr ⟨List.mem_of_getElem? (i := 527) rfl, rfl⟩
set_option maxRecDepth 100000 in
theorem zcd16 : Cond.code (zNm 16) (zBy 16) (zMl 16) (zRet 16) ∈ zAll := List.mem_filter.mpr ⟨List.mem_of_getElem? (i := 535) rfl, rfl⟩
set_option maxRecDepth 100000 in
theorem zcd17 : Cond.code (zNm 17) (zBy 17) (zMl 17) (zRet 17) ∈ zAll := List.mem_filter.mpr ⟨List.mem_of_getElem? (i := 539) rfl, rfl⟩
set_option maxRecDepth 100000 in
theorem zcd18 : Cond.code (zNm 18) (zBy 18) (zMl 18) (zRet 18) ∈ zAll := List.mem_filter.mpr ⟨List.mem_of_getElem? (i := 543) rfl, rfl⟩
set_option maxRecDepth 100000 in
theorem zcd19 : Cond.code (zNm 19) (zBy 19) (zMl 19) (zRet 19) ∈ zAll := List.mem_filter.mpr ⟨List.mem_of_getElem? (i := 531) rfl, rfl⟩
set_option maxRecDepth 100000 in
theorem zcd20 : Cond.code (zNm 20) (zBy 20) (zMl 20) (zRet 20) ∈ zAll := List.mem_filter.mpr ⟨List.mem_of_getElem? (i := 311) rfl, rfl⟩
set_option maxRecDepth 100000 in
theorem zcd21 : Cond.code (zNm 21) (zBy 21) (zMl 21) (zRet 21) ∈ zAll := List.mem_filter.mpr ⟨List.mem_of_getElem? (i := 289) rfl, rfl⟩
set_option maxRecDepth 100000 in
theorem zcd22 : Cond.code (zNm 22) (zBy 22) (zMl 22) (zRet 22) ∈ zAll := List.mem_filter.mpr ⟨List.mem_of_getElem? (i := 331) rfl, rfl⟩
set_option maxRecDepth 100000 in
theorem zcd23 : Cond.code (zNm 23) (zBy 23) (zMl 23) (zRet 23) ∈ zAll := List.mem_filter.mpr ⟨List.mem_of_getElem? (i := 379) rfl, rfl⟩
set_option maxRecDepth 100000 in
theorem zcd24 : Cond.code (zNm 24) (zBy 24) (zMl 24) (zRet 24) ∈ zAll := List.mem_filter.mpr ⟨List.mem_of_getElem? (i := 383) rfl, rfl⟩
set_option maxRecDepth 100000 in
theorem zcd25 : Cond.code (zNm 25) (zBy 25) (zMl 25) (zRet 25) ∈ zAll := List.mem_filter.mpr ⟨List.mem_of_getElem? (i := 395) rfl, rfl⟩
set_option maxRecDepth 100000 in
theorem zcd26 : Cond.code (zNm 26) (zBy 26) (zMl 26) (zRet 26) ∈ zAll := List.mem_filter.mpr ⟨List.mem_of_getElem? (i := 391) rfl, rfl⟩
set_option maxRecDepth 100000 in
theorem zcd27 : Cond.code (zNm 27) (zBy 27) (zMl 27) (zRet 27) ∈ zAll := List.mem_filter.mpr ⟨List.mem_of_getElem? (i := 415) rfl, rfl⟩
set_option maxRecDepth 100000 in
theorem zcd28 : Cond.code (zNm 28) (zBy 28) (zMl 28) (zRet 28) ∈ zAll := List.mem_filter.mpr ⟨List.mem_of_getElem? (i := 449) rfl, rfl⟩
set_option maxRecDepth 100000 in
theorem zcd29 : Cond.code (zNm 29) (zBy 29) (zMl 29) (zRet 29) ∈ zAll := List.mem_filter.mpr ⟨List.mem_of_getElem? (i := 433) rfl, rfl⟩
set_option maxRecDepth 100000 in
theorem zcd30 : Cond.code (zNm 30) (zBy 30) (zMl 30) (zRet 30) ∈ zAll := List.mem_filter.mpr ⟨List.mem_of_getElem? (i := 441) rfl, rfl⟩
set_option maxRecDepth 100000 in
theorem zcd31 : Cond.code (zNm 31) (zBy 31) (zMl 31) (zRet 31) ∈ zAll := List.mem_filter.mpr ⟨List.mem_of_getElem? (i := 457) rfl, rfl⟩
set_option maxRecDepth 100000 in
theorem zcd32 : Cond.code (zNm 32) (zBy 32) (zMl 32) (zRet 32) ∈ zAll := List.mem_filter.mpr ⟨List.mem_of_getElem? (i := 437) rfl, rfl⟩
set_option maxRecDepth 100000 in
theorem zcd33 : Cond.code (zNm 33) (zBy 33) (zMl 33) (zRet 33) ∈ zAll := List.mem_filter.mpr ⟨List.mem_of_getElem? (i := 411) rfl, rfl⟩
set_option maxRecDepth 100000 in
theorem zcd34 : Cond.code (zNm 34) (zBy 34) (zMl 34) (zRet 34) ∈ zAll := List.mem_filter.mpr ⟨List.mem_of_getElem? (i := 495) rfl, rfl⟩
set_option maxRecDepth 100000 in
theorem zcd35 : Cond.code (zNm 35) (zBy 35) (zMl 35) (zRet 35) ∈ zAll := List.mem_filter.mpr ⟨List.mem_of_getElem? (i := 499) rfl, rfl⟩
set_option maxRecDepth 100000 in
theorem zcd36 : Cond.code (zNm 36) (zBy 36) (zMl 36) (zRet 36) ∈ zAll := List.mem_filter.mpr ⟨List.mem_of_getElem? (i := 511) rfl, rfl⟩
set_option maxRecDepth 100000 in
theorem zcd37 : Cond.code (zNm 37) (zBy 37) (zMl 37) (zRet 37) ∈ zAll := List.mem_filter.mpr ⟨List.mem_of_getElem? (i := 63) rfl, rfl⟩
set_option maxRecDepth 100000 in
theorem zcd38 : Cond.code (zNm 38) (zBy 38) (zMl 38) (zRet 38) ∈ zAll := List.mem_filter.mpr ⟨List.mem_of_getElem? (i := 299) rfl, rfl⟩
set_option maxRecDepth 100000 in
theorem zcd39 : Cond.code (zNm 39) (zBy 39) (zMl 39) (zRet 39) ∈ zAll := List.mem_filter.mpr ⟨List.mem_of_getElem? (i := 303) rfl, rfl⟩
set_option maxRecDepth 100000 in
theorem zcd40 : Cond.code (zNm 40) (zBy 40) (zMl 40) (zRet 40) ∈ zAll := List.mem_filter.mpr ⟨List.mem_of_getElem? (i := 323) rfl, rfl⟩
set_option maxRecDepth 100000 in
theorem zcd41 : Cond.code (zNm 41) (zBy 41) (zMl 41) (zRet 41) ∈ zAll := List.mem_filter.mpr ⟨List.mem_of_getElem? (i := 84) rfl, rfl⟩
set_option maxRecDepth 100000 in
theorem zcd42 : Cond.code (zNm 42) (zBy 42) (zMl 42) (zRet 42) ∈ zAll := List.mem_filter.mpr ⟨List.mem_of_getElem? (i := 407) rfl, rfl⟩
set_option maxRecDepth 100000 in
theorem zcd43 : Cond.code (zNm 43) (zBy 43) (zMl 43) (zRet 43) ∈ zAll := List.mem_filter.mpr ⟨List.mem_of_getElem? (i := 399) rfl, rfl⟩
set_option maxRecDepth 100000 in
theorem zcd44 : Cond.code (zNm 44) (zBy 44) (zMl 44) (zRet 44) ∈ zAll := List.mem_filter.mpr ⟨List.mem_of_getElem? (i := 507) rfl, rfl⟩
set_option maxRecDepth 100000 in
theorem zcd45 : Cond.code (zNm 45) (zBy 45) (zMl 45) (zRet 45) ∈ zAll := List.mem_filter.mpr ⟨List.mem_of_getElem? (i := 419) rfl, rfl⟩
set_option maxRecDepth 100000 in
theorem zcd46 : Cond.code (zNm 46) (zBy 46) (zMl 46) (zRet 46) ∈ zAll := List.mem_filter.mpr ⟨List.mem_of_getElem? (i := 425) rfl, rfl⟩
set_option maxRecDepth 100000 in
theorem zcd47 : Cond.code (zNm 47) (zBy 47) (zMl 47) (zRet 47) ∈ zAll := List.mem_filter.mpr ⟨List.mem_of_getElem? (i := 403) rfl, rfl⟩
set_option maxRecDepth 100000 in
theorem zcd48 : Cond.code (zNm 48) (zBy 48) (zMl 48) (zRet 48) ∈ zAll := List.mem_filter.mpr ⟨List.mem_of_getElem? (i := 98) rfl, rfl⟩
set_option maxRecDepth 100000 in
theorem zcd49 : Cond.code (zNm 49) (zBy 49) (zMl 49) (zRet 49) ∈ zAll := List.mem_filter.mpr ⟨List.mem_of_getElem? (i := 347) rfl, rfl⟩
set_option maxRecDepth 100000 in
theorem zcd50 : Cond.code (zNm 50) (zBy 50) (zMl 50) (zRet 50) ∈ zAll := List.mem_filter.mpr ⟨List.mem_of_getElem? (i := 461) rfl, rfl⟩
set_option maxRecDepth 100000 in
theorem zcd51 : Cond.code (zNm 51) (zBy 51) (zMl 51) (zRet 51) ∈ zAll := List.mem_filter.mpr ⟨List.mem_of_getElem? (i := 355) rfl, rfl⟩
set_option maxRecDepth 100000 in
theorem zcd52 : Cond.code (zNm 52) (zBy 52) (zMl 52) (zRet 52) ∈ zAll := List.mem_filter.mpr ⟨List.mem_of_getElem? (i := 359) rfl, rfl⟩
set_option maxRecDepth 100000 in
theorem zcd53 : Cond.code (zNm 53) (zBy 53) (zMl 53) (zRet 53) ∈ zAll := List.mem_filter.mpr ⟨List.mem_of_getElem? (i := 180) rfl, rfl⟩
set_option maxRecDepth 100000 in
theorem zcd54 : Cond.code (zNm 54) (zBy 54) (zMl 54) (zRet 54) ∈ zAll := List.mem_filter.mpr ⟨List.mem_of_getElem? (i := 445) rfl, rfl⟩
set_option maxRecDepth 100000 in
theorem zcd55 : Cond.code (zNm 55) (zBy 55) (zMl 55) (zRet 55) ∈ zAll := List.mem_filter.mpr ⟨List.mem_of_getElem? (i := 547) rfl, rfl⟩
set_option maxRecDepth 100000 in
theorem zcd56 : Cond.code (zNm 56) (zBy 56) (zMl 56) (zRet 56) ∈ zAll := List.mem_filter.mpr ⟨List.mem_of_getElem? (i := 503) rfl, rfl⟩
set_option maxRecDepth 100000 in
theorem zcd57 : Cond.code (zNm 57) (zBy 57) (zMl 57) (zRet 57) ∈ zAll := List.mem_filter.mpr ⟨List.mem_of_getElem? (i := 200) rfl, rfl⟩
set_option maxRecDepth 100000 in
theorem zcd58 : Cond.code (zNm 58) (zBy 58) (zMl 58) (zRet 58) ∈ zAll := List.mem_filter.mpr ⟨List.mem_of_getElem? (i := 193) rfl, rfl⟩
set_option maxRecDepth 100000 in
theorem zcd59 : Cond.code (zNm 59) (zBy 59) (zMl 59) (zRet 59) ∈ zAll := List.mem_filter.mpr ⟨List.mem_of_getElem? (i := 315) rfl, rfl⟩
set_option maxRecDepth 100000 in
theorem zcd60 : Cond.code (zNm 60) (zBy 60) (zMl 60) (zRet 60) ∈ zAll := List.mem_filter.mpr ⟨List.mem_of_getElem? (i := 328) rfl, rfl⟩
set_option maxRecDepth 100000 in
theorem zcd61 : Cond.code (zNm 61) (zBy 61) (zMl 61) (zRet 61) ∈ zAll := List.mem_filter.mpr ⟨List.mem_of_getElem? (i := 453) rfl, rfl⟩
set_option maxRecDepth 100000 in
theorem zcd62 : Cond.code (zNm 62) (zBy 62) (zMl 62) (zRet 62) ∈ zAll := List.mem_filter.mpr ⟨List.mem_of_getElem? (i := 319) rfl, rfl⟩
set_option maxRecDepth 100000 in
theorem zcd63 : Cond.code (zNm 63) (zBy 63) (zMl 63) (zRet 63) ∈ zAll := List.mem_filter.mpr ⟨List.mem_of_getElem? (i := 387) rfl, rfl⟩
set_option maxRecDepth 100000 in
theorem zcd64 : Cond.code (zNm 64) (zBy 64) (zMl 64) (zRet 64) ∈ zAll := List.mem_filter.mpr ⟨List.mem_of_getElem? (i := 429) rfl, rfl⟩
set_option maxRecDepth 100000 in
theorem zcd65 : Cond.code (zNm 65) (zBy 65) (zMl 65) (zRet 65) ∈ zAll := List.mem_filter.mpr ⟨List.mem_of_getElem? (i := 121) rfl, rfl⟩
set_option maxRecDepth 100000 in
theorem zcd66 : Cond.code (zNm 66) (zBy 66) (zMl 66) (zRet 66) ∈ zAll := List.mem_filter.mpr ⟨List.mem_of_getElem? (i := 371) rfl, rfl⟩
set_option maxRecDepth 100000 in
theorem zcd67 : Cond.code (zNm 67) (zBy 67) (zMl 67) (zRet 67) ∈ zAll := List.mem_filter.mpr ⟨List.mem_of_getElem? (i := 487) rfl, rfl⟩
set_option maxRecDepth 100000 in
theorem zcd68 : Cond.code (zNm 68) (zBy 68) (zMl 68) (zRet 68) ∈ zAll := List.mem_filter.mpr ⟨List.mem_of_getElem? (i := 114) rfl, rfl⟩
set_option maxRecDepth 100000 in
theorem zcd69 : Cond.code (zNm 69) (zBy 69) (zMl 69) (zRet 69) ∈ zAll := List.mem_filter.mpr ⟨List.mem_of_getElem? (i := 367) rfl, rfl⟩
set_option maxRecDepth 100000 in
theorem zcd70 : Cond.code (zNm 70) (zBy 70) (zMl 70) (zRet 70) ∈ zAll := List.mem_filter.mpr ⟨List.mem_of_getElem? (i := 339) rfl, rfl⟩
set_option maxRecDepth 100000 in
theorem zcd71 : Cond.code (zNm 71) (zBy 71) (zMl 71) (zRet 71) ∈ zAll := List.mem_filter.mpr ⟨List.mem_of_getElem? (i := 335) rfl, rfl⟩
set_option maxRecDepth 100000 in
theorem zcd72 : Cond.code (zNm 72) (zBy 72) (zMl 72) (zRet 72) ∈ zAll := List.mem_filter.mpr ⟨List.mem_of_getElem? (i := 474) rfl, rfl⟩
set_option maxRecDepth 100000 in
theorem zcd73 : Cond.code (zNm 73) (zBy 73) (zMl 73) (zRet 73) ∈ zAll := List.mem_filter.mpr ⟨List.mem_of_getElem? (i := 375) rfl, rfl⟩
set_option maxRecDepth 100000 in
theorem zcd74 : Cond.code (zNm 74) (zBy 74) (zMl 74) (zRet 74) ∈ zAll := List.mem_filter.mpr ⟨List.mem_of_getElem? (i := 555) rfl, rfl⟩
set_option maxRecDepth 100000 in
theorem zcd75 : Cond.code (zNm 75) (zBy 75) (zMl 75) (zRet 75) ∈ zAll := List.mem_filter.mpr ⟨List.mem_of_getElem? (i := 654) rfl, rfl⟩
set_option maxRecDepth 100000 in
theorem zcd76 : Cond.code (zNm 76) (zBy 76) (zMl 76) (zRet 76) ∈ zAll := List.mem_filter.mpr ⟨List.mem_of_getElem? (i := 670) rfl, rfl⟩
set_option maxRecDepth 100000 in
theorem zcd77 : Cond.code (zNm 77) (zBy 77) (zMl 77) (zRet 77) ∈ zAll := List.mem_filter.mpr ⟨List.mem_of_getElem? (i := 662) rfl, rfl⟩
set_option maxRecDepth 100000 in
theorem zcd78 : Cond.code (zNm 78) (zBy 78) (zMl 78) (zRet 78) ∈ zAll := List.mem_filter.mpr ⟨List.mem_of_getElem? (i := 651) rfl, rfl⟩
set_option maxRecDepth 100000 in
theorem zcd79 : Cond.code (zNm 79) (zBy 79) (zMl 79) (zRet 79) ∈ zAll := List.mem_filter.mpr ⟨List.mem_of_getElem? (i := 659) rfl, rfl⟩
set_option maxRecDepth 100000 in
theorem zcd80 : Cond.code (zNm 80) (zBy 80) (zMl 80) (zRet 80) ∈ zAll := List.mem_filter.mpr ⟨List.mem_of_getElem? (i := 682) rfl, rfl⟩
set_option maxRecDepth 100000 in
theorem zcd81 : Cond.code (zNm 81) (zBy 81) (zMl 81) (zRet 81) ∈ zAll := List.mem_filter.mpr ⟨List.mem_of_getElem? (i := 674) rfl, rfl⟩
set_option maxRecDepth 100000 in
theorem zcd82 : Cond.code (zNm 82) (zBy 82) (zMl 82) (zRet 82) ∈ zAll := List.mem_filter.mpr ⟨List.mem_of_getElem? (i := 750) rfl, rfl⟩
set_option maxRecDepth 100000 in
theorem zcd83 : Cond.code (zNm 83) (zBy 83) (zMl 83) (zRet 83) ∈ zAll := List.mem_filter.mpr ⟨List.mem_of_getElem? (i := 678) rfl, rfl⟩
set_option maxRecDepth 100000 in
theorem zcd84 : Cond.code (zNm 84) (zBy 84) (zMl 84) (zRet 84) ∈ zAll := List.mem_filter.mpr ⟨List.mem_of_getElem? (i := 686) rfl, rfl⟩
set_option maxRecDepth 100000 in
theorem zcd85 : Cond.code (zNm 85) (zBy 85) (zMl 85) (zRet 85) ∈ zAll := List.mem_filter.mpr ⟨List.mem_of_getElem? (i := 730) rfl, rfl⟩
set_option maxRecDepth 100000 in
theorem zcd86 : Cond.code (zNm 86) (zBy 86) (zMl 86) (zRet 86) ∈ zAll := List.mem_filter.mpr ⟨List.mem_of_getElem? (i := 738) rfl, rfl⟩
set_option maxRecDepth 100000 in
theorem zcd87 : Cond.code (zNm 87) (zBy 87) (zMl 87) (zRet 87) ∈ zAll := List.mem_filter.mpr ⟨List.mem_of_getElem? (i := 690) rfl, rfl⟩
set_option maxRecDepth 100000 in
theorem zcd88 : Cond.code (zNm 88) (zBy 88) (zMl 88) (zRet 88) ∈ zAll := List.mem_filter.mpr ⟨List.mem_of_getElem? (i := 710) rfl, rfl⟩
set_option maxRecDepth 100000 in
theorem zcd89 : Cond.code (zNm 89) (zBy 89) (zMl 89) (zRet 89) ∈ zAll := List.mem_filter.mpr ⟨List.mem_of_getElem? (i := 666) rfl, rfl⟩
set_option maxRecDepth 100000 in
theorem zcd90 : Cond.code (zNm 90) (zBy 90) (zMl 90) (zRet 90) ∈ zAll := List.mem_filter.mpr ⟨List.mem_of_getElem? (i := 694) rfl, rfl⟩
set_option maxRecDepth 100000 in
theorem zcd91 : Cond.code (zNm 91) (zBy 91) (zMl 91) (zRet 91) ∈ zAll := List.mem_filter.mpr ⟨List.mem_of_getElem? (i := 702) rfl, rfl⟩
set_option maxRecDepth 100000 in
theorem zcd92 : Cond.code (zNm 92) (zBy 92) (zMl 92) (zRet 92) ∈ zAll := List.mem_filter.mpr ⟨List.mem_of_getElem? (i := 698) rfl, rfl⟩
set_option maxRecDepth 100000 in
theorem zcd93 : Cond.code (zNm 93) (zBy 93) (zMl 93) (zRet 93) ∈ zAll := List.mem_filter.mpr ⟨List.mem_of_getElem? (i := 718) rfl, rfl⟩
set_option maxRecDepth 100000 in
theorem zcd94 : Cond.code (zNm 94) (zBy 94) (zMl 94) (zRet 94) ∈ zAll := List.mem_filter.mpr ⟨List.mem_of_getElem? (i := 726) rfl, rfl⟩
set_option maxRecDepth 100000 in
theorem zcd95 : Cond.code (zNm 95) (zBy 95) (zMl 95) (zRet 95) ∈ zAll := List.mem_filter.mpr ⟨List.mem_of_getElem? (i := 722) rfl, rfl⟩
set_option maxRecDepth 100000 in
theorem zcd96 : Cond.code (zNm 96) (zBy 96) (zMl 96) (zRet 96) ∈ zAll := List.mem_filter.mpr ⟨List.mem_of_getElem? (i := 714) rfl, rfl⟩
set_option maxRecDepth 100000 in
theorem zcd97 : Cond.code (zNm 97) (zBy 97) (zMl 97) (zRet 97) ∈ zAll := List.mem_filter.mpr ⟨List.mem_of_getElem? (i := 746) rfl, rfl⟩
set_option maxRecDepth 100000 in
theorem zcd98 : Cond.code (zNm 98) (zBy 98) (zMl 98) (zRet 98) ∈ zAll := List.mem_filter.mpr ⟨List.mem_of_getElem? (i := 734) rfl, rfl⟩
set_option maxRecDepth 100000 in
theorem zcd99 : Cond.code (zNm 99) (zBy 99) (zMl 99) (zRet 99) ∈ zAll := List.mem_filter.mpr ⟨List.mem_of_getElem? (i := 742) rfl, rfl⟩
set_option maxRecDepth 100000 in
theorem zcd100 : Cond.code (zNm 100) (zBy 100) (zMl 100) (zRet 100) ∈ zAll := List.mem_filter.mpr ⟨List.mem_of_getElem? (i := 754) rfl, rfl⟩
set_option maxRecDepth 100000 in
theorem zcd101 : Cond.code (zNm 101) (zBy 101) (zMl 101) (zRet 101) ∈ zAll := List.mem_filter.mpr ⟨List.mem_of_getElem? (i := 706) rfl, rfl⟩
set_option maxRecDepth 100000 in
theorem zcd102 : Cond.code (zNm 102) (zBy 102) (zMl 102) (zRet 102) ∈ zAll := List.mem_filter.mpr ⟨List.mem_of_getElem? (i := 758) rfl, rfl⟩
set_option maxRecDepth 100000 in
theorem zcd103 : Cond.code (zNm 103) (zBy 103) (zMl 103) (zRet 103) ∈ zAll := List.mem_filter.mpr ⟨List.mem_of_getElem? (i := 762) rfl, rfl⟩
set_option maxRecDepth 100000 in
theorem zcd104 : Cond.code (zNm 104) (zBy 104) (zMl 104) (zRet 104) ∈ zAll := List.mem_filter.mpr ⟨List.mem_of_getElem? (i := 766) rfl, rfl⟩
set_option maxRecDepth 100000 in
theorem zcd105 : Cond.code (zNm 105) (zBy 105) (zMl 105) (zRet 105) ∈ zAll := List.mem_filter.mpr ⟨List.mem_of_getElem? (i := 770) rfl, rfl⟩
set_option maxRecDepth 100000 in
theorem zcd106 : Cond.code (zNm 106) (zBy 106) (zMl 106) (zRet 106) ∈ zAll := List.mem_filter.mpr ⟨List.mem_of_getElem? (i := 778) rfl, rfl⟩
set_option maxRecDepth 100000 in
theorem zcd107 : Cond.code (zNm 107) (zBy 107) (zMl 107) (zRet 107) ∈ zAll := List.mem_filter.mpr ⟨List.mem_of_getElem? (i := 774) rfl, rfl⟩
set_option maxRecDepth 100000 in
theorem zcd108 : Cond.code (zNm 108) (zBy 108) (zMl 108) (zRet 108) ∈ zAll := List.mem_filter.mpr ⟨List.mem_of_getElem? (i := 782) rfl, rfl⟩
set_option maxRecDepth 100000 in
theorem zcd109 : Cond.code (zNm 109) (zBy 109) (zMl 109) (zRet 109) ∈ zAll := List.mem_filter.mpr ⟨List.mem_of_getElem? (i := 786) rfl, rfl⟩
set_option maxRecDepth 100000 in
theorem zcd110 : Cond.code (zNm 110) (zBy 110) (zMl 110) (zRet 110) ∈ zAll := List.mem_filter.mpr ⟨List.mem_of_getElem? (i := 790) rfl, rfl⟩
set_option maxRecDepth 100000 in
theorem zcd111 : Cond.code (zNm 111) (zBy 111) (zMl 111) (zRet 111) ∈ zAll := List.mem_filter.mpr ⟨List.mem_of_getElem? (i := 794) rfl, rfl⟩
set_option maxRecDepth 100000 in
theorem zcd112 : Cond.code (zNm 112) (zBy 112) (zMl 112) (zRet 112) ∈ zAll := List.mem_filter.mpr ⟨List.mem_of_getElem? (i := 798) rfl, rfl⟩
set_option maxRecDepth 100000 in
theorem zcd113 : Cond.code (zNm 113) (zBy 113) (zMl 113) (zRet 113) ∈ zAll := List.mem_filter.mpr ⟨List.mem_of_getElem? (i := 802) rfl, rfl⟩
set_option maxRecDepth 100000 in
theorem zcd114 : Cond.code (zNm 114) (zBy 114) (zMl 114) (zRet 114) ∈ zAll := List.mem_filter.mpr ⟨List.mem_of_getElem? (i := 806) rfl, rfl⟩
set_option maxRecDepth 100000 in
theorem zcd116 : Cond.code (zNm 116) (zBy 116) (zMl 116) (zRet 116) ∈ zAll := List.mem_filter.mpr ⟨List.mem_of_getElem? (i := 550) rfl, rfl⟩
def zCdL : List Nat := [0, 1, 2, 3, 4, 5, 6, 7, 8, 9, 10, 11, 12, 13, 14, 15, 16, 17, 18, 19, 20, 21, 22, 23, 24, 25, 26, 27, 28, 29, 30, 31, 32, 33, 34, 35, 36, 37, 38, 39, 40, 41, 42, 43, 44, 45, 46, 47, 48, 49, 50, 51, 52, 53, 54, 55, 56, 57, 58, 59, 60, 61, 62, 63, 64, 65, 66, 67, 68, 69, 70, 71, 72, 73, 74, 75, 76, 77, 78, 79, 80, 81, 82, 83, 84, 85, 86, 87, 88, 89, 90, 91, 92, 93, 94, 95, 96, 97, 98, 99, 100, 101, 102, 103, 104, 105, 106, 107, 108, 109, 110, 111, 112, 113, 114, 116]
set_option maxRecDepth 100000 in
theorem zCd_all : ∀ x ∈ zCdL, Cond.code (zNm x) (zBy x) (zMl x) (zRet x) ∈ zAll := List.forall_mem_cons.mpr ⟨zcd0, List.forall_mem_cons.mpr ⟨zcd1, List.forall_mem_cons.mpr ⟨zcd2, List.forall_mem_cons.mpr ⟨zcd3, List.forall_mem_cons.mpr ⟨zcd4, List.forall_mem_cons.mpr ⟨zcd5, List.forall_mem_cons.mpr ⟨zcd6, List.forall_mem_cons.mpr ⟨zcd7, List.forall_mem_cons.mpr ⟨zcd8, List.forall_mem_cons.mpr ⟨zcd9, List.forall_mem_cons.mpr ⟨zcd10, List.forall_mem_cons.mpr ⟨zcd11, List.forall_mem_cons.mpr ⟨zcd12, List.forall_mem_cons.mpr ⟨zcd13, List.forall_mem_cons.mpr ⟨zcd14, List.forall_mem_cons.mpr ⟨zcd15, List.forall_mem_cons.mpr ⟨zcd16, List.forall_mem_cons.mpr ⟨zcd17, List.forall_mem_cons.mpr ⟨zcd18, List.forall_mem_cons.mpr ⟨zcd19, List.forall_mem_cons.mpr ⟨zcd20, List.forall_mem_cons.mpr ⟨zcd21, List.forall_mem_cons.mpr ⟨zcd22, List.forall_mem_cons.mpr ⟨zcd23, List.forall_mem_cons.mpr ⟨zcd24, List.forall_mem_cons.mpr ⟨zcd25, List.forall_mem_cons.mpr ⟨zcd26, List.forall_mem_cons.mpr ⟨zcd27, List.forall_mem_cons.mpr ⟨zcd28, List.forall_mem_cons.mpr ⟨zcd29, List.forall_mem_cons.mpr ⟨zcd30, List.forall_mem_cons.mpr ⟨zcd31, List.forall_mem_cons.mpr ⟨zcd32, List.forall_mem_cons.mpr ⟨zcd33, List.forall_mem_cons.mpr ⟨zcd34, List.forall_mem_cons.mpr ⟨zcd35, List.forall_mem_cons.mpr ⟨zcd36, List.forall_mem_cons.mpr ⟨zcd37, List.forall_mem_cons.mpr ⟨zcd38, List.forall_mem_cons.mpr ⟨zcd39, List.forall_mem_cons.mpr ⟨zcd40, List.forall_mem_cons.mpr ⟨zcd41, List.forall_mem_cons.mpr ⟨zcd42, List.forall_mem_cons.mpr ⟨zcd43, List.forall_mem_cons.mpr ⟨zcd44, List.forall_mem_cons.mpr ⟨zcd45, List.forall_mem_cons.mpr ⟨zcd46, List.forall_mem_cons.mpr ⟨zcd47, List.forall_mem_cons.mpr ⟨zcd48, List.forall_mem_cons.mpr ⟨zcd49, List.forall_mem_cons.mpr ⟨zcd50, List.forall_mem_cons.mpr ⟨zcd51, List.forall_mem_cons.mpr ⟨zcd52, List.forall_mem_cons.mpr ⟨zcd53, List.forall_mem_cons.mpr ⟨zcd54, List.forall_mem_cons.mpr ⟨zcd55, List.forall_mem_cons.mpr ⟨zcd56, List.forall_mem_cons.mpr ⟨zcd57, List.forall_mem_cons.mpr ⟨zcd58, List.forall_mem_cons.mpr ⟨zcd59, List.forall_mem_cons.mpr ⟨zcd60, List.forall_mem_cons.mpr ⟨zcd61, List.forall_mem_cons.mpr ⟨zcd62, List.forall_mem_cons.mpr ⟨zcd63, List.forall_mem_cons.mpr ⟨zcd64, List.forall_mem_cons.mpr ⟨zcd65, List.forall_mem_cons.mpr ⟨zcd66, List.forall_mem_cons.mpr ⟨zcd67, List.forall_mem_cons.mpr ⟨zcd68, List.forall_mem_cons.mpr ⟨zcd69, List.forall_mem_cons.mpr ⟨zcd70, List.forall_mem_cons.mpr ⟨zcd71, List.forall_mem_cons.mpr ⟨zcd72, List.forall_mem_cons.mpr ⟨zcd73, List.forall_mem_cons.mpr ⟨zcd74, List.forall_mem_cons.mpr ⟨zcd75, List.forall_mem_cons.mpr ⟨zcd76, List.forall_mem_cons.mpr ⟨zcd77, List.forall_mem_cons.mpr ⟨zcd78, List.forall_mem_cons.mpr ⟨zcd79, List.forall_mem_cons.mpr ⟨zcd80, List.forall_mem_cons.mpr ⟨zcd81, List.forall_mem_cons.mpr ⟨zcd82, List.forall_mem_cons.mpr ⟨zcd83, List.forall_mem_cons.mpr ⟨zcd84, List.forall_mem_cons.mpr ⟨zcd85, List.forall_mem_cons.mpr ⟨zcd86, List.forall_mem_cons.mpr ⟨zcd87, List.forall_mem_cons.mpr ⟨zcd88, List.forall_mem_cons.mpr ⟨zcd89, List.forall_mem_cons.mpr ⟨zcd90, List.forall_mem_cons.mpr ⟨zcd91, List.forall_mem_cons.mpr ⟨zcd92, List.forall_mem_cons.mpr ⟨zcd93, List.forall_mem_cons.mpr ⟨zcd94, List.forall_mem_cons.mpr ⟨zcd95, List.forall_mem_cons.mpr ⟨zcd96, List.forall_mem_cons.mpr ⟨zcd97, List.forall_mem_cons.mpr ⟨zcd98, List.forall_mem_cons.mpr ⟨zcd99, List.forall_mem_cons.mpr ⟨zcd100, List.forall_mem_cons.mpr ⟨zcd101, List.forall_mem_cons.mpr ⟨zcd102, List.forall_mem_cons.mpr ⟨zcd103, List.forall_mem_cons.mpr ⟨zcd104, List.forall_mem_cons.mpr ⟨zcd105, List.forall_mem_cons.mpr ⟨zcd106, List.forall_mem_cons.mpr ⟨zcd107, List.forall_mem_cons.mpr ⟨zcd108, List.forall_mem_cons.mpr ⟨zcd109, List.forall_mem_cons.mpr ⟨zcd110, List.forall_mem_cons.mpr ⟨zcd111, List.forall_mem_cons.mpr ⟨zcd112, List.forall_mem_cons.mpr ⟨zcd113, List.forall_mem_cons.mpr ⟨zcd114, List.forall_mem_cons.mpr ⟨zcd116, fun _ h => absurd h List.not_mem_nil⟩⟩⟩⟩⟩⟩⟩⟩⟩⟩⟩⟩⟩⟩⟩⟩⟩⟩⟩⟩⟩⟩⟩⟩⟩⟩⟩⟩⟩⟩⟩⟩⟩⟩⟩⟩⟩⟩⟩⟩⟩⟩⟩⟩⟩⟩⟩⟩⟩⟩⟩⟩⟩⟩⟩⟩⟩⟩⟩⟩⟩⟩⟩⟩⟩⟩⟩⟩⟩⟩⟩⟩⟩⟩⟩⟩⟩⟩⟩⟩⟩⟩⟩⟩⟩⟩⟩⟩⟩⟩⟩⟩⟩⟩⟩⟩⟩⟩⟩⟩⟩⟩⟩⟩⟩⟩⟩⟩⟩⟩⟩⟩⟩⟩⟩⟩
def zCk (x : Nat) : Bool := decide (x ∈ zCdL)
theorem zCd_of {x : Nat} (h : zCk x = true) : Cond.code (zNm x) (zBy x) (zMl x) (zRet x) ∈ zAll := zCd_all x (of_decide_eq_true h)
def zVls : List (Nat × Nat × Nat × Nat × Nat) := [(0, 98, 38, 3, 1), (0, 102, 20, 1, 0), (0, 105, 59, 0, 6), (0, 109, 62, 3, 6), (0, 113, 40, 1, 1), (0, 119, 60, 5, 6), (0, 126, 71, 7, 8), (0, 130, 49, 1, 3), (0, 133, 51, 1, 3), (0, 137, 69, 1, 8), (0, 144, 66, 1, 7), (0, 148, 73, 1, 8), (0, 151, 23, 1, 0), (0, 157, 70, 0, 8), (0, 158, 72, 1, 8), (0, 164, 67, 1, 7), (0, 170, 56, 1, 4), (0, 174, 44, 1, 2), (0, 177, 36, 1, 0), (0, 167, 34, 1, 0), (0, 180, 19, 1, 0), (0, 192, 55, 2, 4), (0, 207, 31, 1, 0), (0, 204, 28, 1, 0), (0, 201, 30, 1, 0), (0, 198, 29, 1, 0), (0, 195, 24, 1, 0), (0, 219, 63, 2, 6), (0, 226, 33, 1, 0), (0, 222, 26, 2, 0), (0, 229, 27, 2, 0), (0, 233, 25, 2, 0), (0, 236, 43, 1, 2), (0, 237, 42, 0, 2), (0, 239, 46, 1, 2), (0, 242, 64, 1, 6), (0, 238, 45, 1, 2), (0, 251, 61, 1, 6), (0, 257, 32, 3, 0), (0, 261, 54, 3, 4), (0, 271, 50, 2, 3), (0, 274, 35, 2, 0), (1, 22, 39, 2, 1), (2, 19, 47, 1, 2), (2, 23, 43, 1, 2), (2, 27, 42, 0, 2), (3, 22, 52, 1, 3), (8, 20, 70, 0, 8), (8, 45, 66, 1, 7), (9, 102, 85, 1, 9), (9, 109, 76, 1, 9), (9, 113, 81, 1, 9), (9, 116, 83, 4, 9), (9, 120, 80, 1, 9), (9, 123, 84, 5, 9), (9, 127, 87, 7, 9), (9, 134, 91, 1, 9), (9, 140, 93, 2, 9), (9, 144, 95, 4, 9), (9, 148, 94, 2, 9), (9, 152, 82, 2, 9), (9, 155, 86, 2, 9), (9, 158, 88, 1, 9), (9, 174, 100, 5, 9), (9, 171, 97, 4, 9), (9, 168, 99, 4, 9), (9, 165, 98, 4, 9), (9, 161, 96, 3, 9), (9, 178, 106, 1, 9), (10, 95, 18, 1, 0), (10, 98, 114, 1, 9), (10, 91, 17, 1, 0), (10, 94, 113, 1, 9), (10, 87, 16, 2, 0), (10, 90, 112, 2, 9), (10, 83, 15, 1, 0), (10, 86, 111, 1, 9), (10, 79, 14, 2, 0), (10, 82, 110, 2, 9), (10, 75, 13, 1, 0), (10, 78, 109, 1, 9), (10, 71, 12, 2, 0), (10, 74, 108, 2, 9), (10, 67, 11, 0, 0), (10, 70, 107, 0, 9), (10, 63, 10, 2, 0), (10, 66, 105, 2, 9), (10, 58, 9, 0, 0), (10, 62, 104, 0, 9), (10, 54, 8, 1, 0), (10, 57, 103, 1, 9), (10, 49, 7, 1, 0), (10, 53, 102, 1, 9), (10, 45, 6, 1, 0), (10, 48, 101, 1, 9), (10, 41, 5, 1, 0), (10, 44, 92, 1, 9), (10, 36, 4, 1, 0), (10, 40, 90, 1, 9), (10, 31, 3, 2, 0), (10, 35, 89, 2, 9), (10, 26, 2, 3, 0), (10, 30, 79, 3, 9), (10, 21, 1, 2, 0), (10, 25, 78, 2, 9)]
theorem zVls_0 : zIx (fun q : Nat × Nat × Nat × Nat × Nat => .methodLink (zCn q.1) q.2.1 (zNm q.2.2.1)) [((0, 98, 38, 3, 1), 296), ((0, 102, 20, 1, 0), 308), ((0, 105, 59, 0, 6), 312), ((0, 109, 62, 3, 6), 316), ((0, 113, 40, 1, 1), 320), ((0, 119, 60, 5, 6), 325), ((0, 126, 71, 7, 8), 332), ((0, 130, 49, 1, 3), 344), ((0, 133, 51, 1, 3), 352), ((0, 137, 69, 1, 8), 364), ((0, 144, 66, 1, 7), 368), ((0, 148, 73, 1, 8), 372), ((0, 151, 23, 1, 0), 376), ((0, 157, 70, 0, 8), 470), ((0, 158, 72, 1, 8), 471), ((0, 164, 67, 1, 7), 484), ((0, 170, 56, 1, 4), 500), ((0, 174, 44, 1, 2), 504), ((0, 177, 36, 1, 0), 508), ((0, 167, 34, 1, 0), 492), ((0, 180, 19, 1, 0), 528), ((0, 192, 55, 2, 4), 544), ((0, 207, 31, 1, 0), 454), ((0, 204, 28, 1, 0), 446), ((0, 201, 30, 1, 0), 438), ((0, 198, 29, 1, 0), 430), ((0, 195, 24, 1, 0), 380), ((0, 219, 63, 2, 6), 384), ((0, 226, 33, 1, 0), 408), ((0, 222, 26, 2, 0), 388), ((0, 229, 27, 2, 0), 412), ((0, 233, 25, 2, 0), 392), ((0, 236, 43, 1, 2), 396), ((0, 237, 42, 0, 2), 404), ((0, 239, 46, 1, 2), 422), ((0, 242, 64, 1, 6), 426), ((0, 238, 45, 1, 2), 416), ((0, 251, 61, 1, 6), 450), ((0, 257, 32, 3, 0), 434), ((0, 261, 54, 3, 4), 442), ((0, 271, 50, 2, 3), 458), ((0, 274, 35, 2, 0), 496), ((1, 22, 39, 2, 1), 300), ((2, 19, 47, 1, 2), 400), ((2, 23, 43, 1, 2), 420), ((2, 27, 42, 0, 2), 421), ((3, 22, 52, 1, 3), 356), ((8, 20, 70, 0, 8), 336), ((8, 45, 66, 1, 7), 475), ((9, 102, 85, 1, 9), 727), ((9, 109, 76, 1, 9), 667), ((9, 113, 81, 1, 9), 671), ((9, 116, 83, 4, 9), 675), ((9, 120, 80, 1, 9), 679), ((9, 123, 84, 5, 9), 683), ((9, 127, 87, 7, 9), 687), ((9, 134, 91, 1, 9), 699), ((9, 140, 93, 2, 9), 715), ((9, 144, 95, 4, 9), 719), ((9, 148, 94, 2, 9), 723), ((9, 152, 82, 2, 9), 747), ((9, 155, 86, 2, 9), 735), ((9, 158, 88, 1, 9), 707), ((9, 174, 100, 5, 9), 751), ((9, 171, 97, 4, 9), 743), ((9, 168, 99, 4, 9), 739), ((9, 165, 98, 4, 9), 731), ((9, 161, 96, 3, 9), 711), ((9, 178, 106, 1, 9), 775), ((10, 95, 18, 1, 0), 540), ((10, 98, 114, 1, 9), 803), ((10, 91, 17, 1, 0), 536), ((10, 94, 113, 1, 9), 799), ((10, 87, 16, 2, 0), 532), ((10, 90, 112, 2, 9), 795), ((10, 83, 15, 1, 0), 524), ((10, 86, 111, 1, 9), 791), ((10, 79, 14, 2, 0), 520), ((10, 82, 110, 2, 9), 787), ((10, 75, 13, 1, 0), 516), ((10, 78, 109, 1, 9), 783), ((10, 71, 12, 2, 0), 512), ((10, 74, 108, 2, 9), 779), ((10, 67, 11, 0, 0), 488), ((10, 70, 107, 0, 9), 771), ((10, 63, 10, 2, 0), 480), ((10, 66, 105, 2, 9), 767), ((10, 58, 9, 0, 0), 476), ((10, 62, 104, 0, 9), 763), ((10, 54, 8, 1, 0), 466), ((10, 57, 103, 1, 9), 759), ((10, 49, 7, 1, 0), 462), ((10, 53, 102, 1, 9), 755), ((10, 45, 6, 1, 0), 360), ((10, 48, 101, 1, 9), 703), ((10, 41, 5, 1, 0), 348), ((10, 44, 92, 1, 9), 695), ((10, 36, 4, 1, 0), 340), ((10, 40, 90, 1, 9), 691), ((10, 31, 3, 2, 0), 304), ((10, 35, 89, 2, 9), 663), ((10, 26, 2, 3, 0), 292), ((10, 30, 79, 3, 9), 656), ((10, 21, 1, 2, 0), 283), ((10, 25, 78, 2, 9), 648)] = true := by decide +kernel
theorem zVls_1 : zIx (fun q : Nat × Nat × Nat × Nat × Nat => .instanceMethod (zNm q.2.2.1)) [((0, 98, 38, 3, 1), 297), ((0, 102, 20, 1, 0), 310), ((0, 105, 59, 0, 6), 313), ((0, 109, 62, 3, 6), 317), ((0, 113, 40, 1, 1), 321), ((0, 119, 60, 5, 6), 326), ((0, 126, 71, 7, 8), 333), ((0, 130, 49, 1, 3), 345), ((0, 133, 51, 1, 3), 353), ((0, 137, 69, 1, 8), 365), ((0, 144, 66, 1, 7), 369), ((0, 148, 73, 1, 8), 373), ((0, 151, 23, 1, 0), 378), ((0, 157, 70, 0, 8), 337), ((0, 158, 72, 1, 8), 472), ((0, 164, 67, 1, 7), 485), ((0, 170, 56, 1, 4), 501), ((0, 174, 44, 1, 2), 505), ((0, 177, 36, 1, 0), 510), ((0, 167, 34, 1, 0), 494), ((0, 180, 19, 1, 0), 530), ((0, 192, 55, 2, 4), 545), ((0, 207, 31, 1, 0), 456), ((0, 204, 28, 1, 0), 448), ((0, 201, 30, 1, 0), 440), ((0, 198, 29, 1, 0), 432), ((0, 195, 24, 1, 0), 382), ((0, 219, 63, 2, 6), 385), ((0, 226, 33, 1, 0), 410), ((0, 222, 26, 2, 0), 390), ((0, 229, 27, 2, 0), 414), ((0, 233, 25, 2, 0), 394), ((0, 236, 43, 1, 2), 397), ((0, 237, 42, 0, 2), 405), ((0, 239, 46, 1, 2), 423), ((0, 242, 64, 1, 6), 427), ((0, 238, 45, 1, 2), 417), ((0, 251, 61, 1, 6), 451), ((0, 257, 32, 3, 0), 436), ((0, 261, 54, 3, 4), 443), ((0, 271, 50, 2, 3), 459), ((0, 274, 35, 2, 0), 498), ((1, 22, 39, 2, 1), 302), ((2, 19, 47, 1, 2), 402), ((2, 23, 43, 1, 2), 397), ((2, 27, 42, 0, 2), 405), ((3, 22, 52, 1, 3), 358), ((8, 20, 70, 0, 8), 337), ((8, 45, 66, 1, 7), 369), ((9, 102, 85, 1, 9), 729), ((9, 109, 76, 1, 9), 669), ((9, 113, 81, 1, 9), 673), ((9, 116, 83, 4, 9), 677), ((9, 120, 80, 1, 9), 681), ((9, 123, 84, 5, 9), 685), ((9, 127, 87, 7, 9), 689), ((9, 134, 91, 1, 9), 701), ((9, 140, 93, 2, 9), 717), ((9, 144, 95, 4, 9), 721), ((9, 148, 94, 2, 9), 725), ((9, 152, 82, 2, 9), 749), ((9, 155, 86, 2, 9), 737), ((9, 158, 88, 1, 9), 709), ((9, 174, 100, 5, 9), 753), ((9, 171, 97, 4, 9), 745), ((9, 168, 99, 4, 9), 741), ((9, 165, 98, 4, 9), 733), ((9, 161, 96, 3, 9), 713), ((9, 178, 106, 1, 9), 777), ((10, 95, 18, 1, 0), 541), ((10, 98, 114, 1, 9), 804), ((10, 91, 17, 1, 0), 537), ((10, 94, 113, 1, 9), 800), ((10, 87, 16, 2, 0), 533), ((10, 90, 112, 2, 9), 796), ((10, 83, 15, 1, 0), 525), ((10, 86, 111, 1, 9), 792), ((10, 79, 14, 2, 0), 521), ((10, 82, 110, 2, 9), 788), ((10, 75, 13, 1, 0), 517), ((10, 78, 109, 1, 9), 784), ((10, 71, 12, 2, 0), 513), ((10, 74, 108, 2, 9), 780), ((10, 67, 11, 0, 0), 489), ((10, 70, 107, 0, 9), 772), ((10, 63, 10, 2, 0), 481), ((10, 66, 105, 2, 9), 768), ((10, 58, 9, 0, 0), 477), ((10, 62, 104, 0, 9), 764), ((10, 54, 8, 1, 0), 467), ((10, 57, 103, 1, 9), 760), ((10, 49, 7, 1, 0), 463), ((10, 53, 102, 1, 9), 756), ((10, 45, 6, 1, 0), 361), ((10, 48, 101, 1, 9), 704), ((10, 41, 5, 1, 0), 349), ((10, 44, 92, 1, 9), 696), ((10, 36, 4, 1, 0), 341), ((10, 40, 90, 1, 9), 692), ((10, 31, 3, 2, 0), 305), ((10, 35, 89, 2, 9), 664), ((10, 26, 2, 3, 0), 293), ((10, 30, 79, 3, 9), 657), ((10, 21, 1, 2, 0), 284), ((10, 25, 78, 2, 9), 649)] = true := by decide +kernel
theorem zVls_2 : zIx (fun q : Nat × Nat × Nat × Nat × Nat => .selects (zCn q.2.2.2.2) (zNm q.2.2.1) (zNm q.2.2.1)) [((0, 98, 38, 3, 1), 298), ((0, 102, 20, 1, 0), 1), ((0, 105, 59, 0, 6), 314), ((0, 109, 62, 3, 6), 318), ((0, 113, 40, 1, 1), 322), ((0, 119, 60, 5, 6), 327), ((0, 126, 71, 7, 8), 334), ((0, 130, 49, 1, 3), 346), ((0, 133, 51, 1, 3), 354), ((0, 137, 69, 1, 8), 366), ((0, 144, 66, 1, 7), 370), ((0, 148, 73, 1, 8), 374), ((0, 151, 23, 1, 0), 3), ((0, 157, 70, 0, 8), 338), ((0, 158, 72, 1, 8), 473), ((0, 164, 67, 1, 7), 486), ((0, 170, 56, 1, 4), 502), ((0, 174, 44, 1, 2), 506), ((0, 177, 36, 1, 0), 17), ((0, 167, 34, 1, 0), 15), ((0, 180, 19, 1, 0), 18), ((0, 192, 55, 2, 4), 546), ((0, 207, 31, 1, 0), 14), ((0, 204, 28, 1, 0), 13), ((0, 201, 30, 1, 0), 12), ((0, 198, 29, 1, 0), 10), ((0, 195, 24, 1, 0), 4), ((0, 219, 63, 2, 6), 386), ((0, 226, 33, 1, 0), 8), ((0, 222, 26, 2, 0), 5), ((0, 229, 27, 2, 0), 9), ((0, 233, 25, 2, 0), 6), ((0, 236, 43, 1, 2), 398), ((0, 237, 42, 0, 2), 406), ((0, 239, 46, 1, 2), 424), ((0, 242, 64, 1, 6), 428), ((0, 238, 45, 1, 2), 418), ((0, 251, 61, 1, 6), 452), ((0, 257, 32, 3, 0), 11), ((0, 261, 54, 3, 4), 444), ((0, 271, 50, 2, 3), 460), ((0, 274, 35, 2, 0), 16), ((1, 22, 39, 2, 1), 0), ((2, 19, 47, 1, 2), 7), ((2, 23, 43, 1, 2), 398), ((2, 27, 42, 0, 2), 406), ((3, 22, 52, 1, 3), 2), ((8, 20, 70, 0, 8), 338), ((8, 45, 66, 1, 7), 370), ((9, 102, 85, 1, 9), 31), ((9, 109, 76, 1, 9), 19), ((9, 113, 81, 1, 9), 20), ((9, 116, 83, 4, 9), 21), ((9, 120, 80, 1, 9), 22), ((9, 123, 84, 5, 9), 23), ((9, 127, 87, 7, 9), 24), ((9, 134, 91, 1, 9), 25), ((9, 140, 93, 2, 9), 28), ((9, 144, 95, 4, 9), 29), ((9, 148, 94, 2, 9), 30), ((9, 152, 82, 2, 9), 36), ((9, 155, 86, 2, 9), 33), ((9, 158, 88, 1, 9), 26), ((9, 174, 100, 5, 9), 37), ((9, 171, 97, 4, 9), 35), ((9, 168, 99, 4, 9), 34), ((9, 165, 98, 4, 9), 32), ((9, 161, 96, 3, 9), 27), ((9, 178, 106, 1, 9), 38), ((10, 95, 18, 1, 0), 542), ((10, 98, 114, 1, 9), 805), ((10, 91, 17, 1, 0), 538), ((10, 94, 113, 1, 9), 801), ((10, 87, 16, 2, 0), 534), ((10, 90, 112, 2, 9), 797), ((10, 83, 15, 1, 0), 526), ((10, 86, 111, 1, 9), 793), ((10, 79, 14, 2, 0), 522), ((10, 82, 110, 2, 9), 789), ((10, 75, 13, 1, 0), 518), ((10, 78, 109, 1, 9), 785), ((10, 71, 12, 2, 0), 514), ((10, 74, 108, 2, 9), 781), ((10, 67, 11, 0, 0), 490), ((10, 70, 107, 0, 9), 773), ((10, 63, 10, 2, 0), 482), ((10, 66, 105, 2, 9), 769), ((10, 58, 9, 0, 0), 478), ((10, 62, 104, 0, 9), 765), ((10, 54, 8, 1, 0), 468), ((10, 57, 103, 1, 9), 761), ((10, 49, 7, 1, 0), 464), ((10, 53, 102, 1, 9), 757), ((10, 45, 6, 1, 0), 362), ((10, 48, 101, 1, 9), 705), ((10, 41, 5, 1, 0), 350), ((10, 44, 92, 1, 9), 697), ((10, 36, 4, 1, 0), 342), ((10, 40, 90, 1, 9), 693), ((10, 31, 3, 2, 0), 306), ((10, 35, 89, 2, 9), 665), ((10, 26, 2, 3, 0), 294), ((10, 30, 79, 3, 9), 658), ((10, 21, 1, 2, 0), 285), ((10, 25, 78, 2, 9), 650)] = true := by decide +kernel
theorem zVls_3 : zIx (fun q : Nat × Nat × Nat × Nat × Nat => .initialized (zCn q.2.2.2.2)) [((0, 98, 38, 3, 1), 41), ((0, 102, 20, 1, 0), 40), ((0, 105, 59, 0, 6), 48), ((0, 109, 62, 3, 6), 48), ((0, 113, 40, 1, 1), 41), ((0, 119, 60, 5, 6), 48), ((0, 126, 71, 7, 8), 44), ((0, 130, 49, 1, 3), 43), ((0, 133, 51, 1, 3), 43), ((0, 137, 69, 1, 8), 44), ((0, 144, 66, 1, 7), 45), ((0, 148, 73, 1, 8), 44), ((0, 151, 23, 1, 0), 40), ((0, 157, 70, 0, 8), 44), ((0, 158, 72, 1, 8), 44), ((0, 164, 67, 1, 7), 45), ((0, 170, 56, 1, 4), 47), ((0, 174, 44, 1, 2), 42), ((0, 177, 36, 1, 0), 40), ((0, 167, 34, 1, 0), 40), ((0, 180, 19, 1, 0), 40), ((0, 192, 55, 2, 4), 47), ((0, 207, 31, 1, 0), 40), ((0, 204, 28, 1, 0), 40), ((0, 201, 30, 1, 0), 40), ((0, 198, 29, 1, 0), 40), ((0, 195, 24, 1, 0), 40), ((0, 219, 63, 2, 6), 48), ((0, 226, 33, 1, 0), 40), ((0, 222, 26, 2, 0), 40), ((0, 229, 27, 2, 0), 40), ((0, 233, 25, 2, 0), 40), ((0, 236, 43, 1, 2), 42), ((0, 237, 42, 0, 2), 42), ((0, 239, 46, 1, 2), 42), ((0, 242, 64, 1, 6), 48), ((0, 238, 45, 1, 2), 42), ((0, 251, 61, 1, 6), 48), ((0, 257, 32, 3, 0), 40), ((0, 261, 54, 3, 4), 47), ((0, 271, 50, 2, 3), 43), ((0, 274, 35, 2, 0), 40), ((1, 22, 39, 2, 1), 41), ((2, 19, 47, 1, 2), 42), ((2, 23, 43, 1, 2), 42), ((2, 27, 42, 0, 2), 42), ((3, 22, 52, 1, 3), 43), ((8, 20, 70, 0, 8), 44), ((8, 45, 66, 1, 7), 45), ((9, 102, 85, 1, 9), 50), ((9, 109, 76, 1, 9), 50), ((9, 113, 81, 1, 9), 50), ((9, 116, 83, 4, 9), 50), ((9, 120, 80, 1, 9), 50), ((9, 123, 84, 5, 9), 50), ((9, 127, 87, 7, 9), 50), ((9, 134, 91, 1, 9), 50), ((9, 140, 93, 2, 9), 50), ((9, 144, 95, 4, 9), 50), ((9, 148, 94, 2, 9), 50), ((9, 152, 82, 2, 9), 50), ((9, 155, 86, 2, 9), 50), ((9, 158, 88, 1, 9), 50), ((9, 174, 100, 5, 9), 50), ((9, 171, 97, 4, 9), 50), ((9, 168, 99, 4, 9), 50), ((9, 165, 98, 4, 9), 50), ((9, 161, 96, 3, 9), 50), ((9, 178, 106, 1, 9), 50), ((10, 95, 18, 1, 0), 40), ((10, 98, 114, 1, 9), 50), ((10, 91, 17, 1, 0), 40), ((10, 94, 113, 1, 9), 50), ((10, 87, 16, 2, 0), 40), ((10, 90, 112, 2, 9), 50), ((10, 83, 15, 1, 0), 40), ((10, 86, 111, 1, 9), 50), ((10, 79, 14, 2, 0), 40), ((10, 82, 110, 2, 9), 50), ((10, 75, 13, 1, 0), 40), ((10, 78, 109, 1, 9), 50), ((10, 71, 12, 2, 0), 40), ((10, 74, 108, 2, 9), 50), ((10, 67, 11, 0, 0), 40), ((10, 70, 107, 0, 9), 50), ((10, 63, 10, 2, 0), 40), ((10, 66, 105, 2, 9), 50), ((10, 58, 9, 0, 0), 40), ((10, 62, 104, 0, 9), 50), ((10, 54, 8, 1, 0), 40), ((10, 57, 103, 1, 9), 50), ((10, 49, 7, 1, 0), 40), ((10, 53, 102, 1, 9), 50), ((10, 45, 6, 1, 0), 40), ((10, 48, 101, 1, 9), 50), ((10, 41, 5, 1, 0), 40), ((10, 44, 92, 1, 9), 50), ((10, 36, 4, 1, 0), 40), ((10, 40, 90, 1, 9), 50), ((10, 31, 3, 2, 0), 40), ((10, 35, 89, 2, 9), 50), ((10, 26, 2, 3, 0), 40), ((10, 30, 79, 3, 9), 50), ((10, 21, 1, 2, 0), 40), ((10, 25, 78, 2, 9), 50)] = true := by decide +kernel
theorem zVls_y : ∀ q ∈ zVls, zCk q.2.2.1 = true := by decide +kernel
theorem zVls_x : ∀ q ∈ zVls, (zNm q.2.2.1).cls = zCn q.2.2.2.2 ∧ ((zNm q.2.2.1).cls ≠ "java/lang/invoke/MethodHandle" ∧ (zNm q.2.2.1).cls ≠ "java/lang/invoke/VarHandle") ∧ (parseMethodDescriptor (zNm q.2.2.1).desc).map (fun d => d.parameters.length) = some q.2.2.2.1 ∧ zMl q.2.2.1 ≤ 11 := by decide +kernel
theorem zVls_ok : ∀ q ∈ zVls, Cond.methodLink (zCn q.1) q.2.1 (zNm q.2.2.1) ∈ zAll ∧ Cond.instanceMethod (zNm q.2.2.1) ∈ zAll ∧ Cond.selects (zCn q.2.2.2.2) (zNm q.2.2.1) (zNm q.2.2.1) ∈ zAll ∧ Cond.initialized (zCn q.2.2.2.2) ∈ zAll ∧ Cond.code (zNm q.2.2.1) (zBy q.2.2.1) (zMl q.2.2.1) (zRet q.2.2.1) ∈ zAll ∧ (zNm q.2.2.1).cls = zCn q.2.2.2.2 ∧ ((zNm q.2.2.1).cls ≠ "java/lang/invoke/MethodHandle" ∧ (zNm q.2.2.1).cls ≠ "java/lang/invoke/VarHandle") ∧ (parseMethodDescriptor (zNm q.2.2.1).desc).map (fun d => d.parameters.length) = some q.2.2.2.1 ∧ zMl q.2.2.1 ≤ 11 := fun q h => ⟨zIx_ok zVls_0 q h, zIx_ok zVls_1 q h, zIx_ok zVls_2 q h, zIx_ok zVls_3 q h, zCd_of (zVls_y q h), zVls_x q h⟩
def zVns : List (Nat × Nat × Nat × Nat × Nat) := []
theorem zVns_ok : ∀ q ∈ zVns, (q.1, q.2.1, q.2.2.1) ∈ zMns ∧ Cond.instanceMethod (zNm q.2.2.1) ∈ zAll ∧ Cond.selects (zCn q.2.2.2.2) (zNm q.2.2.1) (zNm q.2.2.1) ∈ zAll ∧ Cond.initialized (zNm q.2.2.1).cls ∈ zAll ∧ Cond.code (zNm q.2.2.1) (zBy q.2.2.1) (zMl q.2.2.1) (zRet q.2.2.1) ∈ zAll ∧ (zNm q.2.2.1).cls = zCn q.2.2.2.2 ∧ ((zNm q.2.2.1).cls ≠ "java/lang/invoke/MethodHandle" ∧ (zNm q.2.2.1).cls ≠ "java/lang/invoke/VarHandle") ∧ (parseMethodDescriptor (zNm q.2.2.1).desc).map (fun d => d.parameters.length) = some q.2.2.2.1 ∧ zMl q.2.2.1 ≤ 11 := fun q h => absurd h List.not_mem_nil
def zTls : List (Nat × Nat × Nat × Nat) := [(0, 91, 21, 1), (0, 123, 22, 2), (9, 84, 75, 3), (9, 89, 77, 1), (10, 9, 116, 2)]
theorem zTls_0 : zIx (fun q : Nat × Nat × Nat × Nat => .methodLink (zCn q.1) q.2.1 (zNm q.2.2.1)) [((0, 91, 21, 1), 287), ((0, 123, 22, 2), 329), ((9, 84, 75, 3), 652), ((9, 89, 77, 1), 660), ((10, 9, 116, 2), 548)] = true := by decide +kernel
theorem zTls_1 : zIx (fun q : Nat × Nat × Nat × Nat => .static (zNm q.2.2.1)) [((0, 91, 21, 1), 288), ((0, 123, 22, 2), 330), ((9, 84, 75, 3), 653), ((9, 89, 77, 1), 661), ((10, 9, 116, 2), 549)] = true := by decide +kernel
theorem zTls_2 : zIx (fun q : Nat × Nat × Nat × Nat => .initialized (zCn q.1)) [((0, 91, 21, 1), 40), ((0, 123, 22, 2), 40), ((9, 84, 75, 3), 50), ((9, 89, 77, 1), 50), ((10, 9, 116, 2), 39)] = true := by decide +kernel
theorem zTls_y : ∀ q ∈ zTls, zCk q.2.2.1 = true := by decide +kernel
theorem zTls_x : ∀ q ∈ zTls, (zNm q.2.2.1).cls = zCn q.1 ∧ ((zNm q.2.2.1).cls ≠ "java/lang/invoke/MethodHandle" ∧ (zNm q.2.2.1).cls ≠ "java/lang/invoke/VarHandle") ∧ (parseMethodDescriptor (zNm q.2.2.1).desc).map (fun d => d.parameters.length) = some q.2.2.2 ∧ zMl q.2.2.1 ≤ 11 := by decide +kernel
theorem zTls_ok : ∀ q ∈ zTls, Cond.methodLink (zCn q.1) q.2.1 (zNm q.2.2.1) ∈ zAll ∧ Cond.static (zNm q.2.2.1) ∈ zAll ∧ Cond.initialized (zCn q.1) ∈ zAll ∧ Cond.code (zNm q.2.2.1) (zBy q.2.2.1) (zMl q.2.2.1) (zRet q.2.2.1) ∈ zAll ∧ (zNm q.2.2.1).cls = zCn q.1 ∧ ((zNm q.2.2.1).cls ≠ "java/lang/invoke/MethodHandle" ∧ (zNm q.2.2.1).cls ≠ "java/lang/invoke/VarHandle") ∧ (parseMethodDescriptor (zNm q.2.2.1).desc).map (fun d => d.parameters.length) = some q.2.2.2 ∧ zMl q.2.2.1 ≤ 11 := fun q h => ⟨zIx_ok zTls_0 q h, zIx_ok zTls_1 q h, zIx_ok zTls_2 q h, zCd_of (zTls_y q h), zTls_x q h⟩
def zIls : List (Nat × Nat × Nat × Nat × Nat) := [(0, 39, 68, 0, 8), (0, 73, 53, 1, 4), (0, 82, 58, 1, 6), (10, 15, 0, 1, 0), (10, 20, 74, 1, 9)]
theorem zIls_0 : zIx (fun q : Nat × Nat × Nat × Nat × Nat => .methodLink (zCn q.1) q.2.1 (zNm q.2.2.1)) [((0, 39, 68, 0, 8), 112), ((0, 73, 53, 1, 4), 178), ((0, 82, 58, 1, 6), 191), ((10, 15, 0, 1, 0), 53), ((10, 20, 74, 1, 9), 553)] = true := by decide +kernel
theorem zIls_1 : zIx (fun q : Nat × Nat × Nat × Nat × Nat => .instanceMethod (zNm q.2.2.1)) [((0, 39, 68, 0, 8), 113), ((0, 73, 53, 1, 4), 179), ((0, 82, 58, 1, 6), 192), ((10, 15, 0, 1, 0), 54), ((10, 20, 74, 1, 9), 554)] = true := by decide +kernel
theorem zIls_2 : zIx (fun q : Nat × Nat × Nat × Nat × Nat => .initialized (zNm q.2.2.1).cls) [((0, 39, 68, 0, 8), 44), ((0, 73, 53, 1, 4), 47), ((0, 82, 58, 1, 6), 48), ((10, 15, 0, 1, 0), 40), ((10, 20, 74, 1, 9), 50)] = true := by decide +kernel
theorem zIls_y : ∀ q ∈ zIls, zCk q.2.2.1 = true := by decide +kernel
theorem zIls_x : ∀ q ∈ zIls, (zNm q.2.2.1).name = "<init>" ∧ ((zNm q.2.2.1).cls ≠ "java/lang/invoke/MethodHandle" ∧ (zNm q.2.2.1).cls ≠ "java/lang/invoke/VarHandle") ∧ (parseMethodDescriptor (zNm q.2.2.1).desc).map (fun d => d.parameters.length) = some q.2.2.2.1 ∧ zMl q.2.2.1 ≤ 11 ∧ zRet q.2.2.1 = none := by decide +kernel
theorem zIls_ok : ∀ q ∈ zIls, Cond.methodLink (zCn q.1) q.2.1 (zNm q.2.2.1) ∈ zAll ∧ Cond.instanceMethod (zNm q.2.2.1) ∈ zAll ∧ Cond.initialized (zNm q.2.2.1).cls ∈ zAll ∧ Cond.code (zNm q.2.2.1) (zBy q.2.2.1) (zMl q.2.2.1) (zRet q.2.2.1) ∈ zAll ∧ (zNm q.2.2.1).name = "<init>" ∧ ((zNm q.2.2.1).cls ≠ "java/lang/invoke/MethodHandle" ∧ (zNm q.2.2.1).cls ≠ "java/lang/invoke/VarHandle") ∧ (parseMethodDescriptor (zNm q.2.2.1).desc).map (fun d => d.parameters.length) = some q.2.2.2.1 ∧ zMl q.2.2.1 ≤ 11 ∧ zRet q.2.2.1 = none := fun q h => ⟨zIx_ok zIls_0 q h, zIx_ok zIls_1 q h, zIx_ok zIls_2 q h, zCd_of (zIls_y q h), zIls_x q h⟩
def zIns : List (Nat × Nat × Nat × Nat × Nat) := [(0, 18, 37, 0, 1), (0, 25, 41, 0, 2), (0, 32, 48, 0, 3), (0, 46, 65, 0, 7), (6, 17, 57, 0, 5), (8, 15, 65, 0, 7)]
theorem zIns_0 : zIx (fun q : Nat × Nat × Nat × Nat × Nat => .instanceMethod (zNm q.2.2.1)) [((0, 18, 37, 0, 1), 62), ((0, 25, 41, 0, 2), 83), ((0, 32, 48, 0, 3), 97), ((0, 46, 65, 0, 7), 120), ((6, 17, 57, 0, 5), 199), ((8, 15, 65, 0, 7), 120)] = true := by decide +kernel
theorem zIns_1 : zIx (fun q : Nat × Nat × Nat × Nat × Nat => .initialized (zNm q.2.2.1).cls) [((0, 18, 37, 0, 1), 41), ((0, 25, 41, 0, 2), 42), ((0, 32, 48, 0, 3), 43), ((0, 46, 65, 0, 7), 45), ((6, 17, 57, 0, 5), 49), ((8, 15, 65, 0, 7), 45)] = true := by decide +kernel
theorem zIns_y : ∀ q ∈ zIns, zCk q.2.2.1 = true := by decide +kernel
theorem zIns_x : ∀ q ∈ zIns, (q.1, q.2.1, q.2.2.1) ∈ zMns ∧ (zNm q.2.2.1).name = "<init>" ∧ ((zNm q.2.2.1).cls ≠ "java/lang/invoke/MethodHandle" ∧ (zNm q.2.2.1).cls ≠ "java/lang/invoke/VarHandle") ∧ (parseMethodDescriptor (zNm q.2.2.1).desc).map (fun d => d.parameters.length) = some q.2.2.2.1 ∧ zMl q.2.2.1 ≤ 11 ∧ zRet q.2.2.1 = none := by decide +kernel
theorem zIns_ok : ∀ q ∈ zIns, (q.1, q.2.1, q.2.2.1) ∈ zMns ∧ Cond.instanceMethod (zNm q.2.2.1) ∈ zAll ∧ Cond.initialized (zNm q.2.2.1).cls ∈ zAll ∧ Cond.code (zNm q.2.2.1) (zBy q.2.2.1) (zMl q.2.2.1) (zRet q.2.2.1) ∈ zAll ∧ (zNm q.2.2.1).name = "<init>" ∧ ((zNm q.2.2.1).cls ≠ "java/lang/invoke/MethodHandle" ∧ (zNm q.2.2.1).cls ≠ "java/lang/invoke/VarHandle") ∧ (parseMethodDescriptor (zNm q.2.2.1).desc).map (fun d => d.parameters.length) = some q.2.2.2.1 ∧ zMl q.2.2.1 ≤ 11 ∧ zRet q.2.2.1 = none := fun q h => ⟨(zIns_x q h).1, zIx_ok zIns_0 q h, zIx_ok zIns_1 q h, zCd_of (zIns_y q h), (zIns_x q h).2⟩
def zObs : List (Nat × Nat) := [(0, 1), (1, 3), (2, 3), (3, 3), (4, 3), (5, 1), (6, 3), (7, 3), (8, 1), (9, 1)]
theorem zObs_0 : zIx (fun q : Nat × Nat => .methodLink (zCn q.1) q.2 objectInit) [((0, 1), 56), ((1, 3), 64), ((2, 3), 85), ((3, 3), 99), ((4, 3), 181), ((5, 1), 201), ((6, 3), 194), ((7, 3), 122), ((8, 1), 115), ((9, 1), 556)] = true := by decide +kernel
theorem zObs_1 : zIx (fun q : Nat × Nat => .instanceMethod objectInit) [((0, 1), 57), ((1, 3), 57), ((2, 3), 57), ((3, 3), 57), ((4, 3), 57), ((5, 1), 57), ((6, 3), 57), ((7, 3), 57), ((8, 1), 57), ((9, 1), 57)] = true := by decide +kernel
theorem zObs_2 : zIx (fun q : Nat × Nat => .code objectInit ⟨#[0xb1]⟩ 1 none) [((0, 1), 58), ((1, 3), 58), ((2, 3), 58), ((3, 3), 58), ((4, 3), 58), ((5, 1), 58), ((6, 3), 58), ((7, 3), 58), ((8, 1), 58), ((9, 1), 58)] = true := by decide +kernel
theorem zObs_ok : ∀ q ∈ zObs, Cond.methodLink (zCn q.1) q.2 objectInit ∈ zAll ∧ Cond.instanceMethod objectInit ∈ zAll ∧ Cond.code objectInit ⟨#[0xb1]⟩ 1 none ∈ zAll := fun q h => ⟨zIx_ok zObs_0 q h, zIx_ok zObs_1 q h, zIx_ok zObs_2 q h⟩
def zMaxs : List (Nat × Nat) := [(0, 57)]
theorem zMaxs_0 : zIx (fun q : Nat × Nat => .methodLink (zCn q.1) q.2 Lib.Math.max.name) [((0, 57), 173)] = true := by decide +kernel
theorem zMaxs_1 : zIx (fun q : Nat × Nat => .static Lib.Math.max.name) [((0, 57), 174)] = true := by decide +kernel
theorem zMaxs_2 : zIx (fun q : Nat × Nat => .initialized "java/lang/Math") [((0, 57), 46)] = true := by decide +kernel
theorem zMaxs_3 : zIx (fun q : Nat × Nat => .code Lib.Math.max.name Lib.Math.max.code 2 (some .int)) [((0, 57), 175)] = true := by decide +kernel
theorem zMaxs_ok : ∀ q ∈ zMaxs, Cond.methodLink (zCn q.1) q.2 Lib.Math.max.name ∈ zAll ∧ Cond.static Lib.Math.max.name ∈ zAll ∧ Cond.initialized "java/lang/Math" ∈ zAll ∧ Cond.code Lib.Math.max.name Lib.Math.max.code 2 (some .int) ∈ zAll := fun q h => ⟨zIx_ok zMaxs_0 q h, zIx_ok zMaxs_1 q h, zIx_ok zMaxs_2 q h, zIx_ok zMaxs_3 q h⟩
def zMins : List (Nat × Nat) := [(0, 51)]
theorem zMins_0 : zIx (fun q : Nat × Nat => .methodLink (zCn q.1) q.2 Lib.Math.min.name) [((0, 51), 170)] = true := by decide +kernel
theorem zMins_1 : zIx (fun q : Nat × Nat => .static Lib.Math.min.name) [((0, 51), 171)] = true := by decide +kernel
theorem zMins_2 : zIx (fun q : Nat × Nat => .initialized "java/lang/Math") [((0, 51), 46)] = true := by decide +kernel
theorem zMins_3 : zIx (fun q : Nat × Nat => .code Lib.Math.min.name Lib.Math.min.code 2 (some .int)) [((0, 51), 172)] = true := by decide +kernel
theorem zMins_ok : ∀ q ∈ zMins, Cond.methodLink (zCn q.1) q.2 Lib.Math.min.name ∈ zAll ∧ Cond.static Lib.Math.min.name ∈ zAll ∧ Cond.initialized "java/lang/Math" ∈ zAll ∧ Cond.code Lib.Math.min.name Lib.Math.min.code 2 (some .int) ∈ zAll := fun q h => ⟨zIx_ok zMins_0 q h, zIx_ok zMins_1 q h, zIx_ok zMins_2 q h, zIx_ok zMins_3 q h⟩
def zCs : List (Nat × Nat × Int32) := [(9, 88, 99999)]
theorem zCs_0 : zIx (fun q : Nat × Nat × Int32 => .constant (zCn q.1) q.2.1 q.2.2) [((9, 88, 99999), 655)] = true := by decide +kernel
theorem zCs_ok : ∀ q ∈ zCs, Cond.constant (zCn q.1) q.2.1 q.2.2 ∈ zAll := fun q h => zIx_ok zCs_0 q h
def zNws : List (Nat × Nat × Nat) := [(0, 16, 1), (0, 23, 2), (0, 30, 3), (0, 37, 8), (0, 44, 7), (0, 71, 4), (0, 80, 6), (6, 9, 5), (8, 9, 7), (10, 7, 0), (10, 18, 9)]
theorem zNws_0 : zIx (fun q : Nat × Nat × Nat => .classLink (zCn q.1) q.2.1 (zCn q.2.2)) [((0, 16, 1), 59), ((0, 23, 2), 80), ((0, 30, 3), 94), ((0, 37, 8), 110), ((0, 44, 7), 168), ((0, 71, 4), 176), ((0, 80, 6), 189), ((6, 9, 5), 195), ((8, 9, 7), 116), ((10, 7, 0), 51), ((10, 18, 9), 551)] = true := by decide +kernel
theorem zNws_1 : zIx (fun q : Nat × Nat × Nat => .instantiable (zCn q.2.2) (zNf q.2.2)) [((0, 16, 1), 60), ((0, 23, 2), 81), ((0, 30, 3), 95), ((0, 37, 8), 111), ((0, 44, 7), 118), ((0, 71, 4), 177), ((0, 80, 6), 190), ((6, 9, 5), 197), ((8, 9, 7), 118), ((10, 7, 0), 52), ((10, 18, 9), 552)] = true := by decide +kernel
theorem zNws_2 : zIx (fun q : Nat × Nat × Nat => .initialized (zCn q.2.2)) [((0, 16, 1), 41), ((0, 23, 2), 42), ((0, 30, 3), 43), ((0, 37, 8), 44), ((0, 44, 7), 45), ((0, 71, 4), 47), ((0, 80, 6), 48), ((6, 9, 5), 49), ((8, 9, 7), 45), ((10, 7, 0), 40), ((10, 18, 9), 50)] = true := by decide +kernel
theorem zNws_ok : ∀ q ∈ zNws, Cond.classLink (zCn q.1) q.2.1 (zCn q.2.2) ∈ zAll ∧ Cond.instantiable (zCn q.2.2) (zNf q.2.2) ∈ zAll ∧ Cond.initialized (zCn q.2.2) ∈ zAll := fun q h => ⟨zIx_ok zNws_0 q h, zIx_ok zNws_1 q h, zIx_ok zNws_2 q h⟩
def zNas : List (Nat × Nat × Nat) := [(0, 80, 6), (6, 9, 5), (8, 9, 7)]
theorem zNas_0 : zIx (fun q : Nat × Nat × Nat => .classLink (zCn q.1) q.2.1 (zCn q.2.2)) [((0, 80, 6), 189), ((6, 9, 5), 195), ((8, 9, 7), 116)] = true := by decide +kernel
theorem zNas_x : ∀ q ∈ zNas, q.2.2 ∈ zAos := by decide +kernel
theorem zNas_ok : ∀ q ∈ zNas, Cond.classLink (zCn q.1) q.2.1 (zCn q.2.2) ∈ zAll ∧ q.2.2 ∈ zAos := fun q h => ⟨zIx_ok zNas_0 q h, zNas_x q h⟩
theorem zw_aI : Cond.arrayClass .int ∈ zAll := List.mem_filter.mpr ⟨List.mem_of_getElem? (i := 78) (by decide +kernel), by decide +kernel⟩
theorem zw_aZ : Cond.arrayClass .boolean ∈ zAll := List.mem_filter.mpr ⟨List.mem_of_getElem? (i := 79) (by decide +kernel), by decide +kernel⟩
def zUw (q : Nat × Nat) : Cond := u_lay (zCn q.1) (zF q.1) q.2
theorem zUw_0 : zIx zUw [((0, 0), 254), ((0, 1), 256), ((0, 2), 258), ((0, 3), 260), ((0, 4), 262), ((0, 5), 264), ((0, 6), 266), ((0, 7), 268), ((0, 8), 270), ((0, 9), 272), ((0, 10), 274), ((0, 11), 276), ((0, 12), 278), ((0, 13), 280), ((1, 0), 69), ((1, 1), 71), ((1, 2), 73), ((1, 3), 75), ((2, 0), 89), ((2, 1), 91), ((3, 0), 103), ((3, 1), 105), ((3, 2), 107), ((4, 0), 184), ((4, 1), 186), ((5, 0), 214), ((5, 1), 216), ((5, 2), 218), ((5, 3), 220), ((5, 4), 222), ((5, 5), 224), ((6, 0), 232), ((6, 1), 234), ((6, 2), 236), ((7, 0), 144), ((7, 1), 146), ((7, 2), 148), ((7, 3), 150), ((7, 4), 152), ((7, 5), 154), ((7, 6), 156), ((8, 0), 163), ((8, 1), 165), ((9, 0), 587), ((9, 1), 589), ((9, 2), 591), ((9, 3), 593), ((9, 4), 595), ((9, 5), 597), ((9, 6), 599), ((9, 7), 601), ((9, 8), 603), ((9, 9), 605), ((9, 10), 607), ((9, 11), 609), ((9, 12), 611), ((9, 13), 613), ((9, 14), 615), ((9, 15), 617), ((9, 16), 619), ((9, 17), 621), ((9, 18), 623), ((9, 19), 625), ((9, 20), 627), ((9, 21), 629), ((9, 22), 631), ((9, 23), 633), ((9, 24), 635), ((9, 25), 637), ((9, 26), 639), ((9, 27), 641), ((9, 28), 643), ((9, 29), 645)] = true := by decide +kernel
theorem zUw_x : ∀ ci, ci < zCl.length → (∀ k, k < zNf ci → (ci, k) ∈ ([(0, 0), (0, 1), (0, 2), (0, 3), (0, 4), (0, 5), (0, 6), (0, 7), (0, 8), (0, 9), (0, 10), (0, 11), (0, 12), (0, 13), (1, 0), (1, 1), (1, 2), (1, 3), (2, 0), (2, 1), (3, 0), (3, 1), (3, 2), (4, 0), (4, 1), (5, 0), (5, 1), (5, 2), (5, 3), (5, 4), (5, 5), (6, 0), (6, 1), (6, 2), (7, 0), (7, 1), (7, 2), (7, 3), (7, 4), (7, 5), (7, 6), (8, 0), (8, 1), (9, 0), (9, 1), (9, 2), (9, 3), (9, 4), (9, 5), (9, 6), (9, 7), (9, 8), (9, 9), (9, 10), (9, 11), (9, 12), (9, 13), (9, 14), (9, 15), (9, 16), (9, 17), (9, 18), (9, 19), (9, 20), (9, 21), (9, 22), (9, 23), (9, 24), (9, 25), (9, 26), (9, 27), (9, 28), (9, 29)] : List (Nat × Nat))) := by decide +kernel
theorem zCn_c : ∀ ci, ci < zCl.length → (zCl[ci]?).map (fun r => (r.1, r.2.2)) = some (zCn ci, zNf ci) := by decide +kernel
theorem zCl_at {ci : Nat} (h : ci < zCl.length) : ∃ (C : String) (T : u_T) (N : Nat), zCl[ci]? = some (C, T, N) ∧ zNf ci = N ∧ ∀ w ∈ u_ws C T N, w ∈ zAll := by
  have h1 := zCn_c ci h
  cases hc : zCl[ci]? with
  | none => rw [hc] at h1; cases h1
  | some r =>
    obtain ⟨C, T, N⟩ := r
    rw [hc] at h1
    have h2 := Option.some.inj h1
    have e1 : C = zCn ci := congrArg Prod.fst h2
    have e2 : N = zNf ci := congrArg Prod.snd h2
    refine ⟨C, T, N, rfl, e2.symm, fun w hw => ?_⟩
    obtain ⟨k, hk, rfl⟩ := List.mem_map.mp hw
    have hk' : k < zNf ci := by rw [← e2]; exact List.mem_range.mp hk
    have h3 := zIx_ok zUw_0 (ci, k) (by exact zUw_x ci h k hk')
    have e3 : zUw (ci, k) = u_lay C T k := by
      unfold zUw u_lay
      rw [show zF (ci, k).1 (ci, k).2 = T k from zF_eq hc, ← e1]
    rw [← e3]; exact h3
theorem zCn_eq {ci : Nat} {C : String} {T : u_T} {N : Nat} (h : zCl[ci]? = some (C, T, N)) : zCn ci = C := by
  have h1 := zCn_c ci (List.getElem?_eq_some_iff.mp h).1
  rw [h] at h1
  exact (congrArg Prod.fst (Option.some.inj h1)).symm
theorem zNf_eq {ci : Nat} {C : String} {T : u_T} {N : Nat} (h : zCl[ci]? = some (C, T, N)) : zNf ci = N := by
  have h1 := zCn_c ci (List.getElem?_eq_some_iff.mp h).1
  rw [h] at h1
  exact (congrArg Prod.snd (Option.some.inj h1)).symm
theorem zTy_x : ∀ ci, ci < zCl.length → ∀ k, k < zNf ci → parseFieldDescriptor (zF ci k).2.2.1 = some (zTy ci k) ∧ zFin ci k = (zF ci k).2.2.2 ∧ (zF ci k).1 = zCn ci := by decide +kernel
theorem zNm_x : ∀ ci, ci < zCl.length → ∀ a, a < zNf ci → ∀ b, b < zNf ci → a ≠ b → (zF ci a).2.1 ≠ (zF ci b).2.1 := by decide +kernel
theorem zTy_k : ∀ ci, ci < zCl.length → ∀ k, k < zNf ci → (zFr ci k = false ∧ zTy ci k = .int) ∨ (zFr ci k = true ∧ (zTy ci k).isReference = true) := by decide +kernel
theorem zCl_ty {ci : Nat} {C : String} {T : u_T} {N : Nat} (h : zCl[ci]? = some (C, T, N)) : ∀ k, k < N → parseFieldDescriptor (T k).2.2.1 = some (zTy ci k) := by
  intro k hk
  have h1 := (zTy_x ci (List.getElem?_eq_some_iff.mp h).1 k (by rw [zNf_eq h]; exact hk)).1
  rw [zF_eq h] at h1; exact h1
theorem zCl_nm {ci : Nat} {C : String} {T : u_T} {N : Nat} (h : zCl[ci]? = some (C, T, N)) : ∀ a, a < N → ∀ b, b < N → a ≠ b → (T a).2.1 ≠ (T b).2.1 := by
  intro a ha b hb hne
  have h1 := zNm_x ci (List.getElem?_eq_some_iff.mp h).1 a (by rw [zNf_eq h]; exact ha) b (by rw [zNf_eq h]; exact hb) hne
  rw [zF_eq h, zF_eq h] at h1; exact h1
theorem zFin_eq {ci k : Nat} {C : String} {T : u_T} {N : Nat} (h : zCl[ci]? = some (C, T, N)) (hk : k < N) : zFin ci k = (T k).2.2.2 := by
  have h1 := (zTy_x ci (List.getElem?_eq_some_iff.mp h).1 k (by rw [zNf_eq h]; exact hk)).2.1
  rw [zF_eq h] at h1; exact h1
theorem zFd_own {ci k : Nat} {C : String} {T : u_T} {N : Nat} (h : zCl[ci]? = some (C, T, N)) (hk : k < N) : (T k).1 = zCn ci := by
  have h1 := (zTy_x ci (List.getElem?_eq_some_iff.mp h).1 k (by rw [zNf_eq h]; exact hk)).2.2
  rw [zF_eq h] at h1; exact h1
end
section
/-- one instruction at pc: what must hold so that behind it P does; K: what must hold at the return -/
def zStep (mt : zMt) (call : zCall) (P : zP) (K : zT) : zP := fun cu su pc ls st h =>
  match zAt mt.1 pc with
  | some (i, n, x, y, z, c) =>
    match i with
    | .iconst _ => P cu su (pc + 1) ls (.inl c :: st) h
    | .bipush _ => P cu su (pc + 2) ls (.inl c :: st) h
    | .sipush _ => P cu su (pc + 3) ls (.inl c :: st) h
    | .ldc _ => P cu su (pc + 2) ls (.inl c :: st) h
    | .iload_n k => zGi ls k.val fun v => P cu su (pc + 1) ls (.inl v :: st) h
    | .iload k => zGi ls k fun v => P cu su (pc + 2) ls (.inl v :: st) h
    | .aload_n k => zGr ls k.val fun v => P cu su (pc + 1) ls (.inr v :: st) h
    | .aload k => zGr ls k fun v => P cu su (pc + 2) ls (.inr v :: st) h
    | .istore_n k => z1i st fun v r => zSt ls k.val (P cu su (pc + 1) (ls.set k.val (some (.inl v))) r h)
    | .istore k => z1i st fun v r => zSt ls k (P cu su (pc + 2) (ls.set k (some (.inl v))) r h)
    | .astore_n k => z1r st fun v r => zSt ls k.val (P cu su (pc + 1) (ls.set k.val (some (.inr v))) r h)
    | .astore k => z1r st fun v r => zSt ls k (P cu su (pc + 2) (ls.set k (some (.inr v))) r h)
    | .iinc k _ => zGi ls k fun v => zSt ls k (P cu su (pc + 3) (ls.set k (some (.inl (v + c)))) st h)
    | .iadd => z2i st fun a b r => P cu su (pc + 1) ls (.inl (a + b) :: r) h
    | .isub => z2i st fun a b r => P cu su (pc + 1) ls (.inl (a - b) :: r) h
    | .imul => z2i st fun a b r => P cu su (pc + 1) ls (.inl (a * b) :: r) h
    | .iand => z2i st fun a b r => P cu su (pc + 1) ls (.inl (a &&& b) :: r) h
    | .idiv => z2i st fun a b r => ¬ b = 0 ∧ P cu su (pc + 1) ls (.inl (a / b) :: r) h
    | .irem => z2i st fun a b r => ¬ b = 0 ∧ P cu su (pc + 1) ls (.inl (a - a / b * b) :: r) h
    | .dup => match st with
      | v :: r => P cu su (pc + 1) ls (v :: v :: r) h
      | _ => False
    | .dup2 => match st with
      | v :: w :: r => P cu su (pc + 1) ls (v :: w :: v :: w :: r) h
      | _ => False
    | .if_icmp .eq _ => z2i st fun a b r => (a = b → P cu su x ls r h) ∧ (¬ a = b → P cu su (pc + 3) ls r h)
    | .if_icmp .ne _ => z2i st fun a b r => (¬ a = b → P cu su x ls r h) ∧ (a = b → P cu su (pc + 3) ls r h)
    | .if_icmp .lt _ => z2i st fun a b r => (a < b → P cu su x ls r h) ∧ (¬ a < b → P cu su (pc + 3) ls r h)
    | .if_icmp .ge _ => z2i st fun a b r => (b ≤ a → P cu su x ls r h) ∧ (¬ b ≤ a → P cu su (pc + 3) ls r h)
    | .if_icmp .gt _ => z2i st fun a b r => (b < a → P cu su x ls r h) ∧ (¬ b < a → P cu su (pc + 3) ls r h)
    | .if_icmp .le _ => z2i st fun a b r => (a ≤ b → P cu su x ls r h) ∧ (¬ a ≤ b → P cu su (pc + 3) ls r h)
    | .ifCond .eq _ => z1i st fun a r => (a = 0 → P cu su x ls r h) ∧ (¬ a = 0 → P cu su (pc + 3) ls r h)
    | .ifCond .ne _ => z1i st fun a r => (¬ a = 0 → P cu su x ls r h) ∧ (a = 0 → P cu su (pc + 3) ls r h)
    | .ifCond .lt _ => z1i st fun a r => (a < 0 → P cu su x ls r h) ∧ (¬ a < 0 → P cu su (pc + 3) ls r h)
    | .ifCond .ge _ => z1i st fun a r => (0 ≤ a → P cu su x ls r h) ∧ (¬ 0 ≤ a → P cu su (pc + 3) ls r h)
    | .ifCond .gt _ => z1i st fun a r => (0 < a → P cu su x ls r h) ∧ (¬ 0 < a → P cu su (pc + 3) ls r h)
    | .ifCond .le _ => z1i st fun a r => (a ≤ 0 → P cu su x ls r h) ∧ (¬ a ≤ 0 → P cu su (pc + 3) ls r h)
    | .goto _ => P cu su x ls st h
    | .getfield _ => z1r st fun a r => zK h a = x ∧ (match z with
      | 0 => P cu su (pc + 3) ls (.inl (zI h a y) :: r) h
      | _ => P cu su (pc + 3) ls (.inr (zR h a y) :: r) h)
    | .putfield _ => match z with
      | 0 => z2ir st fun v a r => zK h a = x ∧ ∀ h', h' = zwI h a y v → P cu su (pc + 3) ls r h'
      | _ => z2rr st fun v a r => zK h a = x ∧ ∀ h', h' = zwR h a y v → P cu su (pc + 3) ls r h'
    | .getstatic _ => P cu su (pc + 3) ls (.inr x :: st) h
    | .iaload => z2ir st fun j a r => (zK h a = 1 ∨ zK h a = 101) ∧ vp_in j (zL h a) ∧ P cu su (pc + 1) ls (.inl (zI h a j.toNatClampNeg) :: r) h
    | .baload => z2ir st fun j a r => zK h a = 2 ∧ vp_in j (zL h a) ∧ P cu su (pc + 1) ls (.inl (zI h a j.toNatClampNeg) :: r) h
    | .aaload => z2ir st fun j a r => zK h a = x ∧ vp_in j (zL h a) ∧ P cu su (pc + 1) ls (.inr (zR h a j.toNatClampNeg) :: r) h
    | .iastore => z3i st fun v j a r => zK h a = 1 ∧ vp_in j (zL h a) ∧ ∀ h', h' = zwI h a j.toNatClampNeg v → P cu su (pc + 1) ls r h'
    | .bastore => z3i st fun v j a r => zK h a = 2 ∧ vp_in j (zL h a) ∧ ∀ h', h' = zwI h a j.toNatClampNeg (vp_nar .boolean v) → P cu su (pc + 1) ls r h'
    | .aastore => z3r st fun b j a r => zK h a = x ∧ zK h b = y ∧ vp_in j (zL h a) ∧ ∀ h', h' = zwR h a j.toNatClampNeg b → P cu su (pc + 1) ls r h'
    | .arraylength => z1r st fun a r => zK h a = x ∧ P cu su (pc + 1) ls (.inl (nI (zL h a)) :: r) h
    | .newarray _ => z1i st fun n r => ¬ n < 0 ∧ n.toNatClampNeg ≤ 100000 ∧ cu + 1 ≤ mt.2.2.1 ∧ su + n.toNatClampNeg ≤ mt.2.2.2 ∧ ∀ h', h' = zNew h x n.toNatClampNeg → P (cu + 1) (su + n.toNatClampNeg) (pc + 2) ls (.inr (zN h) :: r) h'
    | .anewarray _ => z1i st fun n r => ¬ n < 0 ∧ n.toNatClampNeg ≤ 100000 ∧ cu + 1 ≤ mt.2.2.1 ∧ su + n.toNatClampNeg ≤ mt.2.2.2 ∧ ∀ h', h' = zNew h x n.toNatClampNeg → P (cu + 1) (su + n.toNatClampNeg) (pc + 3) ls (.inr (zN h) :: r) h'
    | .new _ => cu + 1 ≤ mt.2.2.1 ∧ su + y ≤ mt.2.2.2 ∧ ∀ h', h' = zNew h x 0 → P (cu + 1) (su + y) (pc + 3) ls (.inr (zN h) :: st) h'
    | .invokevirtual _ => match st.drop y with
      | .inr a :: r => zSt8 r (zK h a = z ∧ ∃ Q : zT, call x (.inr a :: (st.take y).reverse) h Q ∧ ∀ v h', Q v h' → P cu su (pc + 3) ls (v.toList ++ r) h')
      | _ => False
    | .invokestatic _ => match z with
      | 7 => z2i st fun a b r => zSt8 r (P cu su (pc + 3) ls (.inl (if a < b then b else a) :: r) h)
      | 8 => z2i st fun a b r => zSt8 r (P cu su (pc + 3) ls (.inl (if b < a then b else a) :: r) h)
      | _ => zLe y st (zSt8 (st.drop y) (∃ Q : zT, call x (st.take y).reverse h Q ∧ ∀ v h', Q v h' → P cu su (pc + 3) ls (v.toList ++ st.drop y) h'))
    | .invokespecial _ => match z with
      | 0 => z1r st fun a r => zSt8 r (zK h a = x ∧ P cu su (pc + 3) ls r h)
      | _ => match st.drop y with
        | .inr a :: r => zSt8 r (zK h a = z ∧ cu + zMc x ≤ mt.2.2.1 ∧ su + zMs x ≤ mt.2.2.2 ∧ ∃ Q : zT, call x (.inr a :: (st.take y).reverse) h Q ∧ ∀ v h', Q v h' → P (cu + zMc x) (su + zMs x) (pc + 3) ls (v.toList ++ r) h')
        | _ => False
    | .ireturn => match st with
      | [.inl v] => (match mt.2.1 with
        | 0 => K (some (.inl v)) h
        | 1 => (v = 0 ∨ v = 1) ∧ K (some (.inl v)) h
        | _ => False)
      | _ => False
    | .return_ => match st with
      | [] => (match mt.2.1 with
        | 2 => K none h
        | _ => False)
      | _ => False
    | .tableswitch d lo hi offs => z1i st fun v r => (v.toInt < lo ∨ hi < v.toInt → P cu su ((pc : Int) + d).toNat ls r h) ∧ zSw (fun t => P cu su t ls r h) pc v lo offs.toList
    | .lookupswitch d ps => z1i st fun v r => zLk (fun t => P cu su t ls r h) pc v d ps.toList
    | _ => False
  | _ => False
/-- what a code does from a point on: the least predicate that the steps keep -/
def zWp (mt : zMt) (call : zCall) (K : zT) : zP := fun cu su pc ls st h =>
  ∀ P : zP, (∀ cu su pc ls st h, zStep mt call P K cu su pc ls st h → P cu su pc ls st h) → P cu su pc ls st h
theorem zGi_mono {ls : List (Option zV)} {i : Nat} {f g : Int32 → Prop} (h : ∀ v, f v → g v) (k : zGi ls i f) : zGi ls i g := by
  unfold zGi at *; split at k
  · exact h _ k
  · exact k
theorem zGr_mono {ls : List (Option zV)} {i : Nat} {f g : Nat → Prop} (h : ∀ v, f v → g v) (k : zGr ls i f) : zGr ls i g := by
  unfold zGr at *; split at k
  · exact h _ k
  · exact k
theorem zSt_mono {ls : List (Option zV)} {i : Nat} {f g : Prop} (h : f → g) (k : zSt ls i f) : zSt ls i g := by
  unfold zSt at *; split at k
  · exact h k
  · exact k
theorem zSt8_mono {r : List zV} {f g : Prop} (h : f → g) (k : zSt8 r f) : zSt8 r g := by
  unfold zSt8 at *; split at k
  · exact h k
  · exact k
theorem zLe_mono {n : Nat} {r : List zV} {f g : Prop} (h : f → g) (k : zLe n r f) : zLe n r g := by
  unfold zLe at *; split at k
  · exact h k
  · exact k
theorem z1i_mono {st : List zV} {f g : Int32 → List zV → Prop} (h : ∀ a r, f a r → g a r) (k : z1i st f) : z1i st g := by
  unfold z1i at *; split at k
  · exact h _ _ k
  · exact k
theorem z1r_mono {st : List zV} {f g : Nat → List zV → Prop} (h : ∀ a r, f a r → g a r) (k : z1r st f) : z1r st g := by
  unfold z1r at *; split at k
  · exact h _ _ k
  · exact k
theorem z2i_mono {st : List zV} {f g : Int32 → Int32 → List zV → Prop} (h : ∀ a b r, f a b r → g a b r) (k : z2i st f) : z2i st g := by
  unfold z2i at *; split at k
  · exact h _ _ _ k
  · exact k
theorem z2ir_mono {st : List zV} {f g : Int32 → Nat → List zV → Prop} (h : ∀ a b r, f a b r → g a b r) (k : z2ir st f) : z2ir st g := by
  unfold z2ir at *; split at k
  · exact h _ _ _ k
  · exact k
theorem z2rr_mono {st : List zV} {f g : Nat → Nat → List zV → Prop} (h : ∀ a b r, f a b r → g a b r) (k : z2rr st f) : z2rr st g := by
  unfold z2rr at *; split at k
  · exact h _ _ _ k
  · exact k
theorem z3i_mono {st : List zV} {f g : Int32 → Int32 → Nat → List zV → Prop} (h : ∀ v j a r, f v j a r → g v j a r) (k : z3i st f) : z3i st g := by
  unfold z3i at *; split at k
  · exact h _ _ _ _ k
  · exact k
theorem z3r_mono {st : List zV} {f g : Nat → Int32 → Nat → List zV → Prop} (h : ∀ v j a r, f v j a r → g v j a r) (k : z3r st f) : z3r st g := by
  unfold z3r at *; split at k
  · exact h _ _ _ _ k
  · exact k
theorem zSw_mono {P P' : Nat → Prop} (h : ∀ t, P t → P' t) {pc : Nat} {v : Int32} : ∀ (os : List Int) (lo : Int), zSw P pc v lo os → zSw P' pc v lo os
  | [], _, _ => trivial
  | _ :: os, lo, k => ⟨fun e => h _ (k.1 e), zSw_mono h os (lo + 1) k.2⟩
theorem zLk_mono {P P' : Nat → Prop} (h : ∀ t, P t → P' t) {pc : Nat} {v : Int32} {d : Int} : ∀ (ps : List (Int × Int)), zLk P pc v d ps → zLk P' pc v d ps
  | [], k => h _ k
  | (_, _) :: r, k => ⟨fun e => h _ (k.1 e), fun e => zLk_mono h r (k.2 e)⟩
set_option maxHeartbeats 4000000 in
theorem zStep_mono {mt : zMt} {call : zCall} {P P' : zP} {K K' : zT} (hP : ∀ cu su pc ls st h, P cu su pc ls st h → P' cu su pc ls st h) (hK : ∀ v h, K v h → K' v h) {cu su pc : Nat} {ls : List (Option zV)} {st : List zV} {h : zH}
    (k : zStep mt call P K cu su pc ls st h) : zStep mt call P' K' cu su pc ls st h := by
  unfold zStep at k ⊢
  split at k
  case h_2 => exact k
  case h_1 i n x y z c heq =>
    cases i
    case iconst => exact hP _ _ _ _ _ _ k
    case bipush => exact hP _ _ _ _ _ _ k
    case sipush => exact hP _ _ _ _ _ _ k
    case ldc => exact hP _ _ _ _ _ _ k
    case iload_n => exact zGi_mono (fun v k => hP _ _ _ _ _ _ k) k
    case iload => exact zGi_mono (fun v k => hP _ _ _ _ _ _ k) k
    case aload_n => exact zGr_mono (fun v k => hP _ _ _ _ _ _ k) k
    case aload => exact zGr_mono (fun v k => hP _ _ _ _ _ _ k) k
    case istore_n => exact z1i_mono (fun v r k => zSt_mono (hP _ _ _ _ _ _) k) k
    case istore => exact z1i_mono (fun v r k => zSt_mono (hP _ _ _ _ _ _) k) k
    case astore_n => exact z1r_mono (fun v r k => zSt_mono (hP _ _ _ _ _ _) k) k
    case astore => exact z1r_mono (fun v r k => zSt_mono (hP _ _ _ _ _ _) k) k
    case iinc => exact zGi_mono (fun v k => zSt_mono (hP _ _ _ _ _ _) k) k
    case iadd => exact z2i_mono (fun a b r k => hP _ _ _ _ _ _ k) k
    case isub => exact z2i_mono (fun a b r k => hP _ _ _ _ _ _ k) k
    case imul => exact z2i_mono (fun a b r k => hP _ _ _ _ _ _ k) k
    case iand => exact z2i_mono (fun a b r k => hP _ _ _ _ _ _ k) k
    case idiv => exact z2i_mono (fun a b r k => ⟨k.1, hP _ _ _ _ _ _ k.2⟩) k
    case irem => exact z2i_mono (fun a b r k => ⟨k.1, hP _ _ _ _ _ _ k.2⟩) k
    case dup =>
      cases st with
      | nil => exact k
      | cons v r => exact hP _ _ _ _ _ _ k
    case dup2 =>
      cases st with
      | nil => exact k
      | cons v r => cases r with
        | nil => exact k
        | cons w r => exact hP _ _ _ _ _ _ k
    case if_icmp q o => cases q <;> exact z2i_mono (fun a b r k => ⟨fun e => hP _ _ _ _ _ _ (k.1 e), fun e => hP _ _ _ _ _ _ (k.2 e)⟩) k
    case ifCond q o => cases q <;> exact z1i_mono (fun a r k => ⟨fun e => hP _ _ _ _ _ _ (k.1 e), fun e => hP _ _ _ _ _ _ (k.2 e)⟩) k
    case goto => exact hP _ _ _ _ _ _ k
    case getfield =>
      cases z with
      | zero => exact z1r_mono (fun a r k => ⟨k.1, hP _ _ _ _ _ _ k.2⟩) k
      | succ z => exact z1r_mono (fun a r k => ⟨k.1, hP _ _ _ _ _ _ k.2⟩) k
    case putfield =>
      cases z with
      | zero => exact z2ir_mono (fun v a r k => ⟨k.1, fun h' e => hP _ _ _ _ _ _ (k.2 h' e)⟩) k
      | succ z => exact z2rr_mono (fun v a r k => ⟨k.1, fun h' e => hP _ _ _ _ _ _ (k.2 h' e)⟩) k
    case getstatic => exact hP _ _ _ _ _ _ k
    case iaload => exact z2ir_mono (fun j a r k => ⟨k.1, k.2.1, hP _ _ _ _ _ _ k.2.2⟩) k
    case baload => exact z2ir_mono (fun j a r k => ⟨k.1, k.2.1, hP _ _ _ _ _ _ k.2.2⟩) k
    case aaload => exact z2ir_mono (fun j a r k => ⟨k.1, k.2.1, hP _ _ _ _ _ _ k.2.2⟩) k
    case iastore => exact z3i_mono (fun v j a r k => ⟨k.1, k.2.1, fun h' e => hP _ _ _ _ _ _ (k.2.2 h' e)⟩) k
    case bastore => exact z3i_mono (fun v j a r k => ⟨k.1, k.2.1, fun h' e => hP _ _ _ _ _ _ (k.2.2 h' e)⟩) k
    case aastore => exact z3r_mono (fun v j a r k => ⟨k.1, k.2.1, k.2.2.1, fun h' e => hP _ _ _ _ _ _ (k.2.2.2 h' e)⟩) k
    case arraylength => exact z1r_mono (fun a r k => ⟨k.1, hP _ _ _ _ _ _ k.2⟩) k
    case newarray => exact z1i_mono (fun n r k => ⟨k.1, k.2.1, k.2.2.1, k.2.2.2.1, fun h' e => hP _ _ _ _ _ _ (k.2.2.2.2 h' e)⟩) k
    case anewarray => exact z1i_mono (fun n r k => ⟨k.1, k.2.1, k.2.2.1, k.2.2.2.1, fun h' e => hP _ _ _ _ _ _ (k.2.2.2.2 h' e)⟩) k
    case new => exact ⟨k.1, k.2.1, fun h' e => hP _ _ _ _ _ _ (k.2.2 h' e)⟩
    case invokevirtual =>
      simp only at k ⊢
      split at k
      · refine zSt8_mono (fun k => ?_) k
        obtain ⟨k1, Q, k2, k3⟩ := k
        exact ⟨k1, Q, k2, fun v h' q => hP _ _ _ _ _ _ (k3 v h' q)⟩
      · exact k
    case invokestatic =>
      simp only at k ⊢
      split at k
      · exact z2i_mono (fun a b r k => zSt8_mono (hP _ _ _ _ _ _) k) k
      · exact z2i_mono (fun a b r k => zSt8_mono (hP _ _ _ _ _ _) k) k
      · refine zLe_mono (zSt8_mono (fun k => ?_)) k
        obtain ⟨Q, k2, k3⟩ := k
        exact ⟨Q, k2, fun v h' q => hP _ _ _ _ _ _ (k3 v h' q)⟩
    case invokespecial =>
      cases z with
      | zero => exact z1r_mono (fun a r k => zSt8_mono (fun k => ⟨k.1, hP _ _ _ _ _ _ k.2⟩) k) k
      | succ z =>
        simp only at k ⊢
        split at k
        · refine zSt8_mono (fun k => ?_) k
          obtain ⟨k1, k4, k5, Q, k2, k3⟩ := k
          exact ⟨k1, k4, k5, Q, k2, fun v h' q => hP _ _ _ _ _ _ (k3 v h' q)⟩
        · exact k
    case ireturn =>
      simp only at k ⊢
      split at k
      · split at k
        · exact hK _ _ k
        · exact ⟨k.1, hK _ _ k.2⟩
        · exact k
      · exact k
    case return_ =>
      cases st with
      | nil =>
        simp only at k ⊢
        split at k
        · exact hK _ _ k
        · exact k
      | cons v r => exact k
    case tableswitch => exact z1i_mono (fun v r k => ⟨fun e => hP _ _ _ _ _ _ (k.1 e), zSw_mono (fun t k => hP _ _ _ _ _ _ k) _ _ k.2⟩) k
    case lookupswitch => exact z1i_mono (fun v r k => zLk_mono (fun t k => hP _ _ _ _ _ _ k) _ k) k
    all_goals exact k
theorem zWp.step {mt : zMt} {call : zCall} {K : zT} {cu su pc : Nat} {ls : List (Option zV)} {st : List zV} {h : zH} (k : zStep mt call (zWp mt call K) K cu su pc ls st h) : zWp mt call K cu su pc ls st h :=
  fun P hP => hP _ _ _ _ _ _ (zStep_mono (fun _ _ _ _ _ _ w => w P hP) (fun _ _ q => q) k)
theorem zWp.mono {mt : zMt} {call : zCall} {K K' : zT} (hK : ∀ v h, K v h → K' v h) {cu su pc : Nat} {ls : List (Option zV)} {st : List zV} {h : zH} (k : zWp mt call K cu su pc ls st h) : zWp mt call K' cu su pc ls st h :=
  fun P hP => k P fun _ _ _ _ _ _ s => hP _ _ _ _ _ _ (zStep_mono (fun _ _ _ _ _ _ w => w) hK s)
/-- a stretch of code up to the points 'stops' -/
def zRun (stops : List Nat) (mt : zMt) (call : zCall) (P : zP) (K : zT) : Nat → zP
  | 0 => P
  | n + 1 => fun cu su pc ls st h => match stops.elem pc with
    | true => P cu su pc ls st h
    | false => zStep mt call (zRun stops mt call P K n) K cu su pc ls st h
theorem zRun.wp {stops : List Nat} {mt : zMt} {call : zCall} {K : zT} : ∀ (n : Nat) {cu su pc : Nat} {ls : List (Option zV)} {st : List zV} {h : zH}, zRun stops mt call (zWp mt call K) K n cu su pc ls st h → zWp mt call K cu su pc ls st h
  | 0, _, _, _, _, _, _, k => k
  | n + 1, cu, su, pc, ls, st, h, k => by
    unfold zRun at k
    split at k
    · exact k
    · exact zWp.step (zStep_mono (fun _ _ _ _ _ _ w => zRun.wp n w) (fun _ _ q => q) k)
theorem zGo (stops : List Nat) (n : Nat) {mt : zMt} {call : zCall} {K : zT} {cu su pc : Nat} {ls : List (Option zV)} {st : List zV} {h : zH} (k : zStep mt call (zRun stops mt call (zWp mt call K) K n) K cu su pc ls st h) : zWp mt call K cu su pc ls st h :=
  zWp.step (zStep_mono (fun _ _ _ _ _ _ w => zRun.wp n w) (fun _ _ q => q) k)
/-- a method, by its number, called at most d deep -/
def zD : Nat → zCall
  | 0 => fun _ _ _ _ => False
  | d + 1 => fun y as h K => match Nat.ble as.length (zMl y) with
    | true => zWp (zTab y) (zD d) K 0 0 0 (as.map some ++ List.replicate (zMl y - as.length) none) [] h
    | false => False
theorem zD.mono {d y : Nat} {as : List zV} {h : zH} {K K' : zT} (hK : ∀ v h, K v h → K' v h) (k : zD d y as h K) : zD d y as h K' := by
  cases d with
  | zero => exact k
  | succ d =>
    unfold zD at k ⊢
    split at k
    · exact zWp.mono hK k
    · exact k
end
section
/-! ===== the small machine's heap and the machine's own ===== -/
def zcv (ad : Nat → Nat) : zV → Value
  | .inl x => .int x
  | .inr 0 => .null
  | .inr (a + 1) => .ref (ad (a + 1))
theorem zcv_cat (ad : Nat → Nat) (v : zV) : (zcv ad v).category = 1 := by
  cases v with
  | inl x => rfl
  | inr a => cases a <;> rfl
theorem zcv_ref {ad : Nat → Nat} {a : Nat} (h : 0 < a) : zcv ad (.inr a) = .ref (ad a) := by
  cases a with
  | zero => exact absurd h (Nat.lt_irrefl 0)
  | succ n => rfl
theorem zcv_null {ad : Nat → Nat} {a : Nat} (h : ¬ 0 < a) : zcv ad (.inr a) = .null := by
  cases a with
  | zero => rfl
  | succ n => exact absurd (Nat.succ_pos n) h
/-- where the cells lie: the script, the table of powers, then those that are made -/
def zAd (b t base : Nat) : Nat → Nat := fun a => if a = 1 then b else if a = 2 then t else base + (a - 3)
theorem zAd_hi {b t base a : Nat} (h : 3 ≤ a) : zAd b t base a = base + (a - 3) := by
  unfold zAd; rw [if_neg (by omega), if_neg (by omega)]
theorem zAd_ne {b t base a a' : Nat} (hb : b < base) (ht : t < base) (h : 3 ≤ a) (h0 : 0 < a') (hne : a' ≠ a) : zAd b t base a' ≠ zAd b t base a := by
  rw [zAd_hi h]
  unfold zAd
  split
  · omega
  · split
    · omega
    · omega
def zFv (ad : Nat → Nat) (h : zH) (a ci k : Nat) : Value := if zFr ci k = true then zcv ad (.inr (zR h a k)) else .int (zI h a k)
/-- what a cell of a kind is -/
def zCell (D : va_G) (ad : Nat → Nat) (s : State) (h : zH) (a : Nat) (H : Heap) : Prop :=
  (zK h a = 1 → ∃ cA : ClassId, H[ad a]? = some (arrV cA (zL h a) (fun j => .int (zI h a j))) ∧ ArrOfT s cA .int) ∧
  (zK h a = 2 → ∃ cA : ClassId, H[ad a]? = some (arrV cA (zL h a) (fun j => .int (zI h a j))) ∧ ArrOfT s cA .boolean) ∧
  (zK h a = 101 → ∃ cell : Cell, H[ad a]? = some cell ∧ s.isArrayOf cell .int ∧ cell.vm ≠ .unknown ∧ zL h a ≤ cell.slots.size ∧ cell.slots.size.toInt32 = Int32.ofNat (zL h a) ∧ ∀ j, j < zL h a → cell.slots[j]? = some (.int (zI h a j))) ∧
  (∀ (ci : Nat) (r : vw_C), zK h a = 3 + 2 * ci → zCl[ci]? = some r → t_OB (ad a) (D.1 ci) r.2.2 (D.2 ci) H (zFv ad h a ci)) ∧
  (∀ (ci : Nat) (r : vw_C), zK h a = 4 + 2 * ci → zCl[ci]? = some r → ∃ (cA : ClassId) (kA : Class) (comp : ClassId), H[ad a]? = some (arrV cA (zL h a) (fun j => zcv ad (.inr (zR h a j)))) ∧ s.vm.classes[cA]? = some kA ∧ kA.kind = .array comp (.object r.1) ∧ s.vm.findClass r.1 = some comp)
theorem zCell.congr {D : va_G} {ad : Nat → Nat} {s : State} {h h' : zH} {a : Nat} {H H' : Heap} (c : zCell D ad s h a H) (hk : zK h' a = zK h a) (hl : zL h' a = zL h a) (hI : zI h' a = zI h a) (hR : zR h' a = zR h a) (hq : H'[ad a]? = H[ad a]?) : zCell D ad s h' a H' := by
  obtain ⟨c1, c2, c3, c4, c5⟩ := c
  refine ⟨?_, ?_, ?_, ?_, ?_⟩
  · rw [hk, hl, hI, hq]; exact c1
  · rw [hk, hl, hI, hq]; exact c2
  · rw [hk, hl, hI, hq]; exact c3
  · intro ci r h1 h2
    rw [hk] at h1
    have e : zFv ad h' a ci = zFv ad h a ci := by
      funext k; unfold zFv; rw [hI, hR]
    rw [e]
    exact (c4 ci r h1 h2).kept hq
  · rw [hk, hl, hR, hq]; exact c5
theorem zCell.moved {D : va_G} {ad : Nat → Nat} {s U : State} {h : zH} {a : Nat} {H : Heap} (hvm : s.vm.Alike U.vm) (c : zCell D ad s h a H) : zCell D ad U h a H := by
  obtain ⟨c1, c2, c3, c4, c5⟩ := c
  refine ⟨fun e => ?_, fun e => ?_, fun e => ?_, c4, fun ci r h1 h2 => ?_⟩
  · obtain ⟨cA, q1, q2⟩ := c1 e
    exact ⟨cA, q1, arrOfT_moved hvm q2⟩
  · obtain ⟨cA, q1, q2⟩ := c2 e
    exact ⟨cA, q1, arrOfT_moved hvm q2⟩
  · obtain ⟨cell, q1, q2, q3⟩ := c3 e
    exact ⟨cell, q1, State.isArrayOf_alike hvm q2, q3⟩
  · obtain ⟨cA, kA, comp, q1, q2, q3, q4⟩ := c5 ci r h1 h2
    obtain ⟨k', hk', he⟩ := hvm.2.2 _ _ q2
    exact ⟨cA, k', comp, q1, hk', by rw [he]; exact q3, by rw [hvm.findClass]; exact q4⟩
theorem zCell_1 {D : va_G} {ad : Nat → Nat} {s : State} {h : zH} {a : Nat} {H : Heap} (hk : zK h a = 1) (k : ∃ cA : ClassId, H[ad a]? = some (arrV cA (zL h a) (fun j => .int (zI h a j))) ∧ ArrOfT s cA .int) : zCell D ad s h a H :=
  ⟨fun _ => k, fun e => by omega, fun e => by omega, fun ci r e => by omega, fun ci r e => by omega⟩
theorem zCell_2 {D : va_G} {ad : Nat → Nat} {s : State} {h : zH} {a : Nat} {H : Heap} (hk : zK h a = 2) (k : ∃ cA : ClassId, H[ad a]? = some (arrV cA (zL h a) (fun j => .int (zI h a j))) ∧ ArrOfT s cA .boolean) : zCell D ad s h a H :=
  ⟨fun e => by omega, fun _ => k, fun e => by omega, fun ci r e => by omega, fun ci r e => by omega⟩
theorem zCell_obj {D : va_G} {ad : Nat → Nat} {s : State} {h : zH} {a ci : Nat} {r : vw_C} {H : Heap} (hc : zCl[ci]? = some r) (hk : zK h a = 3 + 2 * ci) (k : t_OB (ad a) (D.1 ci) r.2.2 (D.2 ci) H (zFv ad h a ci)) : zCell D ad s h a H := by
  have hlt : ci < zCl.length := (List.getElem?_eq_some_iff.mp hc).1
  have hlen : zCl.length < 40 := zCl_len
  refine ⟨fun e => by omega, fun e => by omega, fun e => by omega, fun cj r' e hc' => ?_, fun cj r' e => by omega⟩
  have he : cj = ci := by omega
  subst he
  obtain rfl : r = r' := Option.some.inj (hc.symm.trans hc')
  exact k
theorem zCell_r {D : va_G} {ad : Nat → Nat} {s : State} {h : zH} {a ci : Nat} {r : vw_C} {H : Heap} (hc : zCl[ci]? = some r) (hk : zK h a = 4 + 2 * ci) (k : ∃ (cA : ClassId) (kA : Class) (comp : ClassId), H[ad a]? = some (arrV cA (zL h a) (fun j => zcv ad (.inr (zR h a j)))) ∧ s.vm.classes[cA]? = some kA ∧ kA.kind = .array comp (.object r.1) ∧ s.vm.findClass r.1 = some comp) : zCell D ad s h a H := by
  refine ⟨fun e => by omega, fun e => by omega, fun e => by omega, fun cj r' e => by omega, fun cj r' e hc' => ?_⟩
  have he : cj = ci := by omega
  subst he
  obtain rfl : r = r' := Option.some.inj (hc.symm.trans hc')
  exact k
/-- the heap of the small machine is held by the machine's -/
def zRel (D : va_G) (b t base : Nat) (s : State) (h : zH) (H : Heap) : Prop :=
  b < base ∧ t < base ∧ 3 ≤ zN h ∧ H.size = base + (zN h - 3) ∧ (∀ a, zK h a ≠ 0 → 0 < a ∧ a < zN h) ∧ (∀ a, zK h a ≠ 0 → zK h a ≠ 101 → 3 ≤ a) ∧ (∀ a, zK h a ≠ 0 → zCell D (zAd b t base) s h a H) ∧ va_Z zSc zSn "[I" (.ref t) (fun q => base ≤ q) s H
theorem zRel.moved {D : va_G} {b t base : Nat} {s U : State} {h : zH} {H : Heap} (hvm : s.vm.Alike U.vm) (r : zRel D b t base s h H) : zRel D b t base U h H := by
  obtain ⟨r1, r2, r3, r4, r5, r6, r7, r8⟩ := r
  exact ⟨r1, r2, r3, r4, r5, r6, fun a ha => (r7 a ha).moved hvm, r8.moved hvm⟩
theorem zRel.upd {D : va_G} {b t base : Nat} {s : State} {h h' : zH} {H H' : Heap} (r : zRel D b t base s h H) {a : Nat} (ha : 3 ≤ a) (hk : ∀ x, zK h' x = zK h x) (hl : ∀ x, zL h' x = zL h x) (hn : zN h' = zN h) (hI : ∀ x, x ≠ a → zI h' x = zI h x) (hR : ∀ x, x ≠ a → zR h' x = zR h x)
    (hz : H'.size = H.size) (hq : ∀ q, q ≠ zAd b t base a → H'[q]? = H[q]?) (hc : zCell D (zAd b t base) s h' a H') : zRel D b t base s h' H' := by
  obtain ⟨r1, r2, r3, r4, r5, r6, r7, r8⟩ := r
  refine ⟨r1, r2, by rw [hn]; exact r3, by rw [hz, hn]; exact r4, fun x hx => ?_, fun x hx hx' => ?_, fun x hx => ?_, r8.kept (fun q _ hq' => hq q (fun e => hq' ?_))⟩
  · rw [hk] at hx; rw [hn]; exact r5 x hx
  · rw [hk] at hx hx'; exact r6 x hx hx'
  · by_cases e : x = a
    · rw [e]; exact hc
    · rw [hk] at hx
      exact (r7 x hx).congr (hk x) (hl x) (hI x e) (hR x e) (hq _ (zAd_ne r1 r2 ha (r5 x hx).1 e))
  · show base ≤ q
    rw [e, zAd_hi ha]; omega
theorem zwI_ne {h : zH} {a k : Nat} {v : Int32} {x : Nat} (e : x ≠ a) : zI (zwI h a k v) x = zI h x := by
  funext j; rw [zI_wI, if_neg (fun q => e q.1)]
theorem zwR_ne {h : zH} {a k v : Nat} {x : Nat} (e : x ≠ a) : zR (zwR h a k v) x = zR h x := by
  funext j; rw [zR_wR, if_neg (fun q => e q.1)]
theorem zRel.new {D : va_G} {b t base : Nat} {s : State} {h : zH} {H H' : Heap} {kd len : Nat} (r : zRel D b t base s h H) (h0 : kd ≠ 0) (hz : H'.size = H.size + 1) (hq : ∀ q, q < H.size → H'[q]? = H[q]?) (hc : zCell D (zAd b t base) s (zNew h kd len) (zN h) H') : zRel D b t base s (zNew h kd len) H' := by
  obtain ⟨r1, r2, r3, r4, r5, r6, r7, r8⟩ := r
  have hlt : ∀ x, zK h x ≠ 0 → zAd b t base x < H.size := by
    intro x hx
    have := r5 x hx
    unfold zAd
    split
    · omega
    · split <;> omega
  refine ⟨r1, r2, by rw [zN_new]; omega, by rw [zN_new, hz, r4]; omega, fun x hx => ?_, fun x hx hx' => ?_, fun x hx => ?_, r8.kept (fun q hq1 _ => hq q hq1)⟩
  · rw [zK_new] at hx; rw [zN_new]
    by_cases e : x = zN h
    · omega
    · rw [if_neg e] at hx
      have := r5 x hx
      omega
  · rw [zK_new] at hx hx'
    by_cases e : x = zN h
    · omega
    · rw [if_neg e] at hx hx'
      exact r6 x hx hx'
  · by_cases e : x = zN h
    · rw [e]; exact hc
    · rw [zK_new, if_neg e] at hx
      refine (r7 x hx).congr (by rw [zK_new, if_neg e]) (by rw [zL_new, if_neg e]) ?_ ?_ (hq _ (hlt x hx))
      · funext j; rw [zI_new, if_neg e]
      · funext j; rw [zR_new, if_neg e]
def zLv (ad : Nat → Nat) (ls : List (Option zV)) : List (Nat × Value) := (List.range ls.length).filterMap fun i => match ls[i]? with
  | some (some v) => some (i, zcv ad v)
  | _ => none
theorem zLv_mem {ad : Nat → Nat} {ls : List (Option zV)} {i : Nat} {v : zV} (h : ls[i]? = some (some v)) : (i, zcv ad v) ∈ zLv ad ls := by
  refine List.mem_filterMap.mpr ⟨i, List.mem_range.mpr (List.getElem?_eq_some_iff.mp h).1, ?_⟩
  simp [h]
theorem zLv_of {ad : Nat → Nat} {ls : List (Option zV)} {q : Nat × Value} (h : q ∈ zLv ad ls) : ∃ v, ls[q.1]? = some (some v) ∧ q.2 = zcv ad v := by
  obtain ⟨i, -, hi⟩ := List.mem_filterMap.mp h
  split at hi
  · rename_i v hv
    cases hi
    exact ⟨v, hv, rfl⟩
  · cases hi
theorem zLv_set {ad : Nat → Nat} {ls : List (Option zV)} {nL i : Nat} {v : zV} {lsR : Array Slot} (hi : i < ls.length) (h : lv_has lsR nL ((i, zcv ad v) :: (zLv ad ls).filter (fun q => !(q.1 == i) && !(q.1 + 1 == i && q.2.category == 2)))) : lv_has lsR nL (zLv ad (ls.set i (some v))) := by
  obtain ⟨h1, h2, h3⟩ := h
  refine ⟨h1, h2, fun q hq => ?_⟩
  obtain ⟨w, hw, e⟩ := zLv_of hq
  by_cases hqi : q.1 = i
  · rw [hqi, List.getElem?_set_self hi] at hw
    cases hw
    have := h3 (i, zcv ad v) List.mem_cons_self
    rw [hqi, e]
    exact this
  · rw [List.getElem?_set_ne (Ne.symm hqi)] at hw
    have hm : q ∈ (zLv ad ls).filter (fun q => !(q.1 == i) && !(q.1 + 1 == i && q.2.category == 2)) := by
      refine List.mem_filter.mpr ⟨?_, ?_⟩
      · have := zLv_mem (ad := ad) hw
        rw [← e] at this
        exact this
      · have hcat : q.2.category = 1 := by rw [e]; exact zcv_cat ad w
        simp [hqi, hcat]
    exact h3 q (List.mem_cons_of_mem _ hm)
theorem zLv_at {ad : Nat → Nat} {ls : List (Option zV)} {nL i : Nat} {v : zV} {lsR : Array Slot} (h : lv_has lsR nL (zLv ad ls)) (hi : ls[i]? = some (some v)) : lsR[i]? = some (.val (zcv ad v)) := h.2.2 _ (zLv_mem hi)
end
section
/-! ===== what a program checks of the tables ===== -/
def zDec (y pc : Nat) (i : Instr) (n : Nat) : Bool := match decode (zBy y) pc with
  | .ok q => decide (q = (i, n))
  | .error _ => false
theorem zDec_of {y pc : Nat} {i : Instr} {n : Nat} (h : zDec y pc i n = true) : decode (zBy y) pc = .ok (i, n) := by
  unfold zDec at h
  split at h
  · rename_i q hq
    rw [hq, of_decide_eq_true h]
  · cases h
def zChk (y pc : Nat) (q : zE) : Bool := zDec y pc q.1 q.2.1 && (match q with
  | (.iconst k, n, _, _, _, c) => decide (n = 1) && decide (Int32.ofInt k = c)
  | (.bipush k, n, _, _, _, c) => decide (n = 2) && decide ((Int8.ofInt k).toInt32 = c)
  | (.sipush k, n, _, _, _, c) => decide (n = 3) && decide ((Int16.ofInt k).toInt32 = c)
  | (.ldc j, n, _, _, _, c) => decide (n = 2) && decide ((zOn y, j, c) ∈ zCs)
  | (.iload_n _, n, _, _, _, _) => decide (n = 1)
  | (.aload_n _, n, _, _, _, _) => decide (n = 1)
  | (.istore_n _, n, _, _, _, _) => decide (n = 1)
  | (.astore_n _, n, _, _, _, _) => decide (n = 1)
  | (.iload _, n, _, _, _, _) => decide (n = 2)
  | (.aload _, n, _, _, _, _) => decide (n = 2)
  | (.istore _, n, _, _, _, _) => decide (n = 2)
  | (.astore _, n, _, _, _, _) => decide (n = 2)
  | (.iinc _ k, n, _, _, _, c) => decide (n = 3) && decide (Int32.ofInt k = c)
  | (.if_icmp _ o, n, x, _, _, _) => decide (n = 3) && decide ((pc : Int) + o = (x : Int))
  | (.ifCond _ o, n, x, _, _, _) => decide (n = 3) && decide ((pc : Int) + o = (x : Int))
  | (.goto o, n, x, _, _, _) => decide (n = 3) && decide ((pc : Int) + o = (x : Int))
  | (.getfield j, n, x, k, z, _) => decide (n = 3) && (decide ((x - 3) / 2 < zCl.length) && (decide (x = 3 + 2 * ((x - 3) / 2)) && (decide (k < zNf ((x - 3) / 2)) && (decide (zFr ((x - 3) / 2) k = decide (z ≠ 0)) && decide ((zOn y, j, (x - 3) / 2, k) ∈ zFls ∨ (zOn y, j, (x - 3) / 2, k) ∈ zFns)))))
  | (.putfield j, n, x, k, z, _) => decide (n = 3) && (decide ((x - 3) / 2 < zCl.length) && (decide (x = 3 + 2 * ((x - 3) / 2)) && (decide (k < zNf ((x - 3) / 2)) && (decide (zFr ((x - 3) / 2) k = decide (z ≠ 0)) && decide ((zFin ((x - 3) / 2) k = false ∧ ((zOn y, j, (x - 3) / 2, k) ∈ zFls ∨ (zOn y, j, (x - 3) / 2, k) ∈ zFns)) ∨ (zFin ((x - 3) / 2) k = true ∧ (x - 3) / 2 = zOn y ∧ (zNm y).name = "<init>" ∧ (zOn y, j, (x - 3) / 2, k) ∈ zFls))))))
  | (.getstatic j, n, x, _, _, _) => decide (n = 3) && (decide (x = 2) && decide ((zOn y, j) ∈ zSls ∨ (zOn y, j) ∈ zSns))
  | (.iaload, n, _, _, _, _) => decide (n = 1)
  | (.baload, n, _, _, _, _) => decide (n = 1)
  | (.iastore, n, _, _, _, _) => decide (n = 1)
  | (.bastore, n, _, _, _, _) => decide (n = 1)
  | (.aaload, n, x, _, _, _) => decide (n = 1) && (decide ((x - 4) / 2 < zCl.length) && decide (x = 4 + 2 * ((x - 4) / 2)))
  | (.aastore, n, x, k, _, _) => decide (n = 1) && (decide ((x - 4) / 2 < zCl.length) && (decide (x = 4 + 2 * ((x - 4) / 2)) && decide (k + 1 = x)))
  | (.arraylength, n, x, _, _, _) => decide (n = 1) && (decide (x = 1) || (decide (x = 101) || (decide ((x - 4) / 2 < zCl.length) && decide (x = 4 + 2 * ((x - 4) / 2)))))
  | (.newarray a, n, x, _, _, _) => decide (n = 2) && decide ((a = .int ∧ x = 1) ∨ (a = .boolean ∧ x = 2))
  | (.anewarray j, n, x, _, _, _) => decide (n = 3) && (decide ((x - 4) / 2 < zCl.length) && (decide (x = 4 + 2 * ((x - 4) / 2)) && decide ((zOn y, j, (x - 4) / 2) ∈ zNas)))
  | (.new j, n, x, k, _, _) => decide (n = 3) && (decide ((x - 3) / 2 < zCl.length) && (decide (x = 3 + 2 * ((x - 3) / 2)) && (decide (k = zNf ((x - 3) / 2)) && decide ((zOn y, j, (x - 3) / 2) ∈ zNws))))
  | (.invokevirtual j, n, x, k, z, _) => decide (n = 3) && (decide ((z - 3) / 2 < zCl.length) && (decide (z = 3 + 2 * ((z - 3) / 2)) && (decide ((zOn y, j, x, k, (z - 3) / 2) ∈ zVls ∨ (zOn y, j, x, k, (z - 3) / 2) ∈ zVns) && (decide (zMc x = 0) && decide (zMs x = 0)))))
  | (.invokestatic j, n, x, k, z, _) => decide (n = 3) && (match z with
    | 7 => decide ((zOn y, j) ∈ zMaxs)
    | 8 => decide ((zOn y, j) ∈ zMins)
    | _ => decide ((zOn y, j, x, k) ∈ zTls) && (decide (zMc x = 0) && decide (zMs x = 0)))
  | (.invokespecial j, n, x, k, z, _) => decide (n = 3) && (match z with
    | 0 => decide ((zOn y, j) ∈ zObs) && (decide ((x - 3) / 2 < zCl.length) && decide (x = 3 + 2 * ((x - 3) / 2)))
    | _ => decide ((z - 3) / 2 < zCl.length) && (decide (z = 3 + 2 * ((z - 3) / 2)) && decide ((zOn y, j, x, k, (z - 3) / 2) ∈ zIls ∨ (zOn y, j, x, k, (z - 3) / 2) ∈ zIns)))
  | (.tableswitch d lo hi offs, _, _, _, _, _) => decide (hi = lo + offs.toList.length - 1) && (decide (0 ≤ (pc : Int) + d) && offs.toList.all (fun o => decide (0 ≤ (pc : Int) + o)))
  | (.lookupswitch d ps, _, _, _, _, _) => ((ps.toList.zip (ps.toList.drop 1)).all (fun (a, next) => a.1 < next.1)) && (decide (0 ≤ (pc : Int) + d) && ps.toList.all (fun o => decide (0 ≤ (pc : Int) + o.2)))
  | (_, n, _, _, _, _) => decide (n = 1))
def zChkL (y : Nat) : Nat → List (Option zE) → Bool
  | _, [] => true
  | pc, none :: r => zChkL y (pc + 1) r
  | pc, some q :: r => zChk y pc q && zChkL y (pc + 1) r
theorem zChkL_at {y : Nat} : ∀ (tb : List (Option zE)) (p0 pc : Nat) {q : zE}, zChkL y p0 tb = true → zAt tb pc = some q → zChk y (p0 + pc) q = true
  | [], _, _, _, _, h => by cases h
  | none :: r, p0, 0, _, _, h => by cases h
  | some q' :: r, p0, 0, q, k, h => by
    cases h
    exact (Bool.and_eq_true _ _ ▸ k : _ ∧ _).1
  | none :: r, p0, pc + 1, q, k, h => by
    have := zChkL_at r (p0 + 1) pc k h
    rw [show p0 + 1 + pc = p0 + (pc + 1) by omega] at this
    exact this
  | some q' :: r, p0, pc + 1, q, k, h => by
    have := zChkL_at r (p0 + 1) pc (Bool.and_eq_true _ _ ▸ k : _ ∧ _).2 h
    rw [show p0 + 1 + pc = p0 + (pc + 1) by omega] at this
    exact this
end
section
/-! ===== the tables are as the bytes are ===== -/
theorem zc0 : zChkL 0 0 zt0 = true := by decide +kernel
theorem zc1 : zChkL 1 0 zt1 = true := by decide +kernel
theorem zc2 : zChkL 2 0 zt2 = true := by decide +kernel
theorem zc3 : zChkL 3 0 zt3 = true := by decide +kernel
theorem zc4 : zChkL 4 0 zt4 = true := by decide +kernel
theorem zc5 : zChkL 5 0 zt5 = true := by decide +kernel
theorem zc6 : zChkL 6 0 zt6 = true := by decide +kernel
theorem zc7 : zChkL 7 0 zt7 = true := by decide +kernel
theorem zc8 : zChkL 8 0 zt8 = true := by decide +kernel
theorem zc9 : zChkL 9 0 zt9 = true := by decide +kernel
theorem zc10 : zChkL 10 0 zt10 = true := by decide +kernel
theorem zc11 : zChkL 11 0 zt11 = true := by decide +kernel
theorem zc12 : zChkL 12 0 zt12 = true := by decide +kernel
theorem zc13 : zChkL 13 0 zt13 = true := by decide +kernel
theorem zc14 : zChkL 14 0 zt14 = true := by decide +kernel
theorem zc15 : zChkL 15 0 zt15 = true := by decide +kernel
theorem zc16 : zChkL 16 0 zt16 = true := by decide +kernel
theorem zc17 : zChkL 17 0 zt17 = true := by decide +kernel
theorem zc18 : zChkL 18 0 zt18 = true := by decide +kernel
theorem zc19 : zChkL 19 0 zt19 = true := by decide +kernel
theorem zc20 : zChkL 20 0 zt20 = true := by decide +kernel
theorem zc21 : zChkL 21 0 zt21 = true := by decide +kernel
theorem zc22 : zChkL 22 0 zt22 = true := by decide +kernel
theorem zc23 : zChkL 23 0 zt23 = true := by decide +kernel
theorem zc24 : zChkL 24 0 zt24 = true := by decide +kernel
theorem zc25 : zChkL 25 0 zt25 = true := by decide +kernel
theorem zc26 : zChkL 26 0 zt26 = true := by decide +kernel
theorem zc27 : zChkL 27 0 zt27 = true := by decide +kernel
theorem zc28 : zChkL 28 0 zt28 = true := by decide +kernel
theorem zc29 : zChkL 29 0 zt29 = true := by decide +kernel
theorem zc30 : zChkL 30 0 zt30 = true := by decide +kernel
theorem zc31 : zChkL 31 0 zt31 = true := by decide +kernel
theorem zc32 : zChkL 32 0 zt32 = true := by decide +kernel
theorem zc33 : zChkL 33 0 zt33 = true := by decide +kernel
theorem zc34 : zChkL 34 0 zt34 = true := by decide +kernel
theorem zc35 : zChkL 35 0 zt35 = true := by decide +kernel
theorem zc36 : zChkL 36 0 zt36 = true := by decide +kernel
theorem zc37 : zChkL 37 0 zt37 = true := by decide +kernel
theorem zc38 : zChkL 38 0 zt38 = true := by decide +kernel
theorem zc39 : zChkL 39 0 zt39 = true := by decide +kernel
theorem zc40 : zChkL 40 0 zt40 = true := by decide +kernel
theorem zc41 : zChkL 41 0 zt41 = true := by decide +kernel
theorem zc42 : zChkL 42 0 zt42 = true := by decide +kernel
theorem zc43 : zChkL 43 0 zt43 = true := by decide +kernel
theorem zc44 : zChkL 44 0 zt44 = true := by decide +kernel
theorem zc45 : zChkL 45 0 zt45 = true := by decide +kernel
theorem zc46 : zChkL 46 0 zt46 = true := by decide +kernel
theorem zc47 : zChkL 47 0 zt47 = true := by decide +kernel
theorem zc48 : zChkL 48 0 zt48 = true := by decide +kernel
theorem zc49 : zChkL 49 0 zt49 = true := by decide +kernel
theorem zc50 : zChkL 50 0 zt50 = true := by decide +kernel
theorem zc51 : zChkL 51 0 zt51 = true := by decide +kernel
theorem zc52 : zChkL 52 0 zt52 = true := by decide +kernel
theorem zc53 : zChkL 53 0 zt53 = true := by decide +kernel
theorem zc54 : zChkL 54 0 zt54 = true := by decide +kernel
theorem zc55 : zChkL 55 0 zt55 = true := by decide +kernel
theorem zc56 : zChkL 56 0 zt56 = true := by decide +kernel
theorem zc57 : zChkL 57 0 zt57 = true := by decide +kernel
theorem zc58 : zChkL 58 0 zt58 = true := by decide +kernel
theorem zc59 : zChkL 59 0 zt59 = true := by decide +kernel
theorem zc60 : zChkL 60 0 zt60 = true := by decide +kernel
theorem zc61 : zChkL 61 0 zt61 = true := by decide +kernel
theorem zc62 : zChkL 62 0 zt62 = true := by decide +kernel
theorem zc63 : zChkL 63 0 zt63 = true := by decide +kernel
theorem zc64 : zChkL 64 0 zt64 = true := by decide +kernel
theorem zc65 : zChkL 65 0 zt65 = true := by decide +kernel
theorem zc66 : zChkL 66 0 zt66 = true := by decide +kernel
theorem zc67 : zChkL 67 0 zt67 = true := by decide +kernel
theorem zc68 : zChkL 68 0 zt68 = true := by decide +kernel
theorem zc69 : zChkL 69 0 zt69 = true := by decide +kernel
theorem zc70 : zChkL 70 0 zt70 = true := by decide +kernel
theorem zc71 : zChkL 71 0 zt71 = true := by decide +kernel
theorem zc72 : zChkL 72 0 zt72 = true := by decide +kernel
theorem zc73 : zChkL 73 0 zt73 = true := by decide +kernel
theorem zc74 : zChkL 74 0 zt74 = true := by decide +kernel
theorem zc75 : zChkL 75 0 zt75 = true := by decide +kernel
theorem zc76 : zChkL 76 0 zt76 = true := by decide +kernel
theorem zc77 : zChkL 77 0 zt77 = true := by decide +kernel
theorem zc78 : zChkL 78 0 zt78 = true := by decide +kernel
theorem zc79 : zChkL 79 0 zt79 = true := by decide +kernel
theorem zc80 : zChkL 80 0 zt80 = true := by decide +kernel
theorem zc81 : zChkL 81 0 zt81 = true := by decide +kernel
theorem zc82 : zChkL 82 0 zt82 = true := by decide +kernel
theorem zc83 : zChkL 83 0 zt83 = true := by decide +kernel
theorem zc84 : zChkL 84 0 zt84 = true := by decide +kernel
theorem zc85 : zChkL 85 0 zt85 = true := by decide +kernel
theorem zc86 : zChkL 86 0 zt86 = true := by decide +kernel
theorem zc87 : zChkL 87 0 zt87 = true := by decide +kernel
theorem zc88 : zChkL 88 0 zt88 = true := by decide +kernel
theorem zc89 : zChkL 89 0 zt89 = true := by decide +kernel
theorem zc90 : zChkL 90 0 zt90 = true := by decide +kernel
theorem zc91 : zChkL 91 0 zt91 = true := by decide +kernel
theorem zc92 : zChkL 92 0 zt92 = true := by decide +kernel
theorem zc93 : zChkL 93 0 zt93 = true := by decide +kernel
theorem zc94 : zChkL 94 0 zt94 = true := by decide +kernel
theorem zc95 : zChkL 95 0 zt95 = true := by decide +kernel
theorem zc96 : zChkL 96 0 zt96 = true := by decide +kernel
theorem zc97 : zChkL 97 0 zt97 = true := by decide +kernel
theorem zc98 : zChkL 98 0 zt98 = true := by decide +kernel
theorem zc99 : zChkL 99 0 zt99 = true := by decide +kernel
theorem zc100 : zChkL 100 0 zt100 = true := by decide +kernel
theorem zc101 : zChkL 101 0 zt101 = true := by decide +kernel
theorem zc102 : zChkL 102 0 zt102 = true := by decide +kernel
theorem zc103 : zChkL 103 0 zt103 = true := by decide +kernel
theorem zc104 : zChkL 104 0 zt104 = true := by decide +kernel
theorem zc105 : zChkL 105 0 zt105 = true := by decide +kernel
theorem zc106 : zChkL 106 0 zt106 = true := by decide +kernel
theorem zc107 : zChkL 107 0 zt107 = true := by decide +kernel
theorem zc108 : zChkL 108 0 zt108 = true := by decide +kernel
theorem zc109 : zChkL 109 0 zt109 = true := by decide +kernel
theorem zc110 : zChkL 110 0 zt110 = true := by decide +kernel
theorem zc111 : zChkL 111 0 zt111 = true := by decide +kernel
theorem zc112 : zChkL 112 0 zt112 = true := by decide +kernel
theorem zc113 : zChkL 113 0 zt113 = true := by decide +kernel
theorem zc114 : zChkL 114 0 zt114 = true := by decide +kernel
theorem zc115 : zChkL 115 0 zt115 = true := by decide +kernel
theorem zc116 : zChkL 116 0 zt116 = true := by decide +kernel
theorem zc117 : zChkL 117 0 zt117 = true := by decide +kernel
end
section
theorem zTy_fit {ad : Nat → Nat} {ci k : Nat} {C : String} {T : u_T} {N : Nat} (hc : zCl[ci]? = some (C, T, N)) (hk : k < N) {v : zV} (hv : zFr ci k = v.isRight) : narrow (zTy ci k) (zcv ad v) = zcv ad v ∧ fits (zTy ci k) (zcv ad v) = true := by
  rcases zTy_k ci (List.getElem?_eq_some_iff.mp hc).1 k (by rw [zNf_eq hc]; exact hk) with ⟨h1, h2⟩ | ⟨h1, h2⟩
  · cases v with
    | inl x => rw [h2]; exact ⟨rfl, rfl⟩
    | inr a => rw [h1] at hv; cases hv
  · cases v with
    | inl x => rw [h1] at hv; cases hv
    | inr a =>
      cases hty : zTy ci k with
      | object n => cases a <;> exact ⟨rfl, rfl⟩
      | array n => cases a <;> exact ⟨rfl, rfl⟩
      | _ => rw [hty] at h2; cases h2
theorem zDef {ci k : Nat} (hc : ci < zCl.length) (hk : k < zNf ci) : defaultValue (zTy ci k) = if zFr ci k = true then .null else .int 0 := by
  rcases zTy_k ci hc k hk with ⟨h1, h2⟩ | ⟨h1, h2⟩
  · rw [h1, h2]; rfl
  · rw [h1, if_pos rfl]
    cases hty : zTy ci k with
    | object n => rfl
    | array n => rfl
    | _ => rw [hty] at h2; cases h2
theorem zTab_out {y : Nat} (h : ¬ y < zNum) : zTab y = ([], 0, 0, 0) := by
  unfold zTab
  rw [List.getD_eq_getElem?_getD, List.getElem?_eq_none (Nat.le_of_not_lt h)]; rfl
theorem zY_a : ∀ y, y < zNum → plainName (zNm y).cls = true ∧ (zNm y).cls = zCn (zOn y) ∧ ((zTab y).2.1 = 0 → zRet y = some .int) ∧ ((zTab y).2.1 = 1 → zRet y = some .boolean) ∧ ((zTab y).2.1 = 2 → zRet y = none) := by decide +kernel
set_option maxRecDepth 100000 in
theorem zY_l : ∀ y ∈ List.range zNum, zChkL y 0 (zTab y).1 = true := List.forall_mem_cons.mpr ⟨zc0, List.forall_mem_cons.mpr ⟨zc1, List.forall_mem_cons.mpr ⟨zc2, List.forall_mem_cons.mpr ⟨zc3, List.forall_mem_cons.mpr ⟨zc4, List.forall_mem_cons.mpr ⟨zc5, List.forall_mem_cons.mpr ⟨zc6, List.forall_mem_cons.mpr ⟨zc7, List.forall_mem_cons.mpr ⟨zc8, List.forall_mem_cons.mpr ⟨zc9, List.forall_mem_cons.mpr ⟨zc10, List.forall_mem_cons.mpr ⟨zc11, List.forall_mem_cons.mpr ⟨zc12, List.forall_mem_cons.mpr ⟨zc13, List.forall_mem_cons.mpr ⟨zc14, List.forall_mem_cons.mpr ⟨zc15, List.forall_mem_cons.mpr ⟨zc16, List.forall_mem_cons.mpr ⟨zc17, List.forall_mem_cons.mpr ⟨zc18, List.forall_mem_cons.mpr ⟨zc19, List.forall_mem_cons.mpr ⟨zc20, List.forall_mem_cons.mpr ⟨zc21, List.forall_mem_cons.mpr ⟨zc22, List.forall_mem_cons.mpr ⟨zc23, List.forall_mem_cons.mpr ⟨zc24, List.forall_mem_cons.mpr ⟨zc25, List.forall_mem_cons.mpr ⟨zc26, List.forall_mem_cons.mpr ⟨zc27, List.forall_mem_cons.mpr ⟨zc28, List.forall_mem_cons.mpr ⟨zc29, List.forall_mem_cons.mpr ⟨zc30, List.forall_mem_cons.mpr ⟨zc31, List.forall_mem_cons.mpr ⟨zc32, List.forall_mem_cons.mpr ⟨zc33, List.forall_mem_cons.mpr ⟨zc34, List.forall_mem_cons.mpr ⟨zc35, List.forall_mem_cons.mpr ⟨zc36, List.forall_mem_cons.mpr ⟨zc37, List.forall_mem_cons.mpr ⟨zc38, List.forall_mem_cons.mpr ⟨zc39, List.forall_mem_cons.mpr ⟨zc40, List.forall_mem_cons.mpr ⟨zc41, List.forall_mem_cons.mpr ⟨zc42, List.forall_mem_cons.mpr ⟨zc43, List.forall_mem_cons.mpr ⟨zc44, List.forall_mem_cons.mpr ⟨zc45, List.forall_mem_cons.mpr ⟨zc46, List.forall_mem_cons.mpr ⟨zc47, List.forall_mem_cons.mpr ⟨zc48, List.forall_mem_cons.mpr ⟨zc49, List.forall_mem_cons.mpr ⟨zc50, List.forall_mem_cons.mpr ⟨zc51, List.forall_mem_cons.mpr ⟨zc52, List.forall_mem_cons.mpr ⟨zc53, List.forall_mem_cons.mpr ⟨zc54, List.forall_mem_cons.mpr ⟨zc55, List.forall_mem_cons.mpr ⟨zc56, List.forall_mem_cons.mpr ⟨zc57, List.forall_mem_cons.mpr ⟨zc58, List.forall_mem_cons.mpr ⟨zc59, List.forall_mem_cons.mpr ⟨zc60, List.forall_mem_cons.mpr ⟨zc61, List.forall_mem_cons.mpr ⟨zc62, List.forall_mem_cons.mpr ⟨zc63, List.forall_mem_cons.mpr ⟨zc64, List.forall_mem_cons.mpr ⟨zc65, List.forall_mem_cons.mpr ⟨zc66, List.forall_mem_cons.mpr ⟨zc67, List.forall_mem_cons.mpr ⟨zc68, List.forall_mem_cons.mpr ⟨zc69, List.forall_mem_cons.mpr ⟨zc70, List.forall_mem_cons.mpr ⟨zc71, List.forall_mem_cons.mpr ⟨zc72, List.forall_mem_cons.mpr ⟨zc73, List.forall_mem_cons.mpr ⟨zc74, List.forall_mem_cons.mpr ⟨zc75, List.forall_mem_cons.mpr ⟨zc76, List.forall_mem_cons.mpr ⟨zc77, List.forall_mem_cons.mpr ⟨zc78, List.forall_mem_cons.mpr ⟨zc79, List.forall_mem_cons.mpr ⟨zc80, List.forall_mem_cons.mpr ⟨zc81, List.forall_mem_cons.mpr ⟨zc82, List.forall_mem_cons.mpr ⟨zc83, List.forall_mem_cons.mpr ⟨zc84, List.forall_mem_cons.mpr ⟨zc85, List.forall_mem_cons.mpr ⟨zc86, List.forall_mem_cons.mpr ⟨zc87, List.forall_mem_cons.mpr ⟨zc88, List.forall_mem_cons.mpr ⟨zc89, List.forall_mem_cons.mpr ⟨zc90, List.forall_mem_cons.mpr ⟨zc91, List.forall_mem_cons.mpr ⟨zc92, List.forall_mem_cons.mpr ⟨zc93, List.forall_mem_cons.mpr ⟨zc94, List.forall_mem_cons.mpr ⟨zc95, List.forall_mem_cons.mpr ⟨zc96, List.forall_mem_cons.mpr ⟨zc97, List.forall_mem_cons.mpr ⟨zc98, List.forall_mem_cons.mpr ⟨zc99, List.forall_mem_cons.mpr ⟨zc100, List.forall_mem_cons.mpr ⟨zc101, List.forall_mem_cons.mpr ⟨zc102, List.forall_mem_cons.mpr ⟨zc103, List.forall_mem_cons.mpr ⟨zc104, List.forall_mem_cons.mpr ⟨zc105, List.forall_mem_cons.mpr ⟨zc106, List.forall_mem_cons.mpr ⟨zc107, List.forall_mem_cons.mpr ⟨zc108, List.forall_mem_cons.mpr ⟨zc109, List.forall_mem_cons.mpr ⟨zc110, List.forall_mem_cons.mpr ⟨zc111, List.forall_mem_cons.mpr ⟨zc112, List.forall_mem_cons.mpr ⟨zc113, List.forall_mem_cons.mpr ⟨zc114, List.forall_mem_cons.mpr ⟨zc115, List.forall_mem_cons.mpr ⟨zc116, List.forall_mem_cons.mpr ⟨zc117, fun _ h => absurd h List.not_mem_nil⟩⟩⟩⟩⟩⟩⟩⟩⟩⟩⟩⟩⟩⟩⟩⟩⟩⟩⟩⟩⟩⟩⟩⟩⟩⟩⟩⟩⟩⟩⟩⟩⟩⟩⟩⟩⟩⟩⟩⟩⟩⟩⟩⟩⟩⟩⟩⟩⟩⟩⟩⟩⟩⟩⟩⟩⟩⟩⟩⟩⟩⟩⟩⟩⟩⟩⟩⟩⟩⟩⟩⟩⟩⟩⟩⟩⟩⟩⟩⟩⟩⟩⟩⟩⟩⟩⟩⟩⟩⟩⟩⟩⟩⟩⟩⟩⟩⟩⟩⟩⟩⟩⟩⟩⟩⟩⟩⟩⟩⟩⟩⟩⟩⟩⟩⟩⟩⟩
theorem zY_c (y : Nat) (h : y < zNum) : zChkL y 0 (zTab y).1 = true := zY_l y (List.mem_range.mpr h)
theorem zY_ok (y : Nat) (h : y < zNum) : plainName (zNm y).cls = true ∧ (zNm y).cls = zCn (zOn y) ∧ zChkL y 0 (zTab y).1 = true ∧ ((zTab y).2.1 = 0 → zRet y = some .int) ∧ ((zTab y).2.1 = 1 → zRet y = some .boolean) ∧ ((zTab y).2.1 = 2 → zRet y = none) :=
  ⟨(zY_a y h).1, (zY_a y h).2.1, zY_c y h, (zY_a y h).2.2⟩
end
section
/-! ===== each step of the small machine is one of the machine's ===== -/
theorem zGi_of {ls : List (Option zV)} {i : Nat} {f : Int32 → Prop} (k : zGi ls i f) : ∃ v, ls[i]? = some (some (.inl v)) ∧ f v := by
  unfold zGi at k; split at k
  · rename_i v hv; exact ⟨v, hv, k⟩
  · exact k.elim
theorem zGr_of {ls : List (Option zV)} {i : Nat} {f : Nat → Prop} (k : zGr ls i f) : ∃ v, ls[i]? = some (some (.inr v)) ∧ f v := by
  unfold zGr at k; split at k
  · rename_i v hv; exact ⟨v, hv, k⟩
  · exact k.elim
theorem zSt_of {ls : List (Option zV)} {i : Nat} {f : Prop} (k : zSt ls i f) : i < ls.length ∧ f := by
  unfold zSt at k; split at k
  · rename_i hv; exact ⟨by simpa [Nat.blt_eq] using hv, k⟩
  · exact k.elim
theorem zSt8_of {r : List zV} {f : Prop} (k : zSt8 r f) : r.length ≤ 8 ∧ f := by
  unfold zSt8 at k; split at k
  · rename_i hv; exact ⟨Nat.le_of_ble_eq_true hv, k⟩
  · exact k.elim
theorem zLe_of {n : Nat} {r : List zV} {f : Prop} (k : zLe n r f) : n ≤ r.length ∧ f := by
  unfold zLe at k; split at k
  · rename_i hv; exact ⟨Nat.le_of_ble_eq_true hv, k⟩
  · exact k.elim
theorem z1i_of {st : List zV} {f : Int32 → List zV → Prop} (k : z1i st f) : ∃ a r, st = .inl a :: r ∧ f a r := by
  unfold z1i at k; split at k
  · exact ⟨_, _, rfl, k⟩
  · exact k.elim
theorem z1r_of {st : List zV} {f : Nat → List zV → Prop} (k : z1r st f) : ∃ a r, st = .inr a :: r ∧ f a r := by
  unfold z1r at k; split at k
  · exact ⟨_, _, rfl, k⟩
  · exact k.elim
theorem z2i_of {st : List zV} {f : Int32 → Int32 → List zV → Prop} (k : z2i st f) : ∃ a b r, st = .inl b :: .inl a :: r ∧ f a b r := by
  unfold z2i at k; split at k
  · exact ⟨_, _, _, rfl, k⟩
  · exact k.elim
theorem z2ir_of {st : List zV} {f : Int32 → Nat → List zV → Prop} (k : z2ir st f) : ∃ j a r, st = .inl j :: .inr a :: r ∧ f j a r := by
  unfold z2ir at k; split at k
  · exact ⟨_, _, _, rfl, k⟩
  · exact k.elim
theorem z2rr_of {st : List zV} {f : Nat → Nat → List zV → Prop} (k : z2rr st f) : ∃ j a r, st = .inr j :: .inr a :: r ∧ f j a r := by
  unfold z2rr at k; split at k
  · exact ⟨_, _, _, rfl, k⟩
  · exact k.elim
theorem z3i_of {st : List zV} {f : Int32 → Int32 → Nat → List zV → Prop} (k : z3i st f) : ∃ v j a r, st = .inl v :: .inl j :: .inr a :: r ∧ f v j a r := by
  unfold z3i at k; split at k
  · exact ⟨_, _, _, _, rfl, k⟩
  · exact k.elim
theorem z3r_of {st : List zV} {f : Nat → Int32 → Nat → List zV → Prop} (k : z3r st f) : ∃ v j a r, st = .inr v :: .inl j :: .inr a :: r ∧ f v j a r := by
  unfold z3r at k; split at k
  · exact ⟨_, _, _, _, rfl, k⟩
  · exact k.elim
theorem zSw_at {P : Nat → Prop} {pc : Nat} {v : Int32} : ∀ (os : List Int) (lo : Int) (i : Nat), zSw P pc v lo os → v.toInt = lo + (i : Int) → i < os.length → ∃ o, os[i]? = some o ∧ P ((pc : Int) + o).toNat
  | [], _, _, _, _, h => absurd h (Nat.not_lt_zero _)
  | o :: os, lo, 0, k, e, _ => ⟨o, rfl, k.1 (by simpa using e)⟩
  | o :: os, lo, i + 1, k, e, h => by
    obtain ⟨o', h1, h2⟩ := zSw_at os (lo + 1) i k.2 (by omega) (Nat.lt_of_succ_lt_succ h)
    exact ⟨o', by rw [List.getElem?_cons_succ]; exact h1, h2⟩
theorem zLk_at {P : Nat → Prop} {pc : Nat} {v : Int32} {d : Int} : ∀ (ps : List (Int × Int)), zLk P pc v d ps → P ((pc : Int) + Op.lookupswitch.offset ps d v.toInt).toNat
  | [], k => k
  | (a, o) :: r, k => by
    rw [Op.lookupswitch.offset_cons]
    by_cases e : a = v.toInt
    · rw [if_pos e]; exact k.1 e.symm
    · rw [if_neg e]; exact zLk_at r (k.2 (fun q => e q.symm))
theorem zLk_pos {pc : Nat} {d x : Int} (hd : 0 ≤ (pc : Int) + d) : ∀ {ps : List (Int × Int)}, ps.all (fun o => decide (0 ≤ (pc : Int) + o.2)) = true → 0 ≤ (pc : Int) + Op.lookupswitch.offset ps d x
  | [], _ => hd
  | (a, o) :: r, h => by
    rw [List.all_cons, Bool.and_eq_true] at h
    rw [Op.lookupswitch.offset_cons]
    split
    · exact of_decide_eq_true h.1
    · exact zLk_pos hd h.2
/-- what the tables say: the classes' numbers, the links of nest mates -/
def zTS (D : va_G) (s : State) : Prop := va_K D zCl [] s ∧ (∀ q ∈ zFns, va_Nw (zFnw q) s) ∧ (∀ q ∈ zMns, va_Nw (zMnw q) s) ∧ (∀ q ∈ zSns, va_Nw (zSnw q) s) ∧ ∀ q ∈ zAos, va_AO (zCn q) s
theorem zTS.warm {D : va_G} {s U : State} (hW : s.WarmedH U.vm) (h : zTS D s) : zTS D U := ⟨va_K.moved hW.alike h.1, fun q hq => va_Nw.warmF hW (h.2.1 q hq), fun q hq => va_Nw.warmM hW (h.2.2.1 q hq), fun q hq => va_Nw.warmF hW (h.2.2.2.1 q hq), fun q hq => (h.2.2.2.2 q hq).moved hW.alike⟩
theorem zTS.same {D : va_G} {s U : State} (hW : s.vm = U.vm) (h : zTS D s) : zTS D U := ⟨va_K.moved (by rw [hW]; exact Vm.Alike.refl _) h.1, fun q hq => va_Nw.same rfl hW (h.2.1 q hq), fun q hq => va_Nw.same rfl hW (h.2.2.1 q hq), fun q hq => va_Nw.same rfl hW (h.2.2.2.1 q hq), fun q hq => (h.2.2.2.2 q hq).moved (by rw [hW]; exact Vm.Alike.refl _)⟩
def zRm (d y : Nat) : Room := { frames := d, cells := zMc y, slots := zMs y, locals := 30 * d }
def zWs (y : Nat) : List Cond := Cond.code (zNm y) (zBy y) (zMl y) (zRet y) :: zAll
def zPc (D : va_G) (b t base : Nat) (as : List zV) (h : zH) : Array Value → State → Prop := fun v U => v = (as.map (zcv (zAd b t base))).toArray ∧ zTS D U ∧ zRel D b t base U h U.heap
def zQc (D : va_G) (b t base : Nat) (K : zT) : Array Value → State → Outcome → State → Prop := fun _ _ o u => ∃ (v : Option zV) (h' : zH), o = .returned (v.map (zcv (zAd b t base))) ∧ zRel D b t base u h' u.heap ∧ K v h'
theorem zPc.blind {D : va_G} {b t base : Nat} {as : List zV} {h : zH} : FrameBlind (zPc D b t base as h) := by
  intro a U g mk ⟨q1, q2, q3⟩
  exact ⟨q1, zTS.same rfl q2, zRel.moved (Vm.Alike.refl U.vm) q3⟩
section ZS
variable {p : Program} {l : Launch} {e : Env} {R : Room} {s : State} {m : MethodId} {args : Array Value} {below : List Frame} {meth : Method} {c : Code} {H : Heap} {locs : List Loc} {cells slots : Nat} {Q : State → Prop}
variable {cc : ByteArray} {pc : Nat} {ls : Array Slot} {rest : List Value} {D : va_G} {b t base : Nat} {h : zH}
theorem zPc.of {as : List zV} (hT : zTS D s) (hr : zRel D b t base s h H) : ∀ U : State, U.heap = H → s.WarmedH U.vm → zPc D b t base as h (as.map (zcv (zAd b t base))).toArray U :=
  fun U hU hW => ⟨rfl, hT.warm hW, by rw [hU]; exact hr.moved hW.alike⟩
theorem zs_obj (hr : zRel D b t base s h H) {ci : Nat} {r : vw_C} (hc : zCl[ci]? = some r) {a : Nat} (ha : zK h a = 3 + 2 * ci) : 0 < a ∧ 3 ≤ a ∧ t_OB (zAd b t base a) (D.1 ci) r.2.2 (D.2 ci) H (zFv (zAd b t base) h a ci) := by
  obtain ⟨r1, r2, r3, r4, r5, r6, r7, r8⟩ := hr
  have hlt : ci < zCl.length := (List.getElem?_eq_some_iff.mp hc).1
  have hlen : zCl.length < 40 := zCl_len
  have h0 : zK h a ≠ 0 := by omega
  have h1 : zK h a ≠ 101 := by omega
  exact ⟨(r5 a h0).1, r6 a h0 h1, (r7 a h0).2.2.2.1 ci r ha hc⟩
theorem zs_k {a kd : Nat} (hr : zRel D b t base s h H) (ha : zK h a = kd) (h0 : kd ≠ 0) : 0 < a ∧ zCell D (zAd b t base) s h a H := by
  obtain ⟨r1, r2, r3, r4, r5, r6, r7, r8⟩ := hr
  have h0 : zK h a ≠ 0 := by omega
  exact ⟨(r5 a h0).1, r7 a h0⟩
theorem zs_w {a kd : Nat} (hr : zRel D b t base s h H) (ha : zK h a = kd) (h0 : kd ≠ 0) (h1 : kd ≠ 101) : 3 ≤ a := by
  obtain ⟨r1, r2, r3, r4, r5, r6, r7, r8⟩ := hr
  exact r6 a (by omega) (by omega)
theorem zs_locs {a k : Nat} (hlo : ∀ q ∈ locs, base ≤ q.base) (ha : 3 ≤ a) : ∀ q ∈ locs ++ [⟨zAd b t base a, k⟩], base ≤ q.base := by
  intro q hq
  rcases List.mem_append.mp hq with h1 | h1
  · exact hlo q h1
  · rw [List.mem_singleton.mp h1]
    show base ≤ zAd b t base a
    rw [zAd_hi ha]; omega
/-- a field read -/
theorem zs_get (hexec : p.tables.exec = Jvm.exec) (hb : c.code = cc) (hts : ∀ w ∈ zAll, w.before args s = true) (hT : zTS D s) (hr : zRel D b t base s h H) {own : Nat} (hown : s.vm.findClass (zCn own) = some m.cls) {ci k idx a : Nat} (hci : ci < zCl.length) (hk : k < zNf ci) (hl : (own, idx, ci, k) ∈ zFls ∨ (own, idx, ci, k) ∈ zFns) (ha : zK h a = 3 + 2 * ci) (hdg : decode cc pc = .ok (.getfield idx, 3))
    (kk : W p l e R s m args below meth c H locs cells slots Q (F0 m (pc + 3) ls (zFv (zAd b t base) h a ci k :: rest))) : W p l e R s m args below meth c H locs cells slots Q (F0 m pc ls (zcv (zAd b t base) (.inr a) :: rest)) := by
  obtain ⟨C, T, N, hc, hN, hin⟩ := zCl_at hci
  rw [hN] at hk
  obtain ⟨h0, -, cell, q1, q2, q3, q4⟩ := zs_obj hr hc ha
  obtain ⟨hS, hfc, kC, hkC, hkind⟩ := hT.1.1 ci _ hc
  obtain ⟨cf, kf, fi, f, hi, hsl⟩ := hS k hk
  rw [zcv_ref h0]
  have hst := (u_facts hfc hkC (u_lays hts hin hk) hi).1
  have hv : cell.slots[f.slot]? = some (zFv (zAd b t base) h a ci k) := by rw [hsl, q4 k hk]
  rcases hl with hl | hl
  · have hlink := hts _ (zFls_ok _ hl)
    rw [zFlw_eq hc] at hlink
    exact W.getf hexec hb hown hlink hi hst q1 (by rw [q3]; exact fun h => by cases h) hv rfl rfl hdg kk
  · have hlink := va_Nw.use (A := args) rfl (hT.2.1 _ hl)
    rw [zFnw_eq hc] at hlink
    exact va_Wgetf hexec hb hown hlink hi hst q1 (by rw [q3]; exact fun h => by cases h) hv rfl rfl hdg kk
/-- a field written -/
theorem zs_put (hexec : p.tables.exec = Jvm.exec) (hb : c.code = cc) (hts : ∀ w ∈ zAll, w.before args s = true) (hT : zTS D s) (hr : zRel D b t base s h H) {own : Nat} (hown : s.vm.findClass (zCn own) = some m.cls) {ci k idx a : Nat} (hci : ci < zCl.length) (hk : k < zNf ci) (hl : (zFin ci k = false ∧ ((own, idx, ci, k) ∈ zFls ∨ (own, idx, ci, k) ∈ zFns)) ∨ (zFin ci k = true ∧ ci = own ∧ meth.name = "<init>" ∧ (own, idx, ci, k) ∈ zFls)) (ha : zK h a = 3 + 2 * ci) (hdg : decode cc pc = .ok (.putfield idx, 3))
    {v : zV} (hv : zFr ci k = v.isRight) (kk : ∀ H' : Heap, t_OB (zAd b t base a) (D.1 ci) (zNf ci) (D.2 ci) H' (updV (zFv (zAd b t base) h a ci) k (zcv (zAd b t base) v)) → H'.size = H.size → (∀ q, q ≠ zAd b t base a → H'[q]? = H[q]?) → ∀ i, W p l e R s m args below meth c H' (locs ++ [⟨zAd b t base a, i⟩]) cells slots Q (F0 m (pc + 3) ls rest)) :
    W p l e R s m args below meth c H locs cells slots Q (F0 m pc ls (zcv (zAd b t base) v :: zcv (zAd b t base) (.inr a) :: rest)) := by
  obtain ⟨C, T, N, hc, hN, hin⟩ := zCl_at hci
  rw [hN] at hk kk
  have hty := zCl_ty hc
  have hnm := zCl_nm hc
  have hap := va_apart (own := zCn own) hts hin (zTy ci) hty hnm hT.1 hc
  obtain ⟨h0, -, cell, q1, q2, q3, q4⟩ := zs_obj hr hc ha
  obtain ⟨hS, hfc, kC, hkC, hkind⟩ := hT.1.1 ci _ hc
  obtain ⟨cf, kf, fi, f, hi, hsl⟩ := hS k hk
  rw [zcv_ref h0]
  have hst := (u_facts hfc hkC (u_lays hts hin hk) hi).1
  have hlay := hts _ (hin _ (u_in_lay hk))
  unfold u_lay at hlay
  have hnf := zTy_fit (ad := zAd b t base) hc hk hv
  have hslot : f.slot < cell.slots.size := by rw [hsl]; exact k2_hasslot (q4 k hk)
  rcases hl with ⟨hfin, hl⟩ | ⟨hfin, rfl, hinit, hl⟩
  · rw [zFin_eq hc hk] at hfin
    rw [if_neg (by rw [hfin]; decide)] at hlay
    have h6 := u_store hfc hkC hkind hlay hi (hty k hk) hnf.1 hnf.2
    rcases hl with hl | hl
    · have hlink := hts _ (zFls_ok _ hl)
      rw [zFlw_eq hc] at hlink
      refine W.putK hexec hb (f := f) ⟨hown, hlink, ⟨_, _, _, hi⟩, hst⟩ (by rw [q2]; exact h6) q1 q3 hslot rfl rfl hdg fun H' e1 e2 e3 => ?_
      rw [hsl] at e1
      exact kk H' ⟨_, e1, q2, q3, t_set q4 hap hk _⟩ e2 e3 f.slot
    · have hlink := va_Nw.use (A := args) rfl (hT.2.1 _ hl)
      rw [zFnw_eq hc] at hlink
      refine va_WputK hexec hb (f := f) hown hlink hi hst (by rw [q2]; exact h6) q1 q3 hslot rfl rfl hdg fun H' e1 e2 e3 => ?_
      rw [hsl] at e1
      exact kk H' ⟨_, e1, q2, q3, t_set q4 hap hk _⟩ e2 e3 f.slot
  · rw [zFin_eq hc hk] at hfin
    rw [if_pos hfin] at hlay
    have hlink := hts _ (zFls_ok _ hl)
    rw [zFlw_eq hc] at hlink
    have hcf : m.cls = cf := by
      obtain ⟨_, _, c', _, _, _, -, -, hf', -, -, -, hown2, -⟩ := Cond.laysFinal_spec hlay
      have e1 : c' = cf := by have := hi.symm.trans hf'; simp at this; exact this.1.symm
      rw [zFd_own hc hk] at hown2
      rw [← e1]; exact Option.some.inj (hown.symm.trans hown2)
    have h6 := u_fits hfc hkC hkind (Or.inr hlay) hi (hty k hk) hnf.1 hnf.2
    refine W.putFinK hexec hb hown hlink hi hst hcf hinit (by rw [q2]; exact h6) q1 q3 hslot rfl rfl hdg fun H' e1 e2 e3 => ?_
    rw [hsl] at e1
    exact kk H' ⟨_, e1, q2, q3, t_set q4 hap hk _⟩ e2 e3 f.slot
/-- a call's way back -/
theorem zs_call {mc ms : Nat} {st0 : List Value} {K : zT} {a : Array Value} (hr : va_Run p l e R s m args below meth c H locs cells slots mc ms (F0 m pc ls st0) rest (zQc D b t base K a) (fun q => base ≤ q)) (hlo : ∀ q ∈ locs, base ≤ q.base)
    (kk : ∀ (v : Option zV) (h' : zH) (H1 : Heap) (locs1 : List Loc), K v h' → zRel D b t base s h' H1 → (∀ q ∈ locs1, base ≤ q.base) → W p l e R s m args below meth c H1 locs1 (cells + mc) (slots + ms) Q (F0 m (pc + 3) ls ((v.map (zcv (zAd b t base))).toList ++ rest))) : W p l e R s m args below meth c H locs cells slots Q (F0 m pc ls st0) := by
  intro T hT X
  obtain ⟨v, st₀, u, T', L, h0, X', hL, e1, e2, ⟨w, h', hv, hrel, hk⟩, st⟩ := hr T hT X
  have hv' : v = w.map (zcv (zAd b t base)) := by cases hv; rfl
  subst hv'
  have hal : u.vm.Alike s.vm := by rw [← e2]; exact X'.warmed.alike.symm
  obtain ⟨t2, a1, b1⟩ := kk w h' T'.heap (locs ++ L) hk (by rw [e1]; exact hrel.moved hal) (fun q hq => by
    rcases List.mem_append.mp hq with h1 | h1
    · exact hlo q h1
    · exact hL q h1) T' rfl X'
  exact ⟨t2, st t2 a1, b1⟩
end ZS
end
section
def zPW (p : Program) (l : Launch) (e : Env) (R : Room) (s : State) (m : MethodId) (args : Array Value) (below : List Frame) (meth : Method) (c : Code) (D : va_G) (b t base nL mc ms : Nat) (Q : State → Prop) : zP := fun cu su pc ls st h =>
  cu ≤ mc → su ≤ ms → ls.length = nL → ∀ (H : Heap) (locs : List Loc) (lsR : Array Slot), zRel D b t base s h H → lv_has lsR nL (zLv (zAd b t base) ls) → (∀ q ∈ locs, base ≤ q.base) → W p l e R s m args below meth c H locs cu su Q (F0 m pc lsR (st.map (zcv (zAd b t base))))
/-- where a method's body is walked -/
def zCtx (y d : Nat) (p : Program) (R : Room) (s : State) (m : MethodId) (args : Array Value) (meth : Method) (c : Code) (D : va_G) : Prop :=
  p.tables.exec = Jvm.exec ∧ c.code = zBy y ∧ c.maxLocals = zMl y ∧ s.vm.findClass (zCn (zOn y)) = some m.cls ∧ (∀ w ∈ zAll, w.before args s = true) ∧ zTS D s ∧ meth.name = (zNm y).name ∧ d + 1 ≤ R.frames ∧ 30 * d + 30 ≤ R.locals ∧ (zTab y).2.2.1 ≤ R.cells ∧ (zTab y).2.2.2 ≤ R.slots ∧ zChkL y 0 (zTab y).1 = true
theorem zcats (ad : Nat → Nat) : ∀ r : List zV, ((r.map (zcv ad)).map fun v => v.category).sum = r.length
  | [] => rfl
  | v :: r => by
    show (zcv ad v).category + ((r.map (zcv ad)).map fun v => v.category).sum = r.length + 1
    rw [zcats ad r, zcv_cat]; omega
theorem zGd_in {L : List Cond} (h : ∀ w ∈ L, w ∈ zAll) : GoodIn zAll L := fun w hw => ⟨h w hw, zAll_good w (h w hw)⟩
theorem zWs_in {x : Nat} (hx : Cond.code (zNm x) (zBy x) (zMl x) (zRet x) ∈ zAll) : ∀ w ∈ zWs x, w ∈ zAll := by
  intro w hw
  rcases List.mem_cons.mp hw with rfl | h
  · exact hx
  · exact h
section ZN
variable {p : Program} {l : Launch} {e : Env} {R : Room} {s : State} {m : MethodId} {args : Array Value} {below : List Frame} {meth : Method} {c : Code} {Q : State → Prop} {D : va_G} {b t base y d : Nat} {call : zCall} {K : zT}
set_option maxHeartbeats 40000000 in
set_option maxRecDepth 100000 in
theorem zSnd (C0 : zCtx y d p R s m args meth c D)
    (hcall : ∀ x as h Q', call x as h Q' → Met l (zNm x) (zWs x) (zRm d x) (zPc D b t base as h) (zQc D b t base Q') (zMc x) (zMs x) (fun q => base ≤ q))
    (hI : ∀ (cu su pc : Nat) (h : zH) (H : Heap) (locs : List Loc) (lsR : Array Slot) (v : Int32), decode (zBy y) pc = .ok (.ireturn, 1) → cu ≤ (zTab y).2.2.1 → su ≤ (zTab y).2.2.2 → K (some (.inl v)) h → ((zTab y).2.1 = 0 ∨ (zTab y).2.1 = 1 ∧ (v = 0 ∨ v = 1)) → zRel D b t base s h H → (∀ q ∈ locs, base ≤ q.base) → W p l e R s m args below meth c H locs cu su Q (F0 m pc lsR [.int v]))
    (hV : ∀ (cu su pc : Nat) (h : zH) (H : Heap) (locs : List Loc) (lsR : Array Slot), decode (zBy y) pc = .ok (.return_, 1) → cu ≤ (zTab y).2.2.1 → su ≤ (zTab y).2.2.2 → K none h → (zTab y).2.1 = 2 → zRel D b t base s h H → (∀ q ∈ locs, base ≤ q.base) → W p l e R s m args below meth c H locs cu su Q (F0 m pc lsR []))
    (cu su pc : Nat) (ls : List (Option zV)) (st : List zV) (h : zH) (k : zStep (zTab y) call (zPW p l e R s m args below meth c D b t base (zMl y) (zTab y).2.2.1 (zTab y).2.2.2 Q) K cu su pc ls st h) :
    zPW p l e R s m args below meth c D b t base (zMl y) (zTab y).2.2.1 (zTab y).2.2.2 Q cu su pc ls st h := by
  obtain ⟨hx, hb, hml, hown, hts, hT, hnm, hRf, hRl, hRc, hRs, hok⟩ := C0
  unfold zStep at k
  split at k
  case h_2 => exact k.elim
  case h_1 i n x yy z c0 heq =>
    have hg := zChkL_at _ 0 pc hok heq
    rw [Nat.zero_add] at hg
    unfold zChk at hg
    rw [Bool.and_eq_true] at hg
    obtain ⟨hd0, hg⟩ := hg
    have hd : decode (zBy y) pc = .ok (i, n) := zDec_of hd0
    clear hd0
    intro hc hs hl H locs lsR hr hL hlo
    have hsz : lsR.size = zMl y := hL.1
    cases i
    case iconst v =>
      simp only [Bool.and_eq_true, decide_eq_true_eq] at hg
      obtain ⟨rfl, hg⟩ := hg
      exact lv_iconst hx hb hd hg (k hc hs hl H locs lsR hr hL hlo)
    case bipush v =>
      simp only [Bool.and_eq_true, decide_eq_true_eq] at hg
      obtain ⟨rfl, hg⟩ := hg
      exact lv_bipush hx hb hd hg (k hc hs hl H locs lsR hr hL hlo)
    case sipush v =>
      simp only [Bool.and_eq_true, decide_eq_true_eq] at hg
      obtain ⟨rfl, hg⟩ := hg
      exact lv_sipush hx hb hd hg (k hc hs hl H locs lsR hr hL hlo)
    case ldc v =>
      simp only [Bool.and_eq_true, decide_eq_true_eq] at hg
      obtain ⟨rfl, hg⟩ := hg
      exact lv_ldc hx hb hown (hts _ (zCs_ok _ hg)) hd (k hc hs hl H locs lsR hr hL hlo)
    case iload_n j =>
      simp only [decide_eq_true_eq] at hg
      subst hg
      obtain ⟨v, hv, k⟩ := zGi_of k
      exact lv_iload_n hx hb hd rfl (zLv_at hL hv) (k hc hs hl H locs lsR hr hL hlo)
    case iload j =>
      simp only [decide_eq_true_eq] at hg
      subst hg
      obtain ⟨v, hv, k⟩ := zGi_of k
      exact lv_iload hx hb hd (zLv_at hL hv) (k hc hs hl H locs lsR hr hL hlo)
    case aload_n j =>
      simp only [decide_eq_true_eq] at hg
      subst hg
      obtain ⟨v, hv, k⟩ := zGr_of k
      have hat := zLv_at hL hv
      have k := k hc hs hl H locs lsR hr hL hlo
      rw [List.map_cons] at k
      by_cases h0 : 0 < v
      · rw [zcv_ref h0] at hat k
        exact lv_aload_n hx hb hd rfl hat k
      · rw [zcv_null h0] at hat k
        exact lv_aload_nN hx hb hd rfl hat k
    case aload j =>
      simp only [decide_eq_true_eq] at hg
      subst hg
      obtain ⟨v, hv, k⟩ := zGr_of k
      have hat := zLv_at hL hv
      have k := k hc hs hl H locs lsR hr hL hlo
      rw [List.map_cons] at k
      by_cases h0 : 0 < v
      · rw [zcv_ref h0] at hat k
        exact lv_aload hx hb hd hat k
      · rw [zcv_null h0] at hat k
        exact lv_aloadN hx hb hd hat k
    case istore_n j =>
      simp only [decide_eq_true_eq] at hg
      subst hg
      obtain ⟨v, r, rfl, k⟩ := z1i_of k
      obtain ⟨hlt, k⟩ := zSt_of k
      exact lv_istore_n hx hb hd rfl hL (by rw [← hl]; exact hlt) rfl (fun ls' hL' => k hc hs (by rw [List.length_set]; exact hl) H locs ls' hr (zLv_set (v := .inl v) hlt hL') hlo)
    case istore j =>
      simp only [decide_eq_true_eq] at hg
      subst hg
      obtain ⟨v, r, rfl, k⟩ := z1i_of k
      obtain ⟨hlt, k⟩ := zSt_of k
      exact lv_istore hx hb hd hL (by rw [← hl]; exact hlt) rfl (fun ls' hL' => k hc hs (by rw [List.length_set]; exact hl) H locs ls' hr (zLv_set (v := .inl v) hlt hL') hlo)
    case astore_n j =>
      simp only [decide_eq_true_eq] at hg
      subst hg
      obtain ⟨v, r, rfl, k⟩ := z1r_of k
      obtain ⟨hlt, k⟩ := zSt_of k
      rw [List.map_cons]
      by_cases h0 : 0 < v
      · rw [zcv_ref h0]
        exact lv_astore_n hx hb hd rfl hL (by rw [← hl]; exact hlt) rfl (fun ls' hL' => k hc hs (by rw [List.length_set]; exact hl) H locs ls' hr (zLv_set (v := .inr v) hlt (by rw [zcv_ref h0]; exact hL')) hlo)
      · rw [zcv_null h0]
        exact lv_astore_nN hx hb hd rfl hL (by rw [← hl]; exact hlt) rfl (fun ls' hL' => k hc hs (by rw [List.length_set]; exact hl) H locs ls' hr (zLv_set (v := .inr v) hlt (by rw [zcv_null h0]; exact hL')) hlo)
    case astore j =>
      simp only [decide_eq_true_eq] at hg
      subst hg
      obtain ⟨v, r, rfl, k⟩ := z1r_of k
      obtain ⟨hlt, k⟩ := zSt_of k
      rw [List.map_cons]
      by_cases h0 : 0 < v
      · rw [zcv_ref h0]
        exact lv_astore hx hb hd hL (by rw [← hl]; exact hlt) rfl (fun ls' hL' => k hc hs (by rw [List.length_set]; exact hl) H locs ls' hr (zLv_set (v := .inr v) hlt (by rw [zcv_ref h0]; exact hL')) hlo)
      · rw [zcv_null h0]
        exact lv_astoreN hx hb hd hL (by rw [← hl]; exact hlt) rfl (fun ls' hL' => k hc hs (by rw [List.length_set]; exact hl) H locs ls' hr (zLv_set (v := .inr v) hlt (by rw [zcv_null h0]; exact hL')) hlo)
    case iinc j o =>
      simp only [Bool.and_eq_true, decide_eq_true_eq] at hg
      obtain ⟨rfl, hg⟩ := hg
      obtain ⟨v, hv, k⟩ := zGi_of k
      obtain ⟨hlt, k⟩ := zSt_of k
      obtain ⟨q, hq⟩ := List.getElem?_of_mem (zLv_mem (ad := zAd b t base) hv)
      exact lv_iinc hx hb hd hL hq (by rw [hg]) (by rw [← hl]; exact hlt) rfl (fun ls' hL' => k hc hs (by rw [List.length_set]; exact hl) H locs ls' hr (zLv_set (v := .inl (v + c0)) hlt hL') hlo)
    case iadd =>
      simp only [decide_eq_true_eq] at hg
      subst hg
      obtain ⟨a, a', r, rfl, k⟩ := z2i_of k
      exact lv_iadd hx hb hd (k hc hs hl H locs lsR hr hL hlo)
    case isub =>
      simp only [decide_eq_true_eq] at hg
      subst hg
      obtain ⟨a, a', r, rfl, k⟩ := z2i_of k
      exact lv_isub hx hb hd (k hc hs hl H locs lsR hr hL hlo)
    case imul =>
      simp only [decide_eq_true_eq] at hg
      subst hg
      obtain ⟨a, a', r, rfl, k⟩ := z2i_of k
      exact lv_imul hx hb hd (k hc hs hl H locs lsR hr hL hlo)
    case iand =>
      simp only [decide_eq_true_eq] at hg
      subst hg
      obtain ⟨a, a', r, rfl, k⟩ := z2i_of k
      exact lv_iand hx hb hd (k hc hs hl H locs lsR hr hL hlo)
    case idiv =>
      simp only [decide_eq_true_eq] at hg
      subst hg
      obtain ⟨a, a', r, rfl, h0, k⟩ := z2i_of k
      exact lv_idiv hx hb hd h0 (k hc hs hl H locs lsR hr hL hlo)
    case irem =>
      simp only [decide_eq_true_eq] at hg
      subst hg
      obtain ⟨a, a', r, rfl, h0, k⟩ := z2i_of k
      exact lv_irem hx hb hd h0 (k hc hs hl H locs lsR hr hL hlo)
    case dup =>
      simp only [decide_eq_true_eq] at hg
      subst hg
      cases st with
      | nil => exact k.elim
      | cons v r => exact lv_dup hx hb hd (zcv_cat _ _) (k hc hs hl H locs lsR hr hL hlo)
    case dup2 =>
      simp only [decide_eq_true_eq] at hg
      subst hg
      cases st with
      | nil => exact k.elim
      | cons v r => cases r with
        | nil => exact k.elim
        | cons w r => exact lv_dup2_11 hx hb hd (zcv_cat _ _) (zcv_cat _ _) (k hc hs hl H locs lsR hr hL hlo)
    case if_icmp q o =>
      simp only [Bool.and_eq_true, decide_eq_true_eq] at hg
      obtain ⟨rfl, hg⟩ := hg
      cases q with
      | eq =>
        obtain ⟨a, a', r, rfl, k⟩ := z2i_of k
        exact lv_icmp_eq hx hb hd hg (fun q => k.1 q hc hs hl H locs lsR hr hL hlo) (fun q => k.2 q hc hs hl H locs lsR hr hL hlo)
      | ne =>
        obtain ⟨a, a', r, rfl, k⟩ := z2i_of k
        exact lv_icmp_ne hx hb hd hg (fun q => k.1 q hc hs hl H locs lsR hr hL hlo) (fun q => k.2 q hc hs hl H locs lsR hr hL hlo)
      | lt =>
        obtain ⟨a, a', r, rfl, k⟩ := z2i_of k
        exact lv_icmp_lt hx hb hd hg (fun q => k.1 q hc hs hl H locs lsR hr hL hlo) (fun q => k.2 q hc hs hl H locs lsR hr hL hlo)
      | ge =>
        obtain ⟨a, a', r, rfl, k⟩ := z2i_of k
        exact lv_icmp_ge hx hb hd hg (fun q => k.1 q hc hs hl H locs lsR hr hL hlo) (fun q => k.2 q hc hs hl H locs lsR hr hL hlo)
      | gt =>
        obtain ⟨a, a', r, rfl, k⟩ := z2i_of k
        exact lv_icmp_gt hx hb hd hg (fun q => k.1 q hc hs hl H locs lsR hr hL hlo) (fun q => k.2 q hc hs hl H locs lsR hr hL hlo)
      | le =>
        obtain ⟨a, a', r, rfl, k⟩ := z2i_of k
        exact lv_icmp_le hx hb hd hg (fun q => k.1 q hc hs hl H locs lsR hr hL hlo) (fun q => k.2 q hc hs hl H locs lsR hr hL hlo)
    case ifCond q o =>
      simp only [Bool.and_eq_true, decide_eq_true_eq] at hg
      obtain ⟨rfl, hg⟩ := hg
      cases q with
      | eq =>
        obtain ⟨a, r, rfl, k⟩ := z1i_of k
        exact lv_if_eq hx hb hd hg (fun q => k.1 q hc hs hl H locs lsR hr hL hlo) (fun q => k.2 q hc hs hl H locs lsR hr hL hlo)
      | ne =>
        obtain ⟨a, r, rfl, k⟩ := z1i_of k
        exact lv_if_ne hx hb hd hg (fun q => k.1 q hc hs hl H locs lsR hr hL hlo) (fun q => k.2 q hc hs hl H locs lsR hr hL hlo)
      | lt =>
        obtain ⟨a, r, rfl, k⟩ := z1i_of k
        exact lv_if_lt hx hb hd hg (fun q => k.1 q hc hs hl H locs lsR hr hL hlo) (fun q => k.2 q hc hs hl H locs lsR hr hL hlo)
      | ge =>
        obtain ⟨a, r, rfl, k⟩ := z1i_of k
        exact lv_if_ge hx hb hd hg (fun q => k.1 q hc hs hl H locs lsR hr hL hlo) (fun q => k.2 q hc hs hl H locs lsR hr hL hlo)
      | gt =>
        obtain ⟨a, r, rfl, k⟩ := z1i_of k
        exact lv_if_gt hx hb hd hg (fun q => k.1 q hc hs hl H locs lsR hr hL hlo) (fun q => k.2 q hc hs hl H locs lsR hr hL hlo)
      | le =>
        obtain ⟨a, r, rfl, k⟩ := z1i_of k
        exact lv_if_le hx hb hd hg (fun q => k.1 q hc hs hl H locs lsR hr hL hlo) (fun q => k.2 q hc hs hl H locs lsR hr hL hlo)
    case goto o =>
      simp only [Bool.and_eq_true, decide_eq_true_eq] at hg
      obtain ⟨rfl, hg⟩ := hg
      exact lv_goto hx hb hd hg (k hc hs hl H locs lsR hr hL hlo)
    case getfield j =>
      simp only [Bool.and_eq_true, decide_eq_true_eq] at hg
      obtain ⟨rfl, hci, hxe, hkN, hfr, hlk⟩ := hg
      obtain ⟨a, r, rfl, ha, k⟩ := z1r_of k
      refine zs_get hx hb hts hT hr hown hci hkN hlk (by rw [ha]; exact hxe) hd ?_
      cases z with
      | zero =>
        unfold zFv
        rw [if_neg (by rw [hfr]; decide)]
        exact k hc hs hl H locs lsR hr hL hlo
      | succ z =>
        unfold zFv
        rw [if_pos (by rw [hfr]; exact decide_eq_true (Nat.succ_ne_zero z))]
        exact k hc hs hl H locs lsR hr hL hlo
    case putfield j =>
      simp only [Bool.and_eq_true, decide_eq_true_eq] at hg
      obtain ⟨rfl, hci, hxe, hkN, hfr, hlk⟩ := hg
      rw [← hnm] at hlk
      obtain ⟨C, T, N, hcl, hN, -⟩ := zCl_at hci
      cases z with
      | zero =>
        obtain ⟨v, a, r, rfl, ha, k⟩ := z2ir_of k
        have ha' := ha.trans hxe
        refine zs_put hx hb hts hT hr hown hci hkN hlk ha' hd (v := .inl v) (by rw [hfr]; rfl) (fun H' e1 e2 e3 i => k _ rfl hc hs hl H' _ lsR ?_ hL (zs_locs hlo (zs_obj hr hcl ha').2.1))
        refine hr.upd (zs_obj hr hcl ha').2.1 (fun _ => rfl) (fun _ => rfl) rfl (fun _ q => zwI_ne q) (fun _ _ => rfl) e2 e3 (zCell_obj hcl ha' ?_)
        rw [hN] at e1
        refine e1.to (fun j' _ => ?_)
        unfold updV zFv
        by_cases hj : j' = yy
        · rw [if_pos hj, hj, if_neg (by rw [hfr]; decide), zI_wI, if_pos ⟨rfl, rfl⟩]; rfl
        · have e9 : zI (zwI h a yy v) a j' = zI h a j' := by rw [zI_wI, if_neg (fun q => hj q.2)]
          rw [if_neg hj, e9]; rfl
      | succ z =>
        obtain ⟨v, a, r, rfl, ha, k⟩ := z2rr_of k
        have ha' := ha.trans hxe
        have hfr' : zFr ((x - 3) / 2) yy = true := by rw [hfr]; exact decide_eq_true (Nat.succ_ne_zero z)
        refine zs_put hx hb hts hT hr hown hci hkN hlk ha' hd (v := .inr v) hfr' (fun H' e1 e2 e3 i => k _ rfl hc hs hl H' _ lsR ?_ hL (zs_locs hlo (zs_obj hr hcl ha').2.1))
        refine hr.upd (zs_obj hr hcl ha').2.1 (fun _ => rfl) (fun _ => rfl) rfl (fun _ _ => rfl) (fun _ q => zwR_ne q) e2 e3 (zCell_obj hcl ha' ?_)
        rw [hN] at e1
        refine e1.to (fun j' _ => ?_)
        unfold updV zFv
        by_cases hj : j' = yy
        · rw [if_pos hj, hj, if_pos hfr', zR_wR, if_pos ⟨rfl, rfl⟩]
        · have e9 : zR (zwR h a yy v) a j' = zR h a j' := by rw [zR_wR, if_neg (fun q => hj q.2)]
          rw [if_neg hj, e9]; rfl
    case getstatic j =>
      simp only [Bool.and_eq_true, decide_eq_true_eq] at hg
      obtain ⟨rfl, rfl, hg⟩ := hg
      obtain ⟨cf, kf, fi, f, a0, cell, h1, h2, h3, h4, h5, h6, h7, h8⟩ := hr.2.2.2.2.2.2.2
      rcases hg with hg | hg
      · exact W.gets hx hb hown (hts _ (zSls_ok _ hg)) h1 h2 h3 h4 h5 (fun e => by rw [e] at h6; cases h6) h7 rfl hd (k hc hs hl H locs lsR hr hL hlo)
      · exact va_WgetsN hx hb hown (va_Nw.use (A := args) rfl (hT.2.2.2.1 _ hg)) h1 h2 h3 h4 h5 (fun e => by rw [e] at h6; cases h6) h7 rfl hd (k hc hs hl H locs lsR hr hL hlo)
    case iaload =>
      simp only [decide_eq_true_eq] at hg
      subst hg
      obtain ⟨j, a, r, rfl, hk, hin, k⟩ := z2ir_of k
      have hlt : j.toNatClampNeg < zL h a := Nat.not_le.mp fun q => hin (Or.inr q)
      rw [List.map_cons, List.map_cons]
      rcases hk with hk | hk
      · obtain ⟨h0, cl⟩ := zs_k hr hk (by decide)
        obtain ⟨cA, q1, q2⟩ := cl.1 hk
        rw [zcv_ref h0]
        exact W.iald (v := .int (zI h a j.toNatClampNeg)) hx hb q1 (q2 _ _) (fun q => by cases q) (by rw [arrV_size]; exact hin) (arrV_read _ _ hlt) rfl rfl hd (k hc hs hl H locs lsR hr hL hlo)
      · obtain ⟨h0, cl⟩ := zs_k hr hk (by decide)
        obtain ⟨cell, q1, q2, q3, q4, q5, q6⟩ := cl.2.2.1 hk
        rw [zcv_ref h0]
        exact W.iald (v := .int (zI h a j.toNatClampNeg)) hx hb q1 q2 q3 (fun q => hin (q.imp id (fun z => Nat.le_trans q4 z))) (q6 _ hlt) rfl rfl hd (k hc hs hl H locs lsR hr hL hlo)
    case baload =>
      simp only [decide_eq_true_eq] at hg
      subst hg
      obtain ⟨j, a, r, rfl, hk, hin, k⟩ := z2ir_of k
      have hlt : j.toNatClampNeg < zL h a := Nat.not_le.mp fun q => hin (Or.inr q)
      rw [List.map_cons, List.map_cons]
      obtain ⟨h0, cl⟩ := zs_k hr hk (by decide)
      obtain ⟨cA, q1, q2⟩ := cl.2.1 hk
      rw [zcv_ref h0]
      exact W.zald (v := .int (zI h a j.toNatClampNeg)) hx hb q1 (q2 _ _) (fun q => by cases q) (by rw [arrV_size]; exact hin) (arrV_read _ _ hlt) rfl rfl hd (k hc hs hl H locs lsR hr hL hlo)
    case aaload =>
      simp only [Bool.and_eq_true, decide_eq_true_eq] at hg
      obtain ⟨rfl, hci, hxe⟩ := hg
      obtain ⟨C, T, N, hcl, hN, -⟩ := zCl_at hci
      obtain ⟨j, a, r, rfl, hk, hin, k⟩ := z2ir_of k
      have hlt : j.toNatClampNeg < zL h a := Nat.not_le.mp fun q => hin (Or.inr q)
      rw [List.map_cons, List.map_cons]
      have hk' := hk.trans hxe
      obtain ⟨h0, cl⟩ := zs_k hr hk' (by omega)
      obtain ⟨cA, kA, comp, q1, q2, q3, q4⟩ := cl.2.2.2.2 _ _ hk' hcl
      rw [zcv_ref h0]
      exact W.aald (v := zcv (zAd b t base) (.inr (zR h a j.toNatClampNeg))) (ty := .object C) hx hb q1 ⟨(fun _ q => by cases q), kA, q2, comp, q3⟩ rfl (fun q => by cases q) (by rw [arrV_size]; exact hin) (arrV_read _ _ hlt) rfl rfl hd (k hc hs hl H locs lsR hr hL hlo)
    case iastore =>
      simp only [decide_eq_true_eq] at hg
      subst hg
      obtain ⟨v, j, a, r, rfl, hk, hin, k⟩ := z3i_of k
      have h3 := zs_w hr hk (by decide) (by decide)
      obtain ⟨h0, cl⟩ := zs_k hr hk (by decide)
      obtain ⟨cA, q1, q2⟩ := cl.1 hk
      rw [List.map_cons, List.map_cons, List.map_cons, zcv_ref h0]
      refine W.iast hx hb q1 (q2 _ _) (fun q => by cases q) (by rw [arrV_size]; exact hin) rfl rfl hd fun H' e1 e2 e3 => k _ rfl hc hs hl H' _ lsR ?_ hL (zs_locs hlo h3)
      refine hr.upd h3 (fun _ => rfl) (fun _ => rfl) rfl (fun _ q => zwI_ne q) (fun _ _ => rfl) e2 e3 (zCell_1 hk ⟨cA, ?_, q2⟩)
      rw [e1, arrV_store]
      congr 2
      funext q
      show updV _ _ _ _ = Value.int (zI (zwI h a _ v) a q)
      rw [zI_wI]
      unfold updV
      by_cases hq : q = j.toNatClampNeg
      · rw [if_pos hq, if_pos ⟨rfl, hq⟩]
      · rw [if_neg hq, if_neg (fun z => hq z.2)]
    case bastore =>
      simp only [decide_eq_true_eq] at hg
      subst hg
      obtain ⟨v, j, a, r, rfl, hk, hin, k⟩ := z3i_of k
      have h3 := zs_w hr hk (by decide) (by decide)
      obtain ⟨h0, cl⟩ := zs_k hr hk (by decide)
      obtain ⟨cA, q1, q2⟩ := cl.2.1 hk
      rw [List.map_cons, List.map_cons, List.map_cons, zcv_ref h0]
      refine W.zast hx hb q1 (q2 _ _) (fun q => by cases q) (by rw [arrV_size]; exact hin) rfl rfl hd fun H' e1 e2 e3 => k _ rfl hc hs hl H' _ lsR ?_ hL (zs_locs hlo h3)
      refine hr.upd h3 (fun _ => rfl) (fun _ => rfl) rfl (fun _ q => zwI_ne q) (fun _ _ => rfl) e2 e3 (zCell_2 hk ⟨cA, ?_, q2⟩)
      rw [e1, arrV_store]
      congr 2
      funext q
      show updV _ _ _ _ = Value.int (zI (zwI h a _ _) a q)
      rw [zI_wI]
      unfold updV
      by_cases hq : q = j.toNatClampNeg
      · rw [if_pos hq, if_pos ⟨rfl, hq⟩]
        rfl
      · rw [if_neg hq, if_neg (fun z => hq z.2)]
    case aastore =>
      simp only [Bool.and_eq_true, decide_eq_true_eq] at hg
      obtain ⟨rfl, hci, hxe, hye⟩ := hg
      obtain ⟨C, T, N, hcl, hN, -⟩ := zCl_at hci
      obtain ⟨v, j, a, r, rfl, hk, hkb, hin, k⟩ := z3r_of k
      have hk' := hk.trans hxe
      have hkb' : zK h v = 3 + 2 * ((x - 4) / 2) := by omega
      have hlen : zCl.length < 40 := zCl_len
      have h3 := zs_w hr hk' (by omega) (by omega)
      obtain ⟨h0, cl⟩ := zs_k hr hk' (by omega)
      obtain ⟨cA, kA, comp, q1, q2, q3, q4⟩ := cl.2.2.2.2 _ _ hk' hcl
      obtain ⟨hv0, -, cv, g1, g2, g3, g4⟩ := zs_obj hr hcl hkb'
      obtain ⟨hS, hfc, kC, hkC, hkind⟩ := hT.1.1 _ _ hcl
      have hcomp : comp = D.1 ((x - 4) / 2) := Option.some.inj (q4.symm.trans hfc)
      subst hcomp
      rw [List.map_cons, List.map_cons, List.map_cons, zcv_ref h0, zcv_ref hv0]
      refine W.aast hx hb q1 (fun _ q => by cases q) (fun q => by cases q) q2 q3 rfl hkC (by rw [arrV_size]; exact ⟨fun q => hin (Or.inl q), Nat.not_le.mp fun q => hin (Or.inr q)⟩) g1 (fun _ q => by rw [g3] at q; cases q) (by rw [g2]; exact hkC) (by rw [g2]; exact va_assign ⟨hfc, kC, hkC, hkind⟩) rfl rfl hd fun H' e1 e2 e3 => k _ rfl hc hs hl H' _ lsR ?_ hL (zs_locs hlo h3)
      refine hr.upd h3 (fun _ => rfl) (fun _ => rfl) rfl (fun _ _ => rfl) (fun _ q => zwR_ne q) e2 e3 (zCell_r hcl hk' ⟨cA, kA, _, ?_, q2, q3, q4⟩)
      rw [e1, arrV_store]
      congr 2
      funext q
      show updV _ _ _ _ = zcv (zAd b t base) (.inr (zR (zwR h a _ v) a q))
      rw [zR_wR]
      unfold updV
      by_cases hq : q = j.toNatClampNeg
      · rw [if_pos hq, if_pos ⟨rfl, hq⟩, zcv_ref hv0]
      · rw [if_neg hq, if_neg (fun z => hq z.2)]
    case arraylength =>
      simp only [Bool.and_eq_true, Bool.or_eq_true, decide_eq_true_eq] at hg
      obtain ⟨rfl, hg⟩ := hg
      obtain ⟨a, r, rfl, hk, k⟩ := z1r_of k
      rw [List.map_cons]
      rcases hg with h9 | h9 | ⟨hci, hxe⟩
      · rw [h9] at hk
        obtain ⟨h0, cl⟩ := zs_k hr hk (by decide)
        obtain ⟨cA, q1, q2⟩ := cl.1 hk
        rw [zcv_ref h0]
        exact W.alen (n := nI (zL h a)) hx hb q1 (q2 _ _) (by rw [arrV_size] <;> rfl) rfl rfl hd (k hc hs hl H locs lsR hr hL hlo)
      · rw [h9] at hk
        obtain ⟨h0, cl⟩ := zs_k hr hk (by decide)
        obtain ⟨cell, q1, q2, q3, q4, q5, q6⟩ := cl.2.2.1 hk
        rw [zcv_ref h0]
        exact W.alen (n := nI (zL h a)) hx hb q1 q2 q5 rfl rfl hd (k hc hs hl H locs lsR hr hL hlo)
      · obtain ⟨C, T, N, hcl, hN, -⟩ := zCl_at hci
        have hk' := hk.trans hxe
        obtain ⟨h0, cl⟩ := zs_k hr hk' (by omega)
        obtain ⟨cA, kA, comp, q1, q2, q3, q4⟩ := cl.2.2.2.2 _ _ hk' hcl
        rw [zcv_ref h0]
        exact W.alen (n := nI (zL h a)) (ty := .object C) hx hb q1 ⟨(fun _ q => by cases q), kA, q2, comp, q3⟩ (by rw [arrV_size] <;> rfl) rfl rfl hd (k hc hs hl H locs lsR hr hL hlo)
    case newarray ty =>
      simp only [Bool.and_eq_true, decide_eq_true_eq] at hg
      obtain ⟨rfl, hg⟩ := hg
      have hN := hr.2.2.2.1
      have h3 := hr.2.2.1
      have had : H.size = zAd b t base (zN h) := by rw [zAd_hi h3]; exact hN
      rcases hg with ⟨rfl, rfl⟩ | ⟨rfl, rfl⟩
      all_goals obtain ⟨v, r, rfl, hv0, hv1, hc1, hs1, k9⟩ := z1i_of k
      · refine W.newaK (atype := .int) hx hb (hts _ zw_aI) rfl hd rfl hv0 rfl (Nat.le_trans (Nat.mul_le_mul_right _ hv1) (by decide)) (Nat.le_trans hc1 hRc) (Nat.le_trans hs1 hRs) rfl fun H' cA e1 e2 e3 e4 => ?_
        have k := k9 _ rfl hc1 hs1 hl H' locs lsR (hr.new (by decide) e2 e3 (zCell_1 (by rw [zK_new, if_pos rfl]) ⟨cA, ?_, e4⟩)) hL hlo
        · rw [List.map_cons, zcv_ref (by omega), ← had] at k
          exact k
        · rw [← had, e1, zL_new, if_pos rfl]
          congr 2
          funext q
          rw [zI_new, if_pos rfl]; rfl
      · refine W.newaK (atype := .boolean) hx hb (hts _ zw_aZ) rfl hd rfl hv0 rfl (Nat.le_trans (Nat.mul_le_mul_right _ hv1) (by decide)) (Nat.le_trans hc1 hRc) (Nat.le_trans hs1 hRs) rfl fun H' cA e1 e2 e3 e4 => ?_
        have k := k9 _ rfl hc1 hs1 hl H' locs lsR (hr.new (by decide) e2 e3 (zCell_2 (by rw [zK_new, if_pos rfl]) ⟨cA, ?_, e4⟩)) hL hlo
        · rw [List.map_cons, zcv_ref (by omega), ← had] at k
          exact k
        · rw [← had, e1, zL_new, if_pos rfl]
          congr 2
          funext q
          rw [zI_new, if_pos rfl]; rfl
    case anewarray j =>
      simp only [Bool.and_eq_true, decide_eq_true_eq] at hg
      obtain ⟨rfl, hci, hxe, hlk⟩ := hg
      obtain ⟨C, T, N, hcl, hN', -⟩ := zCl_at hci
      obtain ⟨v, r, rfl, hv0, hv1, hc1, hs1, k⟩ := z1i_of k
      have hN := hr.2.2.2.1
      have h3 := hr.2.2.1
      have had : H.size = zAd b t base (zN h) := by rw [zAd_hi h3]; exact hN
      obtain ⟨w1, w2⟩ := zNas_ok _ hlk
      have w1 := hts _ w1
      have w2 := hT.2.2.2.2 _ w2
      rw [zCn_eq hcl] at w1 w2
      refine W.anew hx hb hown w1 (va_AO.use w2) rfl hd rfl hv0 (Nat.le_trans (Nat.mul_le_mul_right _ hv1) (by decide)) (Nat.le_trans hc1 hRc) (Nat.le_trans hs1 hRs) fun cA kA comp g1 g2 g3 g4 => ?_
      have k := k _ rfl hc1 hs1 hl _ locs lsR (hr.new (H' := H.push { cls := cA, slots := Array.replicate v.toNatClampNeg .null, vm := .none }) (by omega) (by simp) (fun q hq => by rw [Array.getElem?_push, if_neg (Nat.ne_of_lt hq)]) (zCell_r hcl (by rw [zK_new, if_pos rfl]; exact hxe) ⟨cA, kA, comp, ?_, g2, g3, g4⟩)) hL hlo
      · rw [List.map_cons, zcv_ref (by omega), ← had] at k
        exact k
      · rw [← had, arrV_new, zL_new, if_pos rfl, Array.getElem?_push, if_pos rfl]
        congr 2
        funext q
        rw [zR_new, if_pos rfl]; rfl
    case new j =>
      simp only [Bool.and_eq_true, decide_eq_true_eq] at hg
      obtain ⟨rfl, hci, hxe, hye, hlk⟩ := hg
      obtain ⟨C, T, N, hcl, hN', hin⟩ := zCl_at hci
      obtain ⟨hc1, hs1, k⟩ := k
      have hN := hr.2.2.2.1
      have h3 := hr.2.2.1
      have had : H.size = zAd b t base (zN h) := by rw [zAd_hi h3]; exact hN
      obtain ⟨w1, w2, w3⟩ := zNws_ok _ hlk
      have w1 := hts _ w1
      have w2 := hts _ w2
      have w3 := hts _ w3
      rw [zCn_eq hcl] at w1 w2 w3
      have hKn := hT.1.1 _ _ hcl
      refine W.newcK hx hb hown w1 w2 w3 rfl hd (Nat.le_trans hc1 hRc) (by rw [← hye]; exact Nat.le_trans hs1 hRs) hKn.2.1 rfl fun H' kC hkC e1 e2 e3 => ?_
      rw [← hye]
      have k := k _ rfl hc1 hs1 hl H' locs lsR (hr.new (by omega) e2 e3 (zCell_obj hcl (by rw [zK_new, if_pos rfl]; exact hxe) ?_)) hL hlo
      · rw [List.map_cons, zcv_ref (by omega), ← had] at k
        exact k
      · rw [← had]
        refine (u_born (zTy ((x - 3) / 2)) hts hin hKn hkC e1 (zCl_ty hcl)).to (fun q hq => ?_)
        rw [zDef hci (by rw [hN']; exact hq)]
        unfold zFv
        rw [zI_new, if_pos rfl, zR_new, if_pos rfl]
        rfl
    case invokevirtual j =>
      simp only [Bool.and_eq_true, decide_eq_true_eq] at hg
      obtain ⟨rfl, hci, hze, hlk, hm0, hm1⟩ := hg
      obtain ⟨C, T, N, hcl, hN', -⟩ := zCl_at hci
      simp only at k
      split at k
      case h_2 => exact k.elim
      case h_1 a r hdr =>
        obtain ⟨h8, ha, Q', hq, k⟩ := zSt8_of k
        have ha' := ha.trans hze
        obtain ⟨h0, -, cell, q1, q2, q3, -⟩ := zs_obj hr hcl ha'
        have hlen : (st.take yy).length = yy := by
          have := congrArg List.length hdr
          rw [List.length_drop, List.length_cons] at this
          rw [List.length_take]; omega
        have hstk : st.map (zcv (zAd b t base)) = (((st.take yy).reverse).map (zcv (zAd b t base))).reverse ++ .ref (zAd b t base a) :: r.map (zcv (zAd b t base)) := by
          rw [List.map_reverse, List.reverse_reverse, ← zcv_ref h0, ← List.map_cons, ← hdr, ← List.map_append, List.take_append_drop]
        have hrest : ((r.map (zcv (zAd b t base))).map fun v => v.category).sum ≤ 8 := by rw [zcats]; exact h8
        have hM := hcall x _ h Q' hq
        have hcls := (hT.1.1 _ _ hcl).2.1
        have hpre : PreV s H C (zAd b t base a) (zPc D b t base (.inr a :: (st.take yy).reverse) h) ((st.take yy).reverse.map (zcv (zAd b t base))) :=
          ⟨zPc.blind, ⟨cell, q1, by rw [q3]; rfl, by rw [q2]; exact hcls⟩, fun U hU hW => by
            have := zPc.of (as := .inr a :: (st.take yy).reverse) hT hr U hU hW
            rw [List.map_cons, zcv_ref h0] at this
            exact this⟩
        have hfin : ∀ (v : Option zV) (h' : zH) (H1 : Heap) (locs1 : List Loc), Q' v h' → zRel D b t base s h' H1 → (∀ q ∈ locs1, base ≤ q.base) → W p l e R s m args below meth c H1 locs1 (cu + zMc x) (su + zMs x) Q (F0 m (pc + 3) lsR ((v.map (zcv (zAd b t base))).toList ++ r.map (zcv (zAd b t base)))) := by
          intro v h' H1 locs1 hq' hr' hlo'
          rw [hm0, hm1, Nat.add_zero, Nat.add_zero]
          have k := k v h' hq' hc hs hl H1 locs1 lsR hr' hL hlo'
          cases v with
          | none => exact k
          | some v => exact k
        rw [hstk]
        rcases hlk with hlk | hlk
        · obtain ⟨w1, w2, w3, w4, w5, w6, w7, w8, w9⟩ := zVls_ok _ hlk
          have w9 : zMl x ≤ 11 := w9
          rw [zCn_eq hcl] at w3 w4 w6
          exact zs_call (va_runV (As := (st.take yy).reverse.map (zcv (zAd b t base))) ⟨hx, hb, hml, hown, hts⟩ hM (cwV yy hts (zGd_in (fun w hw => by
              rcases List.mem_append.mp hw with hw | hw
              · simp only [List.mem_cons, List.not_mem_nil, or_false] at hw
                rcases hw with rfl | rfl | rfl | rfl
                · exact w1
                · exact w2
                · exact w3
                · exact w4
              · exact zWs_in w5 w hw)) rfl rfl rfl ⟨w6, w7.1, w7.2, w8⟩ ⟨hRf, by show 8 + (zMl x + 11) + 30 * d ≤ R.locals; omega⟩) hpre rfl (by rw [List.length_map, List.length_reverse]; exact hlen) hsz rfl (lv_room hrest) hd ⟨by rw [hm0]; omega, by rw [hm1]; omega⟩) hlo hfin
        · obtain ⟨w1, w2, w3, w4, w5, w6, w7, w8, w9⟩ := zVns_ok _ hlk
          have w9 : zMl x ≤ 11 := w9
          rw [zCn_eq hcl] at w3 w6
          exact zs_call (va_runVN (As := (st.take yy).reverse.map (zcv (zAd b t base))) ⟨hx, hb, hml, hown, hts⟩ hM ⟨va_cnB yy hts (zGd_in (zWs_in w5)) rfl rfl rfl (hT.2.2.1 _ w1) (hts _ w4) ⟨w7.1, w7.2, w8⟩ ⟨hRf, by show 8 + (zMl x + 11) + 30 * d ≤ R.locals; omega⟩, hts _ w2, hts _ w3⟩ hpre rfl (by rw [List.length_map, List.length_reverse]; exact hlen) hsz rfl (lv_room hrest) hd ⟨by rw [hm0]; omega, by rw [hm1]; omega⟩) hlo hfin
    case invokestatic j =>
      simp only [Bool.and_eq_true, decide_eq_true_eq] at hg
      obtain ⟨rfl, hg⟩ := hg
      simp only at k hg
      split at k
      · obtain ⟨a, a', r, rfl, k⟩ := z2i_of k
        obtain ⟨h8, k⟩ := zSt8_of k
        simp only [decide_eq_true_eq] at hg
        obtain ⟨w1, w2, w3, w4⟩ := zMaxs_ok _ hg
        exact va_mmax hx hb (hml.trans hsz.symm) hown (hts _ w1) (hts _ w2) (hts _ w3) (hts _ w4) (by omega) (by rw [zcats]; omega) (Nat.le_trans hc hRc) (Nat.le_trans hs hRs) hd (k hc hs hl H locs lsR hr hL hlo)
      · obtain ⟨a, a', r, rfl, k⟩ := z2i_of k
        obtain ⟨h8, k⟩ := zSt8_of k
        simp only [decide_eq_true_eq] at hg
        obtain ⟨w1, w2, w3, w4⟩ := zMins_ok _ hg
        exact va_mmin hx hb (hml.trans hsz.symm) hown (hts _ w1) (hts _ w2) (hts _ w3) (hts _ w4) (by omega) (by rw [zcats]; omega) (Nat.le_trans hc hRc) (Nat.le_trans hs hRs) hd (k hc hs hl H locs lsR hr hL hlo)
      · split at hg
        · rename_i h7 _ ; exact absurd rfl (by assumption)
        · rename_i h7 h8 _; exact absurd rfl (by assumption)
        obtain ⟨hle, k⟩ := zLe_of k
        obtain ⟨h8, Q', hq, k⟩ := zSt8_of k
        simp only [Bool.and_eq_true, decide_eq_true_eq] at hg
        obtain ⟨hlk, hm0, hm1⟩ := hg
        have hlen : (st.take yy).length = yy := by rw [List.length_take]; omega
        have hstk : st.map (zcv (zAd b t base)) = (((st.take yy).reverse).map (zcv (zAd b t base))).reverse ++ (st.drop yy).map (zcv (zAd b t base)) := by
          rw [List.map_reverse, List.reverse_reverse, ← List.map_append, List.take_append_drop]
        have hrest : (((st.drop yy).map (zcv (zAd b t base))).map fun v => v.category).sum ≤ 8 := by rw [zcats]; exact h8
        have hM := hcall x _ h Q' hq
        have hfin : ∀ (v : Option zV) (h' : zH) (H1 : Heap) (locs1 : List Loc), Q' v h' → zRel D b t base s h' H1 → (∀ q ∈ locs1, base ≤ q.base) → W p l e R s m args below meth c H1 locs1 (cu + zMc x) (su + zMs x) Q (F0 m (pc + 3) lsR ((v.map (zcv (zAd b t base))).toList ++ (st.drop yy).map (zcv (zAd b t base)))) := by
          intro v h' H1 locs1 hq' hr' hlo'
          rw [hm0, hm1, Nat.add_zero, Nat.add_zero]
          have k := k v h' hq' hc hs hl H1 locs1 lsR hr' hL hlo'
          cases v with
          | none => exact k
          | some v => exact k
        obtain ⟨w1, w2, w3, w5, w6, w7, w8, w9⟩ := zTls_ok _ hlk
        have w9 : zMl x ≤ 11 := w9
        rw [hstk]
        exact zs_call (va_runS (As := (st.take yy).reverse.map (zcv (zAd b t base))) ⟨hx, hb, hml, hown, hts⟩ hM (cwS yy hts (zGd_in (fun w hw => by
              rcases List.mem_append.mp hw with hw | hw
              · simp only [List.mem_cons, List.not_mem_nil, or_false] at hw
                rcases hw with rfl | rfl | rfl
                · exact w1
                · exact w2
                · exact w3
              · exact zWs_in w5 w hw)) rfl rfl rfl ⟨w6, w7.1, w7.2, w8⟩ ⟨hRf, by show 8 + (zMl x + 11) + 30 * d ≤ R.locals; omega⟩) ⟨zPc.blind, zPc.of hT hr⟩ rfl (by rw [List.length_map, List.length_reverse]; exact hlen) hsz rfl (lv_room hrest) hd ⟨by rw [hm0]; omega, by rw [hm1]; omega⟩) hlo hfin
    case invokespecial j =>
      simp only [Bool.and_eq_true, decide_eq_true_eq] at hg
      obtain ⟨rfl, hg⟩ := hg
      cases z with
      | zero =>
        simp only [Bool.and_eq_true, decide_eq_true_eq] at hg
        obtain ⟨hlk, hci, hxe⟩ := hg
        obtain ⟨C, T, N, hcl, hN', -⟩ := zCl_at hci
        obtain ⟨a, r, rfl, k⟩ := z1r_of k
        obtain ⟨h8, ha, k⟩ := zSt8_of k
        obtain ⟨h0, -, -⟩ := zs_obj hr hcl (ha.trans hxe)
        obtain ⟨w1, w2, w3⟩ := zObs_ok _ hlk
        rw [List.map_cons, zcv_ref h0]
        have h9 := lv_room (m := m) (pc := pc) (ls := lsR) (rest := .ref (zAd b t base a) :: r.map (zcv (zAd b t base))) (st := r.map (zcv (zAd b t base))) (by rw [zcats]; exact h8)
        exact W.objInit hx hb hown (hts _ w1) (hts _ w2) (hts _ w3) rfl (by rw [hml]; exact hsz) rfl hd (by omega) (by omega) (k hc hs hl H locs lsR hr hL hlo)
      | succ z =>
        simp only [Bool.and_eq_true, decide_eq_true_eq] at hg
        obtain ⟨hci, hze, hlk⟩ := hg
        obtain ⟨C, T, N, hcl, hN', -⟩ := zCl_at hci
        simp only at k
        split at k
        case h_2 => exact k.elim
        case h_1 a r hdr =>
          obtain ⟨h8, ha, hc1, hs1, Q', hq, k⟩ := zSt8_of k
          have ha' := ha.trans hze
          obtain ⟨h0, -, cell, q1, q2, q3, -⟩ := zs_obj hr hcl ha'
          have hlen : (st.take yy).length = yy := by
            have := congrArg List.length hdr
            rw [List.length_drop, List.length_cons] at this
            rw [List.length_take]; omega
          have hstk : st.map (zcv (zAd b t base)) = (((st.take yy).reverse).map (zcv (zAd b t base))).reverse ++ .ref (zAd b t base a) :: r.map (zcv (zAd b t base)) := by
            rw [List.map_reverse, List.reverse_reverse, ← zcv_ref h0, ← List.map_cons, ← hdr, ← List.map_append, List.take_append_drop]
          have hrest : ((r.map (zcv (zAd b t base))).map fun v => v.category).sum ≤ 8 := by rw [zcats]; exact h8
          have hM := hcall x _ h Q' hq
          have hpre : PreS s H (zPc D b t base (.inr a :: (st.take yy).reverse) h) (.ref (zAd b t base a) :: (st.take yy).reverse.map (zcv (zAd b t base))) :=
            ⟨zPc.blind, fun U hU hW => by
              have := zPc.of (as := .inr a :: (st.take yy).reverse) hT hr U hU hW
              rw [List.map_cons, zcv_ref h0] at this
              exact this⟩
          have hfin : ∀ (v : Option zV) (h' : zH) (H1 : Heap) (locs1 : List Loc), Q' v h' → zRel D b t base s h' H1 → (∀ q ∈ locs1, base ≤ q.base) → W p l e R s m args below meth c H1 locs1 (cu + zMc x) (su + zMs x) Q (F0 m (pc + 3) lsR ((v.map (zcv (zAd b t base))).toList ++ r.map (zcv (zAd b t base)))) := by
            intro v h' H1 locs1 hq' hr' hlo'
            have k := k v h' hq' hc1 hs1 hl H1 locs1 lsR hr' hL hlo'
            cases v with
            | none => exact k
            | some v => exact k
          rw [hstk]
          rcases hlk with hlk | hlk
          · obtain ⟨w1, w2, w4, w5, w6, w7, w8, w9, w10⟩ := zIls_ok _ hlk
            have w9 : zMl x ≤ 11 := w9
            exact zs_call (va_runI (As := (st.take yy).reverse.map (zcv (zAd b t base))) ⟨hx, hb, hml, hown, hts⟩ hM (cwI yy hts (zGd_in (zWs_in w5)) (by unfold zWs; rw [w10]) rfl rfl (hts _ w4) (hts _ w1) (hts _ w2) w6 ⟨w7.1, w7.2, w8⟩ ⟨hRf, by show 8 + (zMl x + 11) + 30 * d ≤ R.locals; omega⟩) hpre rfl (by rw [List.length_map, List.length_reverse]; exact hlen) hsz rfl (lv_room hrest) hd ⟨Nat.le_trans hc1 hRc, Nat.le_trans hs1 hRs⟩) hlo hfin
          · obtain ⟨w1, w2, w4, w5, w6, w7, w8, w9, w10⟩ := zIns_ok _ hlk
            have w9 : zMl x ≤ 11 := w9
            exact zs_call (va_runIN (As := (st.take yy).reverse.map (zcv (zAd b t base))) ⟨hx, hb, hml, hown, hts⟩ hM ⟨va_cnB yy hts (zGd_in (zWs_in w5)) (by unfold zWs; rw [w10]) rfl rfl (hT.2.2.1 _ w1) (hts _ w4) ⟨w7.1, w7.2, w8⟩ ⟨hRf, by show 8 + (zMl x + 11) + 30 * d ≤ R.locals; omega⟩, w6, hts _ w2⟩ hpre rfl (by rw [List.length_map, List.length_reverse]; exact hlen) hsz rfl (lv_room hrest) hd ⟨Nat.le_trans hc1 hRc, Nat.le_trans hs1 hRs⟩) hlo hfin
    case ireturn =>
      simp only [decide_eq_true_eq] at hg
      subst hg
      simp only at k
      split at k
      · split at k
        · rename_i hrt
          exact hI cu su pc h H locs lsR _ hd hc hs k (Or.inl hrt) hr hlo
        · rename_i hrt
          exact hI cu su pc h H locs lsR _ hd hc hs k.2 (Or.inr ⟨hrt, k.1⟩) hr hlo
        · exact k.elim
      · exact k.elim
    case return_ =>
      simp only [decide_eq_true_eq] at hg
      subst hg
      cases st with
      | nil =>
        simp only at k
        split at k
        · rename_i hrt
          exact hV cu su pc h H locs lsR hd hc hs k hrt hr hlo
        · exact k.elim
      | cons v r => exact k.elim
    case tableswitch df lo hi offs =>
      simp only [Bool.and_eq_true, decide_eq_true_eq] at hg
      obtain ⟨hhi, hdf, hofs⟩ := hg
      obtain ⟨v, r, rfl, kd, ks⟩ := z1i_of k
      by_cases hout : v.toInt < lo ∨ hi < v.toInt
      · exact lv_tableOut hx hb hd hout (Int.toNat_of_nonneg hdf).symm (kd hout hc hs hl H locs lsR hr hL hlo)
      · obtain ⟨o, ho, hz⟩ := zSw_at _ lo (v.toInt - lo).toNat ks (by omega) (by omega)
        have h1 : ¬ v.toInt < lo := fun q => hout (Or.inl q)
        have h2 : ¬ hi < v.toInt := fun q => hout (Or.inr q)
        have hpos : 0 ≤ (pc : Int) + o := by
          have := List.all_eq_true.mp hofs o (List.mem_of_getElem? ho)
          simpa using this
        exact lv_tableIn hx hb hd h1 h2 (by rw [← Array.getElem?_toList]; exact ho) (Int.toNat_of_nonneg hpos).symm (hz hc hs hl H locs lsR hr hL hlo)
    case lookupswitch df ps =>
      simp only [Bool.and_eq_true, decide_eq_true_eq] at hg
      obtain ⟨hinc, hdf, hofs⟩ := hg
      obtain ⟨v, r, rfl, k⟩ := z1i_of k
      have hz := zLk_at _ k
      have hpos : 0 ≤ (pc : Int) + Op.lookupswitch.offset ps.toList df v.toInt := zLk_pos hdf hofs
      exact lv_lookup hx hb hd hinc rfl (Int.toNat_of_nonneg hpos).symm (hz hc hs hl H locs lsR hr hL hlo)
    all_goals exact k.elim
end ZN
theorem zsl (ad : Nat → Nat) : ∀ as : List zV, lg_sl (as.map (zcv ad)) = as.map (fun v => Slot.val (zcv ad v))
  | [] => rfl
  | v :: r => by
    show (if (zcv ad v).category = 2 then _ else _) ++ lg_sl (r.map (zcv ad)) = _
    rw [zsl ad r, zcv_cat, if_neg (by decide)]; rfl
theorem zEntry (ad : Nat → Nat) (as : List zV) {n : Nat} (hn : as.length ≤ n) : lv_has ((lg_sl (as.map (zcv ad)) ++ List.replicate (n - (lg_sl (as.map (zcv ad))).length) Slot.unset).toArray) n (zLv ad (as.map some ++ List.replicate (n - as.length) none)) := by
  have hlen : (lg_sl (as.map (zcv ad))).length = as.length := by rw [zsl, List.length_map]
  have h1 := lv_entry (as.map (zcv ad)) (n := n) (by rw [hlen]; exact hn)
  refine ⟨h1.1, h1.2.1, fun q hq => ?_⟩
  obtain ⟨v, hv, e⟩ := zLv_of hq
  have hlt : q.1 < as.length := by
    refine Nat.not_le.mp fun hle => ?_
    rw [List.getElem?_append_right (by rw [List.length_map]; exact hle)] at hv
    have := List.mem_of_getElem? hv
    have := (List.mem_replicate.mp this).2
    cases this
  rw [List.getElem?_append_left (by rw [List.length_map]; exact hlt), List.getElem?_map] at hv
  rw [List.getElem?_toArray, List.getElem?_append_left (by rw [hlen]; exact hlt), zsl, List.getElem?_map, e]
  cases hw : as[q.1]? with
  | none => rw [hw] at hv; cases hv
  | some w => rw [hw] at hv; cases hv; rfl
section ZM
variable {l : Launch} {D : va_G} {b t base : Nat}
set_option maxHeartbeats 4000000 in
/-- what the small machine does, the machine does: the contract of every method -/
theorem zMet : ∀ (d y : Nat) (as : List zV) (h : zH) (K : zT), zD d y as h K → Met l (zNm y) (zWs y) (zRm d y) (zPc D b t base as h) (zQc D b t base K) (zMc y) (zMs y) (fun q => base ≤ q)
  | 0, y, as, h, K, k => k.elim
  | d + 1, y, as, h, K, k => by
    unfold zD at k
    split at k
    case h_2 => exact k.elim
    case h_1 hble =>
      have hle : as.length ≤ zMl y := Nat.le_of_ble_eq_true hble
      by_cases hy : y < zNum
      · obtain ⟨hpl, hcn, hch, hret⟩ := zY_ok y hy
        refine Met.ofW (cc := zBy y) (maxL := zMl y) (ret := zRet y) hpl rfl ?_
        intro p e s m args below meth c s₁ B hml hv
        obtain ⟨rfl, hTS, hrel⟩ := hv
        have hts := atoms_spec (ws := zWs y) B.pre
        have hown : s.vm.findClass (zNm y).cls = some m.cls := findClass_of_methodNamed B.named
        rw [hcn] at hown
        have C0 : zCtx y d p (headSpec (zWs y) (zRm (d + 1) y)).room s m (as.map (zcv (zAd b t base))).toArray meth c D :=
          ⟨B.exec, B.bytes, hml, hown, fun w hw => hts w (List.mem_cons_of_mem _ hw), hTS, (name_of_methodNamed B.named B.method).1, Nat.le_refl _, by show 30 * d + 30 ≤ 30 * (d + 1); omega, Nat.le_refl _, Nat.le_refl _, hch⟩
        rw [lg_entry_eq]
        refine k (zPW p l e (headSpec (zWs y) (zRm (d + 1) y)).room s m (as.map (zcv (zAd b t base))).toArray below meth c D b t base (zMl y) (zTab y).2.2.1 (zTab y).2.2.2 (MQ below (zQc D b t base K) (as.map (zcv (zAd b t base))).toArray s (zMc y) (zMs y) (fun q => base ≤ q)))
          (zSnd C0 (fun x as h Q' k => zMet d x as h Q' k) ?_ ?_) (Nat.zero_le _) (Nat.zero_le _) ?_ s.heap [] _ hrel (zEntry _ as hle) (fun q hq => by cases hq)
        · intro cu su pc h H locs lsR v hd hc hs hk hrt hr hlo
          refine W.widen hc hs ?_
          have hq : ∀ u : State, u.heap = H → s.WarmedH u.vm → zQc D b t base K (as.map (zcv (zAd b t base))).toArray s (.returned (some (.int v))) u := fun u hu hW => ⟨some (.inl v), h, rfl, by rw [hu]; exact hr.moved hW.alike, hk⟩
          rcases hrt with h0 | ⟨h1, hv⟩
          · exact W.iret (v := v) B.exec B.bytes (B.returns.trans (hret.1 h0)) hq hlo hd
          · exact W.zret (v := v) (ty := .boolean) B.exec B.bytes (B.returns.trans (hret.2.1 h1)) (by rcases hv with rfl | rfl <;> rfl) hq hlo hd
        · intro cu su pc h H locs lsR hd hc hs hk h2 hr hlo
          refine W.widen hc hs ?_
          exact W.vret B.exec B.bytes (B.returns.trans (hret.2.2 h2)) (fun u hu hW => ⟨none, h, rfl, by rw [hu]; exact hr.moved hW.alike, hk⟩) hlo hd
        · rw [List.length_append, List.length_map, List.length_replicate]; omega
      · refine (k (fun _ _ _ _ _ _ => False) (fun cu su pc ls st h k => ?_)).elim
        rw [zTab_out hy] at k
        exact k
end ZM
end
section
theorem r37_0 {call : zCall} {K : zT} {h : zH} {l0 : Nat} (k : zK h l0 = 5 ∧ ¬ (6 : Int32) < 0 ∧ (6 : Int32).toNatClampNeg ≤ 100000 ∧ 0 + 1 ≤ zm37.2.2.1 ∧ 0 + (6 : Int32).toNatClampNeg ≤ zm37.2.2.2 ∧ ∀ h1, h1 = zNew h 1 (6 : Int32).toNatClampNeg → zK h1 l0 = 5 ∧ ∀ h2, h2 = zwR h1 l0 0 (zN h) → ¬ (6 : Int32) < 0 ∧ (6 : Int32).toNatClampNeg ≤ 100000 ∧ (0 + 1) + 1 ≤ zm37.2.2.1 ∧ (0 + (6 : Int32).toNatClampNeg) + (6 : Int32).toNatClampNeg ≤ zm37.2.2.2 ∧ ∀ h3, h3 = zNew h2 1 (6 : Int32).toNatClampNeg → zK h3 l0 = 5 ∧ ∀ h4, h4 = zwR h3 l0 1 (zN h2) → ¬ (6 : Int32) < 0 ∧ (6 : Int32).toNatClampNeg ≤ 100000 ∧ ((0 + 1) + 1) + 1 ≤ zm37.2.2.1 ∧ ((0 + (6 : Int32).toNatClampNeg) + (6 : Int32).toNatClampNeg) + (6 : Int32).toNatClampNeg ≤ zm37.2.2.2 ∧ ∀ h5, h5 = zNew h4 2 (6 : Int32).toNatClampNeg → zK h5 l0 = 5 ∧ ∀ h6, h6 = zwR h5 l0 2 (zN h4) → K none h6) : zWp zm37 call K 0 0 0 [some (.inr l0)] [] h := zGo [] 400 k
theorem r38_0 {call : zCall} {K : zT} {h : zH} {l0 : Nat} {l1 : Int32} {l2 : Int32} {l3 : Int32} {o4 : Option zV} (k : zK h l0 = 5 ∧ ∃ Q : zT, call 39 [.inr l0, .inl l1, .inl l2] h Q ∧ ∀ v h1, Q v h1 → zWp zm38 call K 0 0 6 [some (.inr l0), some (.inl l1), some (.inl l2), some (.inl l3), o4] (v.toList ++ []) h1) : zWp zm38 call K 0 0 0 [some (.inr l0), some (.inl l1), some (.inl l2), some (.inl l3), o4] [] h := zGo [6] 400 k
theorem r38_6 {call : zCall} {K : zT} {h : zH} {l0 : Nat} {l1 : Int32} {l2 : Int32} {l3 : Int32} {o4 : Option zV} {s0 : Int32} (k : (¬ s0 = (6 : Int32) → zK h l0 = 5 ∧ (¬ s0 = (zI h l0 3) → zK h l0 = 5 ∧ zK h (zR h l0 0) = 1 ∧ vp_in s0 (zL h (zR h l0 0)) ∧ ∀ h1, h1 = zwI h (zR h l0 0) s0.toNatClampNeg l1 → zK h1 l0 = 5 ∧ zK h1 (zR h1 l0 1) = 1 ∧ vp_in s0 (zL h1 (zR h1 l0 1)) ∧ ∀ h2, h2 = zwI h1 (zR h1 l0 1) s0.toNatClampNeg l2 → zK h2 l0 = 5 ∧ zK h2 (zR h2 l0 2) = 2 ∧ vp_in s0 (zL h2 (zR h2 l0 2)) ∧ ∀ h3, h3 = zwI h2 (zR h2 l0 2) s0.toNatClampNeg (vp_nar .boolean l3) → ((1 : Int32) = 0 ∨ (1 : Int32) = 1) ∧ K (some (.inl (1 : Int32))) h3) ∧ (s0 = (zI h l0 3) → zK h l0 = 5 ∧ zK h l0 = 5 ∧ ∀ h4, h4 = zwI h l0 3 ((zI h l0 3) + (1 : Int32)) → zK h4 l0 = 5 ∧ zK h4 (zR h4 l0 0) = 1 ∧ vp_in s0 (zL h4 (zR h4 l0 0)) ∧ ∀ h5, h5 = zwI h4 (zR h4 l0 0) s0.toNatClampNeg l1 → zK h5 l0 = 5 ∧ zK h5 (zR h5 l0 1) = 1 ∧ vp_in s0 (zL h5 (zR h5 l0 1)) ∧ ∀ h6, h6 = zwI h5 (zR h5 l0 1) s0.toNatClampNeg l2 → zK h6 l0 = 5 ∧ zK h6 (zR h6 l0 2) = 2 ∧ vp_in s0 (zL h6 (zR h6 l0 2)) ∧ ∀ h7, h7 = zwI h6 (zR h6 l0 2) s0.toNatClampNeg (vp_nar .boolean l3) → ((1 : Int32) = 0 ∨ (1 : Int32) = 1) ∧ K (some (.inl (1 : Int32))) h7)) ∧ (s0 = (6 : Int32) → ((0 : Int32) = 0 ∨ (0 : Int32) = 1) ∧ K (some (.inl (0 : Int32))) h)) : zWp zm38 call K 0 0 6 [some (.inr l0), some (.inl l1), some (.inl l2), some (.inl l3), o4] [.inl s0] h := zGo [6] 400 k
theorem r39_0 {call : zCall} {K : zT} {h : zH} {l0 : Nat} {l1 : Int32} {l2 : Int32} {o3 : Option zV} (k : zWp zm39 call K 0 0 2 [some (.inr l0), some (.inl l1), some (.inl l2), some (.inl (0 : Int32))] [] h) : zWp zm39 call K 0 0 0 [some (.inr l0), some (.inl l1), some (.inl l2), o3] [] h := zGo [2] 400 k
theorem r39_2 {call : zCall} {K : zT} {h : zH} {l0 : Nat} {l1 : Int32} {l2 : Int32} {l3 : Int32} (k : zK h l0 = 5 ∧ ((zI h l0 3) ≤ l3 → zK h l0 = 5 ∧ K (some (.inl (zI h l0 3))) h) ∧ (¬ (zI h l0 3) ≤ l3 → zK h l0 = 5 ∧ (zK h (zR h l0 0) = 1 ∨ zK h (zR h l0 0) = 101) ∧ vp_in l3 (zL h (zR h l0 0)) ∧ (¬ (zI h (zR h l0 0) l3.toNatClampNeg) = l1 → zWp zm39 call K 0 0 2 [some (.inr l0), some (.inl l1), some (.inl l2), some (.inl (l3 + (1 : Int32)))] [] h) ∧ ((zI h (zR h l0 0) l3.toNatClampNeg) = l1 → zK h l0 = 5 ∧ (zK h (zR h l0 1) = 1 ∨ zK h (zR h l0 1) = 101) ∧ vp_in l3 (zL h (zR h l0 1)) ∧ (¬ (zI h (zR h l0 1) l3.toNatClampNeg) = l2 → zWp zm39 call K 0 0 2 [some (.inr l0), some (.inl l1), some (.inl l2), some (.inl (l3 + (1 : Int32)))] [] h) ∧ ((zI h (zR h l0 1) l3.toNatClampNeg) = l2 → K (some (.inl l3)) h)))) : zWp zm39 call K 0 0 2 [some (.inr l0), some (.inl l1), some (.inl l2), some (.inl l3)] [] h := zGo [2] 400 k
theorem r40_0 {call : zCall} {K : zT} {h : zH} {l0 : Nat} {l1 : Int32} {o2 : Option zV} {o3 : Option zV} {o4 : Option zV} (k : zWp zm40 call K 0 0 7 [some (.inr l0), some (.inl l1), some (.inl (-1 : Int32)), some (.inl (0 : Int32)), some (.inl (0 : Int32))] [] h) : zWp zm40 call K 0 0 0 [some (.inr l0), some (.inl l1), o2, o3, o4] [] h := zGo [7] 400 k
theorem r40_7 {call : zCall} {K : zT} {h : zH} {l0 : Nat} {l1 : Int32} {l2 : Int32} {l3 : Int32} {l4 : Int32} (k : zK h l0 = 5 ∧ ((zI h l0 3) ≤ l4 → (l3 = 0 ∨ l3 = 1) ∧ K (some (.inl l3)) h) ∧ (¬ (zI h l0 3) ≤ l4 → zK h l0 = 5 ∧ (zK h (zR h l0 1) = 1 ∨ zK h (zR h l0 1) = 101) ∧ vp_in l4 (zL h (zR h l0 1)) ∧ ((zI h (zR h l0 1) l4.toNatClampNeg) ≤ l2 → zWp zm40 call K 0 0 7 [some (.inr l0), some (.inl l1), some (.inl l2), some (.inl l3), some (.inl (l4 + (1 : Int32)))] [] h) ∧ (¬ (zI h (zR h l0 1) l4.toNatClampNeg) ≤ l2 → zK h l0 = 5 ∧ (zK h (zR h l0 1) = 1 ∨ zK h (zR h l0 1) = 101) ∧ vp_in l4 (zL h (zR h l0 1)) ∧ (zK h 2 = 1 ∨ zK h 2 = 101) ∧ vp_in ((5 : Int32) - (zI h (zR h l0 1) l4.toNatClampNeg)) (zL h 2) ∧ ¬ (zI h 2 ((5 : Int32) - (zI h (zR h l0 1) l4.toNatClampNeg)).toNatClampNeg) = 0 ∧ zK h l0 = 5 ∧ (zK h (zR h l0 0) = 1 ∨ zK h (zR h l0 0) = 101) ∧ vp_in l4 (zL h (zR h l0 0)) ∧ (¬ (l1 / (zI h 2 ((5 : Int32) - (zI h (zR h l0 1) l4.toNatClampNeg)).toNatClampNeg)) = (zI h (zR h l0 0) l4.toNatClampNeg) → zWp zm40 call K 0 0 7 [some (.inr l0), some (.inl l1), some (.inl l2), some (.inl l3), some (.inl (l4 + (1 : Int32)))] [] h) ∧ ((l1 / (zI h 2 ((5 : Int32) - (zI h (zR h l0 1) l4.toNatClampNeg)).toNatClampNeg)) = (zI h (zR h l0 0) l4.toNatClampNeg) → zK h l0 = 5 ∧ (zK h (zR h l0 1) = 1 ∨ zK h (zR h l0 1) = 101) ∧ vp_in l4 (zL h (zR h l0 1)) ∧ zK h l0 = 5 ∧ zK h (zR h l0 2) = 2 ∧ vp_in l4 (zL h (zR h l0 2)) ∧ zWp zm40 call K 0 0 7 [some (.inr l0), some (.inl l1), some (.inl (zI h (zR h l0 1) l4.toNatClampNeg)), some (.inl (zI h (zR h l0 2) l4.toNatClampNeg)), some (.inl (l4 + (1 : Int32)))] [] h)))) : zWp zm40 call K 0 0 7 [some (.inr l0), some (.inl l1), some (.inl l2), some (.inl l3), some (.inl l4)] [] h := zGo [7] 400 k
theorem r41_0 {call : zCall} {K : zT} {h : zH} {l0 : Nat} (k : zK h l0 = 7 ∧ ¬ (6 : Int32) < 0 ∧ (6 : Int32).toNatClampNeg ≤ 100000 ∧ 0 + 1 ≤ zm41.2.2.1 ∧ 0 + (6 : Int32).toNatClampNeg ≤ zm41.2.2.2 ∧ ∀ h1, h1 = zNew h 1 (6 : Int32).toNatClampNeg → zK h1 l0 = 7 ∧ ∀ h2, h2 = zwR h1 l0 0 (zN h) → K none h2) : zWp zm41 call K 0 0 0 [some (.inr l0)] [] h := zGo [] 400 k
theorem r42_0 {call : zCall} {K : zT} {h : zH} {l0 : Nat} (k : zK h l0 = 7 ∧ (¬ (zI h l0 1) = (6 : Int32) → ((0 : Int32) = 0 ∨ (0 : Int32) = 1) ∧ K (some (.inl (0 : Int32))) h) ∧ ((zI h l0 1) = (6 : Int32) → ((1 : Int32) = 0 ∨ (1 : Int32) = 1) ∧ K (some (.inl (1 : Int32))) h)) : zWp zm42 call K 0 0 0 [some (.inr l0)] [] h := zGo [] 400 k
theorem r43_0 {call : zCall} {K : zT} {h : zH} {l0 : Nat} {l1 : Int32} (k : zK h l0 = 7 ∧ ∃ Q : zT, call 47 [.inr l0, .inl l1] h Q ∧ ∀ v h1, Q v h1 → zWp zm43 call K 0 0 5 [some (.inr l0), some (.inl l1)] (v.toList ++ []) h1) : zWp zm43 call K 0 0 0 [some (.inr l0), some (.inl l1)] [] h := zGo [5] 400 k
theorem r43_5 {call : zCall} {K : zT} {h : zH} {l0 : Nat} {l1 : Int32} {s0 : Int32} (k : (s0 = (-1 : Int32) → ((0 : Int32) = 0 ∨ (0 : Int32) = 1) ∧ K (some (.inl (0 : Int32))) h) ∧ (¬ s0 = (-1 : Int32) → ((1 : Int32) = 0 ∨ (1 : Int32) = 1) ∧ K (some (.inl (1 : Int32))) h)) : zWp zm43 call K 0 0 5 [some (.inr l0), some (.inl l1)] [.inl s0] h := zGo [5] 400 k
theorem r44_0 {call : zCall} {K : zT} {h : zH} {l0 : Nat} {l1 : Int32} (k : (l1 < 0 → K (some (.inl (-1 : Int32))) h) ∧ (¬ l1 < 0 → zK h l0 = 7 ∧ ((zI h l0 1) ≤ l1 → K (some (.inl (-1 : Int32))) h) ∧ (¬ (zI h l0 1) ≤ l1 → zK h l0 = 7 ∧ (zK h (zR h l0 0) = 1 ∨ zK h (zR h l0 0) = 101) ∧ vp_in l1 (zL h (zR h l0 0)) ∧ K (some (.inl (zI h (zR h l0 0) l1.toNatClampNeg))) h))) : zWp zm44 call K 0 0 0 [some (.inr l0), some (.inl l1)] [] h := zGo [] 400 k
theorem r45_0 {call : zCall} {K : zT} {h : zH} {l0 : Nat} {l1 : Int32} (k : zK h l0 = 7 ∧ ∃ Q : zT, call 43 [.inr l0, .inl l1] h Q ∧ ∀ v h1, Q v h1 → zWp zm45 call K 0 0 5 [some (.inr l0), some (.inl l1)] (v.toList ++ []) h1) : zWp zm45 call K 0 0 0 [some (.inr l0), some (.inl l1)] [] h := zGo [5, 12] 400 k
theorem r45_5 {call : zCall} {K : zT} {h : zH} {l0 : Nat} {l1 : Int32} {s0 : Int32} (k : (¬ s0 = 0 → K none h) ∧ (s0 = 0 → zK h l0 = 7 ∧ ∃ Q : zT, call 42 [.inr l0] h Q ∧ ∀ v h1, Q v h1 → zWp zm45 call K 0 0 12 [some (.inr l0), some (.inl l1)] (v.toList ++ []) h1)) : zWp zm45 call K 0 0 5 [some (.inr l0), some (.inl l1)] [.inl s0] h := zGo [5, 12] 400 k
theorem r45_12 {call : zCall} {K : zT} {h : zH} {l0 : Nat} {l1 : Int32} {s0 : Int32} (k : (¬ s0 = 0 → K none h) ∧ (s0 = 0 → zK h l0 = 7 ∧ zK h l0 = 7 ∧ zK h (zR h l0 0) = 1 ∧ vp_in (zI h l0 1) (zL h (zR h l0 0)) ∧ ∀ h1, h1 = zwI h (zR h l0 0) (zI h l0 1).toNatClampNeg l1 → zK h1 l0 = 7 ∧ zK h1 l0 = 7 ∧ ∀ h2, h2 = zwI h1 l0 1 ((zI h1 l0 1) + (1 : Int32)) → K none h2)) : zWp zm45 call K 0 0 12 [some (.inr l0), some (.inl l1)] [.inl s0] h := zGo [5, 12] 400 k
theorem r46_0 {call : zCall} {K : zT} {h : zH} {l0 : Nat} {l1 : Int32} {o2 : Option zV} {o3 : Option zV} (k : zK h l0 = 7 ∧ ∃ Q : zT, call 47 [.inr l0, .inl l1] h Q ∧ ∀ v h1, Q v h1 → zWp zm46 call K 0 0 5 [some (.inr l0), some (.inl l1), o2, o3] (v.toList ++ []) h1) : zWp zm46 call K 0 0 0 [some (.inr l0), some (.inl l1), o2, o3] [] h := zGo [5, 24] 400 k
theorem r46_5 {call : zCall} {K : zT} {h : zH} {l0 : Nat} {l1 : Int32} {o2 : Option zV} {o3 : Option zV} {s0 : Int32} (k : (¬ s0 = (-1 : Int32) → zK h l0 = 7 ∧ zK h l0 = 7 ∧ ∀ h1, h1 = zwI h l0 1 ((zI h l0 1) - (1 : Int32)) → zWp zm46 call K 0 0 24 [some (.inr l0), some (.inl l1), some (.inl s0), some (.inl s0)] [] h1) ∧ (s0 = (-1 : Int32) → K none h)) : zWp zm46 call K 0 0 5 [some (.inr l0), some (.inl l1), o2, o3] [.inl s0] h := zGo [5, 24] 400 k
theorem r46_24 {call : zCall} {K : zT} {h : zH} {l0 : Nat} {l1 : Int32} {l2 : Int32} {l3 : Int32} (k : zK h l0 = 7 ∧ ((zI h l0 1) ≤ l3 → K none h) ∧ (¬ (zI h l0 1) ≤ l3 → zK h l0 = 7 ∧ zK h l0 = 7 ∧ (zK h (zR h l0 0) = 1 ∨ zK h (zR h l0 0) = 101) ∧ vp_in (l3 + (1 : Int32)) (zL h (zR h l0 0)) ∧ zK h (zR h l0 0) = 1 ∧ vp_in l3 (zL h (zR h l0 0)) ∧ ∀ h1, h1 = zwI h (zR h l0 0) l3.toNatClampNeg (zI h (zR h l0 0) (l3 + (1 : Int32)).toNatClampNeg) → zWp zm46 call K 0 0 24 [some (.inr l0), some (.inl l1), some (.inl l2), some (.inl (l3 + (1 : Int32)))] [] h1)) : zWp zm46 call K 0 0 24 [some (.inr l0), some (.inl l1), some (.inl l2), some (.inl l3)] [] h := zGo [5, 24] 400 k
theorem r47_0 {call : zCall} {K : zT} {h : zH} {l0 : Nat} {l1 : Int32} {o2 : Option zV} (k : zWp zm47 call K 0 0 2 [some (.inr l0), some (.inl l1), some (.inl (0 : Int32))] [] h) : zWp zm47 call K 0 0 0 [some (.inr l0), some (.inl l1), o2] [] h := zGo [2] 400 k
theorem r47_2 {call : zCall} {K : zT} {h : zH} {l0 : Nat} {l1 : Int32} {l2 : Int32} (k : zK h l0 = 7 ∧ ((zI h l0 1) ≤ l2 → K (some (.inl (-1 : Int32))) h) ∧ (¬ (zI h l0 1) ≤ l2 → zK h l0 = 7 ∧ (zK h (zR h l0 0) = 1 ∨ zK h (zR h l0 0) = 101) ∧ vp_in l2 (zL h (zR h l0 0)) ∧ (¬ (zI h (zR h l0 0) l2.toNatClampNeg) = l1 → zWp zm47 call K 0 0 2 [some (.inr l0), some (.inl l1), some (.inl (l2 + (1 : Int32)))] [] h) ∧ ((zI h (zR h l0 0) l2.toNatClampNeg) = l1 → K (some (.inl l2)) h))) : zWp zm47 call K 0 0 2 [some (.inr l0), some (.inl l1), some (.inl l2)] [] h := zGo [2] 400 k
theorem r48_0 {call : zCall} {K : zT} {h : zH} {l0 : Nat} (k : zK h l0 = 9 ∧ ¬ (20 : Int32) < 0 ∧ (20 : Int32).toNatClampNeg ≤ 100000 ∧ 0 + 1 ≤ zm48.2.2.1 ∧ 0 + (20 : Int32).toNatClampNeg ≤ zm48.2.2.2 ∧ ∀ h1, h1 = zNew h 1 (20 : Int32).toNatClampNeg → zK h1 l0 = 9 ∧ ∀ h2, h2 = zwR h1 l0 0 (zN h) → ¬ (20 : Int32) < 0 ∧ (20 : Int32).toNatClampNeg ≤ 100000 ∧ (0 + 1) + 1 ≤ zm48.2.2.1 ∧ (0 + (20 : Int32).toNatClampNeg) + (20 : Int32).toNatClampNeg ≤ zm48.2.2.2 ∧ ∀ h3, h3 = zNew h2 1 (20 : Int32).toNatClampNeg → zK h3 l0 = 9 ∧ ∀ h4, h4 = zwR h3 l0 1 (zN h2) → K none h4) : zWp zm48 call K 0 0 0 [some (.inr l0)] [] h := zGo [] 400 k
theorem r49_0 {call : zCall} {K : zT} {h : zH} {l0 : Nat} {l1 : Int32} (k : zK h l0 = 9 ∧ zK h l0 = 9 ∧ zK h (zR h l0 0) = 1 ∧ vp_in (zI h l0 2) (zL h (zR h l0 0)) ∧ ∀ h1, h1 = zwI h (zR h l0 0) (zI h l0 2).toNatClampNeg l1 → zK h1 l0 = 9 ∧ zK h1 l0 = 9 ∧ zK h1 (zR h1 l0 1) = 1 ∧ vp_in (zI h1 l0 2) (zL h1 (zR h1 l0 1)) ∧ ∀ h2, h2 = zwI h1 (zR h1 l0 1) (zI h1 l0 2).toNatClampNeg (-6 : Int32) → zK h2 l0 = 9 ∧ (¬ ((zI h2 l0 2) + (1 : Int32)) = (20 : Int32) → zK h2 l0 = 9 ∧ zK h2 l0 = 9 ∧ ∀ h3, h3 = zwI h2 l0 2 ((zI h2 l0 2) + (1 : Int32)) → K none h3) ∧ (((zI h2 l0 2) + (1 : Int32)) = (20 : Int32) → zK h2 l0 = 9 ∧ ∀ h4, h4 = zwI h2 l0 2 (0 : Int32) → K none h4)) : zWp zm49 call K 0 0 0 [some (.inr l0), some (.inl l1)] [] h := zGo [] 400 k
theorem r50_0 {call : zCall} {K : zT} {h : zH} {l0 : Nat} {l1 : Int32} {l2 : Int32} {o3 : Option zV} (k : zK h l0 = 9 ∧ ∃ Q : zT, call 52 [.inr l0, .inl l1] h Q ∧ ∀ v h1, Q v h1 → zWp zm50 call K 0 0 5 [some (.inr l0), some (.inl l1), some (.inl l2), o3] (v.toList ++ []) h1) : zWp zm50 call K 0 0 0 [some (.inr l0), some (.inl l1), some (.inl l2), o3] [] h := zGo [5] 400 k
theorem r50_5 {call : zCall} {K : zT} {h : zH} {l0 : Nat} {l1 : Int32} {l2 : Int32} {o3 : Option zV} {s0 : Int32} (k : (s0 = (-1 : Int32) → K none h) ∧ (¬ s0 = (-1 : Int32) → zK h l0 = 9 ∧ zK h (zR h l0 1) = 1 ∧ vp_in s0 (zL h (zR h l0 1)) ∧ ∀ h1, h1 = zwI h (zR h l0 1) s0.toNatClampNeg l2 → K none h1)) : zWp zm50 call K 0 0 5 [some (.inr l0), some (.inl l1), some (.inl l2), o3] [.inl s0] h := zGo [5] 400 k
theorem r51_0 {call : zCall} {K : zT} {h : zH} {l0 : Nat} {l1 : Int32} {o2 : Option zV} (k : zK h l0 = 9 ∧ ∃ Q : zT, call 52 [.inr l0, .inl l1] h Q ∧ ∀ v h1, Q v h1 → zWp zm51 call K 0 0 5 [some (.inr l0), some (.inl l1), o2] (v.toList ++ []) h1) : zWp zm51 call K 0 0 0 [some (.inr l0), some (.inl l1), o2] [] h := zGo [5] 400 k
theorem r51_5 {call : zCall} {K : zT} {h : zH} {l0 : Nat} {l1 : Int32} {o2 : Option zV} {s0 : Int32} (k : (¬ s0 = (-1 : Int32) → zK h l0 = 9 ∧ (zK h (zR h l0 1) = 1 ∨ zK h (zR h l0 1) = 101) ∧ vp_in s0 (zL h (zR h l0 1)) ∧ K (some (.inl (zI h (zR h l0 1) s0.toNatClampNeg))) h) ∧ (s0 = (-1 : Int32) → K (some (.inl (-9 : Int32))) h)) : zWp zm51 call K 0 0 5 [some (.inr l0), some (.inl l1), o2] [.inl s0] h := zGo [5] 400 k
theorem r52_0 {call : zCall} {K : zT} {h : zH} {l0 : Nat} {l1 : Int32} {o2 : Option zV} (k : (0 < l1 → zWp zm52 call K 0 0 8 [some (.inr l0), some (.inl l1), some (.inl (0 : Int32))] [] h) ∧ (¬ 0 < l1 → K (some (.inl (-1 : Int32))) h)) : zWp zm52 call K 0 0 0 [some (.inr l0), some (.inl l1), o2] [] h := zGo [8] 400 k
theorem r52_8 {call : zCall} {K : zT} {h : zH} {l0 : Nat} {l1 : Int32} {l2 : Int32} (k : ((20 : Int32) ≤ l2 → K (some (.inl (-1 : Int32))) h) ∧ (¬ (20 : Int32) ≤ l2 → zK h l0 = 9 ∧ (zK h (zR h l0 0) = 1 ∨ zK h (zR h l0 0) = 101) ∧ vp_in l2 (zL h (zR h l0 0)) ∧ (¬ (zI h (zR h l0 0) l2.toNatClampNeg) = l1 → zWp zm52 call K 0 0 8 [some (.inr l0), some (.inl l1), some (.inl (l2 + (1 : Int32)))] [] h) ∧ ((zI h (zR h l0 0) l2.toNatClampNeg) = l1 → K (some (.inl l2)) h))) : zWp zm52 call K 0 0 8 [some (.inr l0), some (.inl l1), some (.inl l2)] [] h := zGo [8] 400 k
theorem r53_0 {call : zCall} {K : zT} {h : zH} {l0 : Nat} {l1 : Int32} {o2 : Option zV} (k : zK h l0 = 11 ∧ ¬ ((2 : Int32) * (l1 + (1 : Int32))) < 0 ∧ ((2 : Int32) * (l1 + (1 : Int32))).toNatClampNeg ≤ 100000 ∧ 0 + 1 ≤ zm53.2.2.1 ∧ 0 + ((2 : Int32) * (l1 + (1 : Int32))).toNatClampNeg ≤ zm53.2.2.2 ∧ ∀ h1, h1 = zNew h 1 ((2 : Int32) * (l1 + (1 : Int32))).toNatClampNeg → zK h1 l0 = 11 ∧ ∀ h2, h2 = zwR h1 l0 0 (zN h) → ¬ ((2 : Int32) * (l1 + (1 : Int32))) < 0 ∧ ((2 : Int32) * (l1 + (1 : Int32))).toNatClampNeg ≤ 100000 ∧ (0 + 1) + 1 ≤ zm53.2.2.1 ∧ (0 + ((2 : Int32) * (l1 + (1 : Int32))).toNatClampNeg) + ((2 : Int32) * (l1 + (1 : Int32))).toNatClampNeg ≤ zm53.2.2.2 ∧ ∀ h3, h3 = zNew h2 1 ((2 : Int32) * (l1 + (1 : Int32))).toNatClampNeg → zK h3 l0 = 11 ∧ ∀ h4, h4 = zwR h3 l0 1 (zN h2) → zWp zm53 call K ((0 + 1) + 1) ((0 + ((2 : Int32) * (l1 + (1 : Int32))).toNatClampNeg) + ((2 : Int32) * (l1 + (1 : Int32))).toNatClampNeg) 28 [some (.inr l0), some (.inl l1), some (.inl (0 : Int32))] [] h4) : zWp zm53 call K 0 0 0 [some (.inr l0), some (.inl l1), o2] [] h := zGo [28] 400 k
theorem r53_28 {call : zCall} {K : zT} {h : zH} {cu su : Nat} {l0 : Nat} {l1 : Int32} {l2 : Int32} (k : zK h l0 = 11 ∧ zK h (zR h l0 0) = 1 ∧ ((nI (zL h (zR h l0 0))) ≤ l2 → K none h) ∧ (¬ (nI (zL h (zR h l0 0))) ≤ l2 → zK h l0 = 11 ∧ zK h (zR h l0 0) = 1 ∧ vp_in l2 (zL h (zR h l0 0)) ∧ ∀ h1, h1 = zwI h (zR h l0 0) l2.toNatClampNeg (-1 : Int32) → zWp zm53 call K cu su 28 [some (.inr l0), some (.inl l1), some (.inl (l2 + (1 : Int32)))] [] h1)) : zWp zm53 call K cu su 28 [some (.inr l0), some (.inl l1), some (.inl l2)] [] h := zGo [28] 400 k
theorem r54_0 {call : zCall} {K : zT} {h : zH} {l0 : Nat} {l1 : Int32} {l2 : Int32} {l3 : Int32} {o4 : Option zV} {o5 : Option zV} (k : zWp zm54 call K 0 0 3 [some (.inr l0), some (.inl l1), some (.inl l2), some (.inl l3), some (.inl (0 : Int32)), o5] [] h) : zWp zm54 call K 0 0 0 [some (.inr l0), some (.inl l1), some (.inl l2), some (.inl l3), o4, o5] [] h := zGo [3] 400 k
theorem r54_3 {call : zCall} {K : zT} {h : zH} {l0 : Nat} {l1 : Int32} {l2 : Int32} {l3 : Int32} {l4 : Int32} {o5 : Option zV} (k : ((2 : Int32) ≤ l4 → K (some (.inl (-2 : Int32))) h) ∧ (¬ (2 : Int32) ≤ l4 → zK h l0 = 11 ∧ (zK h (zR h l0 0) = 1 ∨ zK h (zR h l0 0) = 101) ∧ vp_in (((2 : Int32) * l1) + l4) (zL h (zR h l0 0)) ∧ (¬ (zI h (zR h l0 0) (((2 : Int32) * l1) + l4).toNatClampNeg) = (-1 : Int32) → zWp zm54 call K 0 0 3 [some (.inr l0), some (.inl l1), some (.inl l2), some (.inl l3), some (.inl (l4 + (1 : Int32))), some (.inl (((2 : Int32) * l1) + l4))] [] h) ∧ ((zI h (zR h l0 0) (((2 : Int32) * l1) + l4).toNatClampNeg) = (-1 : Int32) → zK h l0 = 11 ∧ zK h (zR h l0 0) = 1 ∧ vp_in (((2 : Int32) * l1) + l4) (zL h (zR h l0 0)) ∧ ∀ h1, h1 = zwI h (zR h l0 0) (((2 : Int32) * l1) + l4).toNatClampNeg l2 → zK h1 l0 = 11 ∧ zK h1 (zR h1 l0 1) = 1 ∧ vp_in (((2 : Int32) * l1) + l4) (zL h1 (zR h1 l0 1)) ∧ ∀ h2, h2 = zwI h1 (zR h1 l0 1) (((2 : Int32) * l1) + l4).toNatClampNeg l3 → K (some (.inl (((100 : Int32) * l1) + l4))) h2))) : zWp zm54 call K 0 0 3 [some (.inr l0), some (.inl l1), some (.inl l2), some (.inl l3), some (.inl l4), o5] [] h := zGo [3] 400 k
theorem r55_0 {call : zCall} {K : zT} {h : zH} {l0 : Nat} {l1 : Int32} {l2 : Int32} {o3 : Option zV} {o4 : Option zV} (k : zK h l0 = 11 ∧ (zK h (zR h l0 0) = 1 ∨ zK h (zR h l0 0) = 101) ∧ vp_in (((2 : Int32) * l1) + l2) (zL h (zR h l0 0)) ∧ zK h l0 = 11 ∧ zK h (zR h l0 0) = 1 ∧ vp_in (((2 : Int32) * l1) + l2) (zL h (zR h l0 0)) ∧ ∀ h1, h1 = zwI h (zR h l0 0) (((2 : Int32) * l1) + l2).toNatClampNeg (-1 : Int32) → K (some (.inl (zI h (zR h l0 0) (((2 : Int32) * l1) + l2).toNatClampNeg))) h1) : zWp zm55 call K 0 0 0 [some (.inr l0), some (.inl l1), some (.inl l2), o3, o4] [] h := zGo [] 400 k
theorem r56_0 {call : zCall} {K : zT} {h : zH} {l0 : Nat} {l1 : Int32} {o2 : Option zV} (k : zWp zm56 call K 0 0 2 [some (.inr l0), some (.inl l1), some (.inl (0 : Int32))] [] h) : zWp zm56 call K 0 0 0 [some (.inr l0), some (.inl l1), o2] [] h := zGo [2] 400 k
theorem r56_2 {call : zCall} {K : zT} {h : zH} {l0 : Nat} {l1 : Int32} {l2 : Int32} (k : zK h l0 = 11 ∧ zK h (zR h l0 0) = 1 ∧ ((nI (zL h (zR h l0 0))) ≤ l2 → K none h) ∧ (¬ (nI (zL h (zR h l0 0))) ≤ l2 → zK h l0 = 11 ∧ (zK h (zR h l0 1) = 1 ∨ zK h (zR h l0 1) = 101) ∧ vp_in l2 (zL h (zR h l0 1)) ∧ (¬ (zI h (zR h l0 1) l2.toNatClampNeg) = l1 → zWp zm56 call K 0 0 2 [some (.inr l0), some (.inl l1), some (.inl (l2 + (1 : Int32)))] [] h) ∧ ((zI h (zR h l0 1) l2.toNatClampNeg) = l1 → zK h l0 = 11 ∧ zK h (zR h l0 0) = 1 ∧ vp_in l2 (zL h (zR h l0 0)) ∧ ∀ h1, h1 = zwI h (zR h l0 0) l2.toNatClampNeg (-1 : Int32) → zWp zm56 call K 0 0 2 [some (.inr l0), some (.inl l1), some (.inl (l2 + (1 : Int32)))] [] h1))) : zWp zm56 call K 0 0 2 [some (.inr l0), some (.inl l1), some (.inl l2)] [] h := zGo [2] 400 k
theorem r57_0 {call : zCall} {K : zT} {h : zH} {l0 : Nat} (k : zK h l0 = 13 ∧ K none h) : zWp zm57 call K 0 0 0 [some (.inr l0)] [] h := zGo [] 400 k
theorem r58_0 {call : zCall} {K : zT} {h : zH} {l0 : Nat} {l1 : Int32} {o2 : Option zV} (k : zK h l0 = 15 ∧ ¬ l1 < 0 ∧ l1.toNatClampNeg ≤ 100000 ∧ 0 + 1 ≤ zm58.2.2.1 ∧ 0 + l1.toNatClampNeg ≤ zm58.2.2.2 ∧ ∀ h1, h1 = zNew h 14 l1.toNatClampNeg → zK h1 l0 = 15 ∧ ∀ h2, h2 = zwR h1 l0 0 (zN h) → zWp zm58 call K (0 + 1) (0 + l1.toNatClampNeg) 14 [some (.inr l0), some (.inl l1), some (.inl (0 : Int32))] [] h2) : zWp zm58 call K 0 0 0 [some (.inr l0), some (.inl l1), o2] [] h := zGo [14, 31] 400 k
theorem r58_14 {call : zCall} {K : zT} {h : zH} {cu su : Nat} {l0 : Nat} {l1 : Int32} {l2 : Int32} (k : (l1 ≤ l2 → K none h) ∧ (¬ l1 ≤ l2 → zK h l0 = 15 ∧ cu + 1 ≤ zm58.2.2.1 ∧ su + 6 ≤ zm58.2.2.2 ∧ ∀ h1, h1 = zNew h 13 0 → zK h1 (zN h) = 13 ∧ (cu + 1) + zMc 57 ≤ zm58.2.2.1 ∧ (su + 6) + zMs 57 ≤ zm58.2.2.2 ∧ ∃ Q : zT, call 57 [.inr (zN h)] h1 Q ∧ ∀ v h2, Q v h2 → zWp zm58 call K ((cu + 1) + zMc 57) ((su + 6) + zMs 57) 31 [some (.inr l0), some (.inl l1), some (.inl l2)] (v.toList ++ [.inr (zN h), .inl l2, .inr (zR h l0 0)]) h2)) : zWp zm58 call K cu su 14 [some (.inr l0), some (.inl l1), some (.inl l2)] [] h := zGo [14, 31] 400 k
theorem r58_31 {call : zCall} {K : zT} {h : zH} {cu su : Nat} {l0 : Nat} {l1 : Int32} {l2 : Int32} {s0 : Nat} {s1 : Int32} {s2 : Nat} (k : zK h s0 = 14 ∧ zK h s2 = 13 ∧ vp_in s1 (zL h s0) ∧ ∀ h1, h1 = zwR h s0 s1.toNatClampNeg s2 → zWp zm58 call K cu su 14 [some (.inr l0), some (.inl l1), some (.inl (l2 + (1 : Int32)))] [] h1) : zWp zm58 call K cu su 31 [some (.inr l0), some (.inl l1), some (.inl l2)] [.inr s2, .inl s1, .inr s0] h := zGo [14, 31] 400 k
theorem r59_0 {call : zCall} {K : zT} {h : zH} {l0 : Nat} (k : zK h l0 = 15 ∧ zK h l0 = 15 ∧ zK h (zR h l0 0) = 14 ∧ (¬ (zI h l0 1) = (nI (zL h (zR h l0 0))) → ((0 : Int32) = 0 ∨ (0 : Int32) = 1) ∧ K (some (.inl (0 : Int32))) h) ∧ ((zI h l0 1) = (nI (zL h (zR h l0 0))) → ((1 : Int32) = 0 ∨ (1 : Int32) = 1) ∧ K (some (.inl (1 : Int32))) h)) : zWp zm59 call K 0 0 0 [some (.inr l0)] [] h := zGo [] 400 k
theorem r60_0 {call : zCall} {K : zT} {h : zH} {l0 : Nat} {l1 : Int32} {l2 : Int32} {l3 : Int32} {l4 : Int32} {l5 : Int32} {o6 : Option zV} (k : zK h l0 = 15 ∧ zK h l0 = 15 ∧ zK h (zR h l0 0) = 14 ∧ vp_in (zI h l0 1) (zL h (zR h l0 0)) ∧ zK h l0 = 15 ∧ zK h l0 = 15 ∧ ∀ h1, h1 = zwI h l0 1 ((zI h l0 1) + (1 : Int32)) → zK h1 l0 = 15 ∧ zK h1 l0 = 15 ∧ ∀ h2, h2 = zwI h1 l0 2 ((zI h1 l0 2) + (1 : Int32)) → zK h2 l0 = 15 ∧ zK h2 (zR h (zR h l0 0) (zI h l0 1).toNatClampNeg) = 13 ∧ ∀ h3, h3 = zwI h2 (zR h (zR h l0 0) (zI h l0 1).toNatClampNeg) 0 (zI h2 l0 2) → zK h3 (zR h (zR h l0 0) (zI h l0 1).toNatClampNeg) = 13 ∧ ∀ h4, h4 = zwI h3 (zR h (zR h l0 0) (zI h l0 1).toNatClampNeg) 1 l1 → zK h4 (zR h (zR h l0 0) (zI h l0 1).toNatClampNeg) = 13 ∧ ∀ h5, h5 = zwI h4 (zR h (zR h l0 0) (zI h l0 1).toNatClampNeg) 2 l2 → zK h5 (zR h (zR h l0 0) (zI h l0 1).toNatClampNeg) = 13 ∧ ∀ h6, h6 = zwI h5 (zR h (zR h l0 0) (zI h l0 1).toNatClampNeg) 3 l3 → zK h6 (zR h (zR h l0 0) (zI h l0 1).toNatClampNeg) = 13 ∧ ∀ h7, h7 = zwI h6 (zR h (zR h l0 0) (zI h l0 1).toNatClampNeg) 4 l4 → zK h7 (zR h (zR h l0 0) (zI h l0 1).toNatClampNeg) = 13 ∧ ∀ h8, h8 = zwI h7 (zR h (zR h l0 0) (zI h l0 1).toNatClampNeg) 5 l5 → zK h8 l0 = 15 ∧ K (some (.inl (zI h8 l0 2))) h8) : zWp zm60 call K 0 0 0 [some (.inr l0), some (.inl l1), some (.inl l2), some (.inl l3), some (.inl l4), some (.inl l5), o6] [] h := zGo [] 400 k
theorem r61_0 {call : zCall} {K : zT} {h : zH} {l0 : Nat} {l1 : Int32} {o2 : Option zV} (k : zWp zm61 call K 0 0 2 [some (.inr l0), some (.inl l1), some (.inl (0 : Int32))] [] h) : zWp zm61 call K 0 0 0 [some (.inr l0), some (.inl l1), o2] [] h := zGo [2] 400 k
theorem r61_2 {call : zCall} {K : zT} {h : zH} {l0 : Nat} {l1 : Int32} {l2 : Int32} (k : zK h l0 = 15 ∧ ((zI h l0 1) ≤ l2 → K (some (.inl (-1 : Int32))) h) ∧ (¬ (zI h l0 1) ≤ l2 → zK h l0 = 15 ∧ zK h (zR h l0 0) = 14 ∧ vp_in l2 (zL h (zR h l0 0)) ∧ zK h (zR h (zR h l0 0) l2.toNatClampNeg) = 13 ∧ (¬ (zI h (zR h (zR h l0 0) l2.toNatClampNeg) 0) = l1 → zWp zm61 call K 0 0 2 [some (.inr l0), some (.inl l1), some (.inl (l2 + (1 : Int32)))] [] h) ∧ ((zI h (zR h (zR h l0 0) l2.toNatClampNeg) 0) = l1 → K (some (.inl l2)) h))) : zWp zm61 call K 0 0 2 [some (.inr l0), some (.inl l1), some (.inl l2)] [] h := zGo [2] 400 k
theorem r62_0 {call : zCall} {K : zT} {h : zH} {l0 : Nat} {l1 : Int32} {l2 : Int32} {l3 : Int32} {o4 : Option zV} {o5 : Option zV} (k : zWp zm62 call K 0 0 3 [some (.inr l0), some (.inl l1), some (.inl l2), some (.inl l3), some (.inl (0 : Int32)), o5] [] h) : zWp zm62 call K 0 0 0 [some (.inr l0), some (.inl l1), some (.inl l2), some (.inl l3), o4, o5] [] h := zGo [3] 400 k
theorem r62_3 {call : zCall} {K : zT} {h : zH} {l0 : Nat} {l1 : Int32} {l2 : Int32} {l3 : Int32} {l4 : Int32} {o5 : Option zV} (k : zK h l0 = 15 ∧ ((zI h l0 1) ≤ l4 → K (some (.inl (-1 : Int32))) h) ∧ (¬ (zI h l0 1) ≤ l4 → zK h l0 = 15 ∧ zK h (zR h l0 0) = 14 ∧ vp_in l4 (zL h (zR h l0 0)) ∧ zK h (zR h (zR h l0 0) l4.toNatClampNeg) = 13 ∧ (¬ (zI h (zR h (zR h l0 0) l4.toNatClampNeg) 1) = l1 → zWp zm62 call K 0 0 3 [some (.inr l0), some (.inl l1), some (.inl l2), some (.inl l3), some (.inl (l4 + (1 : Int32))), some (.inr (zR h (zR h l0 0) l4.toNatClampNeg))] [] h) ∧ ((zI h (zR h (zR h l0 0) l4.toNatClampNeg) 1) = l1 → zK h (zR h (zR h l0 0) l4.toNatClampNeg) = 13 ∧ (¬ (zI h (zR h (zR h l0 0) l4.toNatClampNeg) 2) = l2 → zWp zm62 call K 0 0 3 [some (.inr l0), some (.inl l1), some (.inl l2), some (.inl l3), some (.inl (l4 + (1 : Int32))), some (.inr (zR h (zR h l0 0) l4.toNatClampNeg))] [] h) ∧ ((zI h (zR h (zR h l0 0) l4.toNatClampNeg) 2) = l2 → zK h (zR h (zR h l0 0) l4.toNatClampNeg) = 13 ∧ (¬ (zI h (zR h (zR h l0 0) l4.toNatClampNeg) 3) = l3 → zWp zm62 call K 0 0 3 [some (.inr l0), some (.inl l1), some (.inl l2), some (.inl l3), some (.inl (l4 + (1 : Int32))), some (.inr (zR h (zR h l0 0) l4.toNatClampNeg))] [] h) ∧ ((zI h (zR h (zR h l0 0) l4.toNatClampNeg) 3) = l3 → K (some (.inl l4)) h))))) : zWp zm62 call K 0 0 3 [some (.inr l0), some (.inl l1), some (.inl l2), some (.inl l3), some (.inl l4), o5] [] h := zGo [3] 400 k
theorem r63_0 {call : zCall} {K : zT} {h : zH} {l0 : Nat} {l1 : Int32} {l2 : Int32} {o3 : Option zV} {o4 : Option zV} (k : zWp zm63 call K 0 0 2 [some (.inr l0), some (.inl l1), some (.inl l2), some (.inl (0 : Int32)), o4] [] h) : zWp zm63 call K 0 0 0 [some (.inr l0), some (.inl l1), some (.inl l2), o3, o4] [] h := zGo [2] 400 k
theorem r63_2 {call : zCall} {K : zT} {h : zH} {l0 : Nat} {l1 : Int32} {l2 : Int32} {l3 : Int32} {o4 : Option zV} (k : zK h l0 = 15 ∧ ((zI h l0 1) ≤ l3 → K (some (.inl (-1 : Int32))) h) ∧ (¬ (zI h l0 1) ≤ l3 → zK h l0 = 15 ∧ zK h (zR h l0 0) = 14 ∧ vp_in l3 (zL h (zR h l0 0)) ∧ zK h (zR h (zR h l0 0) l3.toNatClampNeg) = 13 ∧ (¬ (zI h (zR h (zR h l0 0) l3.toNatClampNeg) 1) = (2 : Int32) → zWp zm63 call K 0 0 2 [some (.inr l0), some (.inl l1), some (.inl l2), some (.inl (l3 + (1 : Int32))), some (.inr (zR h (zR h l0 0) l3.toNatClampNeg))] [] h) ∧ ((zI h (zR h (zR h l0 0) l3.toNatClampNeg) 1) = (2 : Int32) → zK h (zR h (zR h l0 0) l3.toNatClampNeg) = 13 ∧ (¬ (zI h (zR h (zR h l0 0) l3.toNatClampNeg) 2) = l1 → zWp zm63 call K 0 0 2 [some (.inr l0), some (.inl l1), some (.inl l2), some (.inl (l3 + (1 : Int32))), some (.inr (zR h (zR h l0 0) l3.toNatClampNeg))] [] h) ∧ ((zI h (zR h (zR h l0 0) l3.toNatClampNeg) 2) = l1 → zK h (zR h (zR h l0 0) l3.toNatClampNeg) = 13 ∧ (¬ (zI h (zR h (zR h l0 0) l3.toNatClampNeg) 5) = l2 → zWp zm63 call K 0 0 2 [some (.inr l0), some (.inl l1), some (.inl l2), some (.inl (l3 + (1 : Int32))), some (.inr (zR h (zR h l0 0) l3.toNatClampNeg))] [] h) ∧ ((zI h (zR h (zR h l0 0) l3.toNatClampNeg) 5) = l2 → K (some (.inl l3)) h))))) : zWp zm63 call K 0 0 2 [some (.inr l0), some (.inl l1), some (.inl l2), some (.inl l3), o4] [] h := zGo [2] 400 k
theorem r64_0 {call : zCall} {K : zT} {h : zH} {l0 : Nat} {l1 : Int32} {o2 : Option zV} {o3 : Option zV} (k : (l1 < 0 → K none h) ∧ (¬ l1 < 0 → zK h l0 = 15 ∧ (l1 < (zI h l0 1) → zK h l0 = 15 ∧ zK h (zR h l0 0) = 14 ∧ vp_in l1 (zL h (zR h l0 0)) ∧ zK h l0 = 15 ∧ zK h l0 = 15 ∧ ∀ h1, h1 = zwI h l0 1 ((zI h l0 1) - (1 : Int32)) → zWp zm64 call K 0 0 32 [some (.inr l0), some (.inl l1), some (.inr (zR h (zR h l0 0) l1.toNatClampNeg)), some (.inl l1)] [] h1) ∧ (¬ l1 < (zI h l0 1) → K none h))) : zWp zm64 call K 0 0 0 [some (.inr l0), some (.inl l1), o2, o3] [] h := zGo [32] 400 k
theorem r64_32 {call : zCall} {K : zT} {h : zH} {l0 : Nat} {l1 : Int32} {l2 : Nat} {l3 : Int32} (k : zK h l0 = 15 ∧ ((zI h l0 1) ≤ l3 → zK h l0 = 15 ∧ zK h l0 = 15 ∧ zK h (zR h l0 0) = 14 ∧ zK h l2 = 13 ∧ vp_in (zI h l0 1) (zL h (zR h l0 0)) ∧ ∀ h1, h1 = zwR h (zR h l0 0) (zI h l0 1).toNatClampNeg l2 → K none h1) ∧ (¬ (zI h l0 1) ≤ l3 → zK h l0 = 15 ∧ zK h l0 = 15 ∧ zK h (zR h l0 0) = 14 ∧ vp_in (l3 + (1 : Int32)) (zL h (zR h l0 0)) ∧ zK h (zR h l0 0) = 14 ∧ zK h (zR h (zR h l0 0) (l3 + (1 : Int32)).toNatClampNeg) = 13 ∧ vp_in l3 (zL h (zR h l0 0)) ∧ ∀ h2, h2 = zwR h (zR h l0 0) l3.toNatClampNeg (zR h (zR h l0 0) (l3 + (1 : Int32)).toNatClampNeg) → zWp zm64 call K 0 0 32 [some (.inr l0), some (.inl l1), some (.inr l2), some (.inl (l3 + (1 : Int32)))] [] h2)) : zWp zm64 call K 0 0 32 [some (.inr l0), some (.inl l1), some (.inr l2), some (.inl l3)] [] h := zGo [32] 400 k
theorem r65_0 {call : zCall} {K : zT} {h : zH} {l0 : Nat} (k : zK h l0 = 17 ∧ K none h) : zWp zm65 call K 0 0 0 [some (.inr l0)] [] h := zGo [] 400 k
theorem r66_0 {call : zCall} {K : zT} {h : zH} {l0 : Nat} {l1 : Nat} (k : zK h l1 = 17 ∧ zK h l0 = 17 ∧ ∀ h1, h1 = zwI h l0 0 (zI h l1 0) → zK h1 l1 = 17 ∧ zK h1 l0 = 17 ∧ ∀ h2, h2 = zwI h1 l0 1 (zI h1 l1 1) → zK h2 l1 = 17 ∧ zK h2 l0 = 17 ∧ ∀ h3, h3 = zwI h2 l0 2 (zI h2 l1 2) → zK h3 l1 = 17 ∧ zK h3 l0 = 17 ∧ ∀ h4, h4 = zwI h3 l0 3 (zI h3 l1 3) → zK h4 l1 = 17 ∧ zK h4 l0 = 17 ∧ ∀ h5, h5 = zwI h4 l0 4 (zI h4 l1 4) → zK h5 l1 = 17 ∧ zK h5 l0 = 17 ∧ ∀ h6, h6 = zwI h5 l0 5 (zI h5 l1 5) → zK h6 l1 = 17 ∧ zK h6 l0 = 17 ∧ ∀ h7, h7 = zwI h6 l0 6 (zI h6 l1 6) → K none h7) : zWp zm66 call K 0 0 0 [some (.inr l0), some (.inr l1)] [] h := zGo [] 400 k
theorem r67_0 {call : zCall} {K : zT} {h : zH} {l0 : Nat} {l1 : Int32} (k : (l1.toInt < 0 ∨ 7 < l1.toInt → K (some (.inl (-9 : Int32))) h) ∧ (l1.toInt = 0 → zK h l0 = 17 ∧ K (some (.inl (zI h l0 0))) h) ∧ (l1.toInt = 1 → zK h l0 = 17 ∧ K (some (.inl (zI h l0 1))) h) ∧ (l1.toInt = 2 → zK h l0 = 17 ∧ ¬ (10 : Int32) = 0 ∧ K (some (.inl ((zI h l0 2) / (10 : Int32)))) h) ∧ (l1.toInt = 3 → zK h l0 = 17 ∧ ¬ (10 : Int32) = 0 ∧ K (some (.inl ((zI h l0 2) - (zI h l0 2) / (10 : Int32) * (10 : Int32)))) h) ∧ (l1.toInt = 4 → zK h l0 = 17 ∧ K (some (.inl (zI h l0 3))) h) ∧ (l1.toInt = 5 → zK h l0 = 17 ∧ K (some (.inl (zI h l0 4))) h) ∧ (l1.toInt = 6 → zK h l0 = 17 ∧ K (some (.inl (zI h l0 5))) h) ∧ (l1.toInt = 7 → zK h l0 = 17 ∧ K (some (.inl (zI h l0 6))) h) ∧ True) : zWp zm67 call K 0 0 0 [some (.inr l0), some (.inl l1)] [] h := zGo [] 400 k
theorem r68_0 {call : zCall} {K : zT} {h : zH} {l0 : Nat} {o1 : Option zV} (k : zK h l0 = 19 ∧ ¬ (24 : Int32) < 0 ∧ (24 : Int32).toNatClampNeg ≤ 100000 ∧ 0 + 1 ≤ zm68.2.2.1 ∧ 0 + (24 : Int32).toNatClampNeg ≤ zm68.2.2.2 ∧ ∀ h1, h1 = zNew h 18 (24 : Int32).toNatClampNeg → zK h1 l0 = 19 ∧ ∀ h2, h2 = zwR h1 l0 0 (zN h) → zWp zm68 call K (0 + 1) (0 + (24 : Int32).toNatClampNeg) 15 [some (.inr l0), some (.inl (0 : Int32))] [] h2) : zWp zm68 call K 0 0 0 [some (.inr l0), o1] [] h := zGo [15, 33] 400 k
theorem r68_15 {call : zCall} {K : zT} {h : zH} {cu su : Nat} {l0 : Nat} {l1 : Int32} (k : ((24 : Int32) ≤ l1 → K none h) ∧ (¬ (24 : Int32) ≤ l1 → zK h l0 = 19 ∧ cu + 1 ≤ zm68.2.2.1 ∧ su + 7 ≤ zm68.2.2.2 ∧ ∀ h1, h1 = zNew h 17 0 → zK h1 (zN h) = 17 ∧ (cu + 1) + zMc 65 ≤ zm68.2.2.1 ∧ (su + 7) + zMs 65 ≤ zm68.2.2.2 ∧ ∃ Q : zT, call 65 [.inr (zN h)] h1 Q ∧ ∀ v h2, Q v h2 → zWp zm68 call K ((cu + 1) + zMc 65) ((su + 7) + zMs 65) 33 [some (.inr l0), some (.inl l1)] (v.toList ++ [.inr (zN h), .inl l1, .inr (zR h l0 0)]) h2)) : zWp zm68 call K cu su 15 [some (.inr l0), some (.inl l1)] [] h := zGo [15, 33] 400 k
theorem r68_33 {call : zCall} {K : zT} {h : zH} {cu su : Nat} {l0 : Nat} {l1 : Int32} {s0 : Nat} {s1 : Int32} {s2 : Nat} (k : zK h s0 = 18 ∧ zK h s2 = 17 ∧ vp_in s1 (zL h s0) ∧ ∀ h1, h1 = zwR h s0 s1.toNatClampNeg s2 → zWp zm68 call K cu su 15 [some (.inr l0), some (.inl (l1 + (1 : Int32)))] [] h1) : zWp zm68 call K cu su 33 [some (.inr l0), some (.inl l1)] [.inr s2, .inl s1, .inr s0] h := zGo [15, 33] 400 k
theorem r69_0 {call : zCall} {K : zT} {h : zH} {l0 : Nat} {l1 : Int32} (k : (l1 < 0 → ((0 : Int32) = 0 ∨ (0 : Int32) = 1) ∧ K (some (.inl (0 : Int32))) h) ∧ (¬ l1 < 0 → zK h l0 = 19 ∧ ((zI h l0 1) ≤ l1 → ((0 : Int32) = 0 ∨ (0 : Int32) = 1) ∧ K (some (.inl (0 : Int32))) h) ∧ (¬ (zI h l0 1) ≤ l1 → ((1 : Int32) = 0 ∨ (1 : Int32) = 1) ∧ K (some (.inl (1 : Int32))) h))) : zWp zm69 call K 0 0 0 [some (.inr l0), some (.inl l1)] [] h := zGo [] 400 k
theorem r70_0 {call : zCall} {K : zT} {h : zH} {l0 : Nat} (k : zK h l0 = 19 ∧ (¬ (zI h l0 1) = (24 : Int32) → ((0 : Int32) = 0 ∨ (0 : Int32) = 1) ∧ K (some (.inl (0 : Int32))) h) ∧ ((zI h l0 1) = (24 : Int32) → ((1 : Int32) = 0 ∨ (1 : Int32) = 1) ∧ K (some (.inl (1 : Int32))) h)) : zWp zm70 call K 0 0 0 [some (.inr l0)] [] h := zGo [] 400 k
theorem r71_0 {call : zCall} {K : zT} {h : zH} {l0 : Nat} {l1 : Int32} {l2 : Int32} {l3 : Int32} {l4 : Int32} {l5 : Int32} {l6 : Int32} {l7 : Int32} {o8 : Option zV} (k : zK h l0 = 19 ∧ ∃ Q : zT, call 70 [.inr l0] h Q ∧ ∀ v h1, Q v h1 → zWp zm71 call K 0 0 4 [some (.inr l0), some (.inl l1), some (.inl l2), some (.inl l3), some (.inl l4), some (.inl l5), some (.inl l6), some (.inl l7), o8] (v.toList ++ []) h1) : zWp zm71 call K 0 0 0 [some (.inr l0), some (.inl l1), some (.inl l2), some (.inl l3), some (.inl l4), some (.inl l5), some (.inl l6), some (.inl l7), o8] [] h := zGo [4] 400 k
theorem r71_4 {call : zCall} {K : zT} {h : zH} {l0 : Nat} {l1 : Int32} {l2 : Int32} {l3 : Int32} {l4 : Int32} {l5 : Int32} {l6 : Int32} {l7 : Int32} {o8 : Option zV} {s0 : Int32} (k : (s0 = 0 → zK h l0 = 19 ∧ zK h l0 = 19 ∧ zK h (zR h l0 0) = 18 ∧ vp_in (zI h l0 1) (zL h (zR h l0 0)) ∧ zK h l0 = 19 ∧ zK h l0 = 19 ∧ ∀ h1, h1 = zwI h l0 1 ((zI h l0 1) + (1 : Int32)) → zK h1 (zR h (zR h l0 0) (zI h l0 1).toNatClampNeg) = 17 ∧ ∀ h2, h2 = zwI h1 (zR h (zR h l0 0) (zI h l0 1).toNatClampNeg) 0 l1 → zK h2 (zR h (zR h l0 0) (zI h l0 1).toNatClampNeg) = 17 ∧ ∀ h3, h3 = zwI h2 (zR h (zR h l0 0) (zI h l0 1).toNatClampNeg) 1 l2 → zK h3 (zR h (zR h l0 0) (zI h l0 1).toNatClampNeg) = 17 ∧ ∀ h4, h4 = zwI h3 (zR h (zR h l0 0) (zI h l0 1).toNatClampNeg) 2 l3 → zK h4 (zR h (zR h l0 0) (zI h l0 1).toNatClampNeg) = 17 ∧ ∀ h5, h5 = zwI h4 (zR h (zR h l0 0) (zI h l0 1).toNatClampNeg) 3 l4 → zK h5 (zR h (zR h l0 0) (zI h l0 1).toNatClampNeg) = 17 ∧ ∀ h6, h6 = zwI h5 (zR h (zR h l0 0) (zI h l0 1).toNatClampNeg) 4 l5 → zK h6 (zR h (zR h l0 0) (zI h l0 1).toNatClampNeg) = 17 ∧ ∀ h7, h7 = zwI h6 (zR h (zR h l0 0) (zI h l0 1).toNatClampNeg) 5 l6 → zK h7 (zR h (zR h l0 0) (zI h l0 1).toNatClampNeg) = 17 ∧ ∀ h8, h8 = zwI h7 (zR h (zR h l0 0) (zI h l0 1).toNatClampNeg) 6 l7 → K none h8) ∧ (¬ s0 = 0 → K none h)) : zWp zm71 call K 0 0 4 [some (.inr l0), some (.inl l1), some (.inl l2), some (.inl l3), some (.inl l4), some (.inl l5), some (.inl l6), some (.inl l7), o8] [.inl s0] h := zGo [4] 400 k
theorem r72_0 {call : zCall} {K : zT} {h : zH} {l0 : Nat} {l1 : Int32} (k : zK h l0 = 19 ∧ zK h l0 = 19 ∧ zK h (zR h l0 0) = 18 ∧ vp_in (zI h l0 1) (zL h (zR h l0 0)) ∧ zK h l0 = 19 ∧ zK h (zR h l0 0) = 18 ∧ vp_in l1 (zL h (zR h l0 0)) ∧ zK h (zR h (zR h l0 0) (zI h l0 1).toNatClampNeg) = 17 ∧ ∃ Q : zT, call 66 [.inr (zR h (zR h l0 0) (zI h l0 1).toNatClampNeg), .inr (zR h (zR h l0 0) l1.toNatClampNeg)] h Q ∧ ∀ v h1, Q v h1 → zWp zm72 call K 0 0 18 [some (.inr l0), some (.inl l1)] (v.toList ++ []) h1) : zWp zm72 call K 0 0 0 [some (.inr l0), some (.inl l1)] [] h := zGo [18] 400 k
theorem r72_18 {call : zCall} {K : zT} {h : zH} {l0 : Nat} {l1 : Int32} (k : zK h l0 = 19 ∧ zK h l0 = 19 ∧ ∀ h1, h1 = zwI h l0 1 ((zI h l0 1) + (1 : Int32)) → K none h1) : zWp zm72 call K 0 0 18 [some (.inr l0), some (.inl l1)] [] h := zGo [18] 400 k
theorem r73_0 {call : zCall} {K : zT} {h : zH} {l0 : Nat} {l1 : Int32} {o2 : Option zV} {o3 : Option zV} (k : zK h l0 = 19 ∧ zK h (zR h l0 0) = 18 ∧ vp_in l1 (zL h (zR h l0 0)) ∧ zK h l0 = 19 ∧ zK h l0 = 19 ∧ ∀ h1, h1 = zwI h l0 1 ((zI h l0 1) - (1 : Int32)) → zWp zm73 call K 0 0 19 [some (.inr l0), some (.inl l1), some (.inr (zR h (zR h l0 0) l1.toNatClampNeg)), some (.inl l1)] [] h1) : zWp zm73 call K 0 0 0 [some (.inr l0), some (.inl l1), o2, o3] [] h := zGo [19] 400 k
theorem r73_19 {call : zCall} {K : zT} {h : zH} {l0 : Nat} {l1 : Int32} {l2 : Nat} {l3 : Int32} (k : zK h l0 = 19 ∧ ((zI h l0 1) ≤ l3 → zK h l0 = 19 ∧ zK h l0 = 19 ∧ zK h (zR h l0 0) = 18 ∧ zK h l2 = 17 ∧ vp_in (zI h l0 1) (zL h (zR h l0 0)) ∧ ∀ h1, h1 = zwR h (zR h l0 0) (zI h l0 1).toNatClampNeg l2 → K none h1) ∧ (¬ (zI h l0 1) ≤ l3 → zK h l0 = 19 ∧ zK h l0 = 19 ∧ zK h (zR h l0 0) = 18 ∧ vp_in (l3 + (1 : Int32)) (zL h (zR h l0 0)) ∧ zK h (zR h l0 0) = 18 ∧ zK h (zR h (zR h l0 0) (l3 + (1 : Int32)).toNatClampNeg) = 17 ∧ vp_in l3 (zL h (zR h l0 0)) ∧ ∀ h2, h2 = zwR h (zR h l0 0) l3.toNatClampNeg (zR h (zR h l0 0) (l3 + (1 : Int32)).toNatClampNeg) → zWp zm73 call K 0 0 19 [some (.inr l0), some (.inl l1), some (.inr l2), some (.inl (l3 + (1 : Int32)))] [] h2)) : zWp zm73 call K 0 0 19 [some (.inr l0), some (.inl l1), some (.inr l2), some (.inl l3)] [] h := zGo [19] 400 k
end
section
/-! ===== contracts over the small machine: how a call begins, searches ===== -/
theorem zD_of {d y : Nat} {as : List zV} {h : zH} {K : zT} (hl : Nat.ble as.length (zMl y) = true) (k : zWp (zTab y) (zD d) K 0 0 0 (as.map some ++ List.replicate (zMl y - as.length) none) [] h) : zD (d + 1) y as h K := by
  unfold zD
  rw [hl]
  exact k
theorem drop_at {α : Type} {L : List α} {j : Nat} {x : α} (h : L[j]? = some x) : L.drop j = x :: L.drop (j + 1) := by
  obtain ⟨hlt, e⟩ := List.getElem?_eq_some_iff.mp h
  rw [List.drop_eq_getElem_cons hlt, e]
theorem at_lt {α : Type} {L : List α} {j : Nat} (h : j < L.length) : ∃ x, L[j]? = some x := ⟨_, List.getElem?_eq_getElem h⟩
theorem lt_at {α : Type} {L : List α} {j : Nat} {x : α} (h : L[j]? = some x) : j < L.length := (List.getElem?_eq_some_iff.mp h).1
/-- the first place from j on where P holds, or none -/
def sFx {α : Type} (P : α → Bool) (L : List α) (j : Nat) : Option Nat := ((L.drop j).findIdx? P).map (fun k => j + k)
/-- the same as an int: -1 where there is none -/
def sIx {α : Type} (P : α → Bool) (L : List α) (j : Nat) : Int32 := match sFx P L j with
  | some k => nI k
  | none => -1
theorem sFx_end {α : Type} {P : α → Bool} {L : List α} {j : Nat} (h : L.length ≤ j) : sFx P L j = none := by
  unfold sFx; rw [List.drop_eq_nil_of_le h]; rfl
theorem sFx_hit {α : Type} {P : α → Bool} {L : List α} {j : Nat} {x : α} (h : L[j]? = some x) (hp : P x = true) : sFx P L j = some j := by
  unfold sFx; rw [drop_at h, List.findIdx?_cons, hp]; rfl
theorem sFx_miss {α : Type} {P : α → Bool} {L : List α} {j : Nat} {x : α} (h : L[j]? = some x) (hp : P x = false) : sFx P L j = sFx P L (j + 1) := by
  unfold sFx; rw [drop_at h, List.findIdx?_cons, hp]
  cases (L.drop (j + 1)).findIdx? P with
  | none => rfl
  | some k => show some (j + (k + 1)) = some (j + 1 + k); congr 1; omega
theorem sIx_end {α : Type} {P : α → Bool} {L : List α} {j : Nat} (h : L.length ≤ j) : sIx P L j = -1 := by unfold sIx; rw [sFx_end h]
theorem sIx_hit {α : Type} {P : α → Bool} {L : List α} {j : Nat} {x : α} (h : L[j]? = some x) (hp : P x = true) : sIx P L j = nI j := by unfold sIx; rw [sFx_hit h hp]
theorem sIx_miss {α : Type} {P : α → Bool} {L : List α} {j : Nat} {x : α} (h : L[j]? = some x) (hp : P x = false) : sIx P L j = sIx P L (j + 1) := by unfold sIx; rw [sFx_miss h hp]
/-- what a search finds -/
theorem sFx_some {α : Type} {P : α → Bool} {L : List α} {k : Nat} (h : sFx P L 0 = some k) : ∃ x, L[k]? = some x ∧ P x = true ∧ ∀ j y, j < k → L[j]? = some y → P y = false := by
  unfold sFx at h
  rw [List.drop_zero] at h
  cases hf : L.findIdx? P with
  | none => rw [hf] at h; cases h
  | some q =>
    rw [hf] at h
    have h : some (0 + q) = some k := h
    have hq : q = k := by have := Option.some.inj h; omega
    subst hq
    obtain ⟨h1, h2, h3⟩ := List.findIdx?_eq_some_iff_getElem.mp hf
    refine ⟨L[q], List.getElem?_eq_getElem h1, h2, fun j y hj hy => ?_⟩
    obtain ⟨hl, e⟩ := List.getElem?_eq_some_iff.mp hy
    have := h3 j hj
    rw [e] at this
    simpa using this
theorem sFx_none {α : Type} {P : α → Bool} {L : List α} (h : sFx P L 0 = none) : ∀ x ∈ L, P x = false := by
  unfold sFx at h
  rw [List.drop_zero] at h
  cases hf : L.findIdx? P with
  | none => intro x hx; simpa using (List.findIdx?_eq_none_iff.mp hf) x hx
  | some q => rw [hf] at h; cases h
theorem sIx_neg {α : Type} {P : α → Bool} {L : List α} (hl : L.length < 2 ^ 31) : sIx P L 0 = -1 ↔ sFx P L 0 = none := by
  unfold sIx
  cases hf : sFx P L 0 with
  | none => simp
  | some k =>
    obtain ⟨x, hx, -⟩ := sFx_some hf
    have hk := lt_at hx
    refine ⟨fun e => ?_, fun e => by cases e⟩
    have e : nI k = -1 := e
    have hp := nI_pos (show k < 2 ^ 31 by omega)
    rw [e] at hp
    exact absurd (by decide) hp
theorem sIx_pos {α : Type} {P : α → Bool} {L : List α} {k : Nat} (hf : sFx P L 0 = some k) : sIx P L 0 = nI k := by
  unfold sIx; rw [hf]
/-- two heaps alike but for the cells of A: kinds, lengths, number too -/
def zSame (A : Nat → Prop) (h h' : zH) : Prop := (∀ b, zK h' b = zK h b) ∧ (∀ b, zL h' b = zL h b) ∧ zN h' = zN h ∧ ∀ b, ¬ A b → ∀ j, zI h' b j = zI h b j ∧ zR h' b j = zR h b j
theorem zSame.rf {A : Nat → Prop} {h : zH} : zSame A h h := ⟨fun _ => rfl, fun _ => rfl, rfl, fun _ _ _ => ⟨rfl, rfl⟩⟩
theorem zSame.tr {A : Nat → Prop} {h h1 h2 : zH} (a : zSame A h h1) (b : zSame A h1 h2) : zSame A h h2 := ⟨fun q => (b.1 q).trans (a.1 q), fun q => (b.2.1 q).trans (a.2.1 q), b.2.2.1.trans a.2.2.1, fun q hq j => ⟨(b.2.2.2 q hq j).1.trans (a.2.2.2 q hq j).1, (b.2.2.2 q hq j).2.trans (a.2.2.2 q hq j).2⟩⟩
theorem zSame.wd {A B : Nat → Prop} {h h' : zH} (a : zSame A h h') (hAB : ∀ b, A b → B b) : zSame B h h' := ⟨a.1, a.2.1, a.2.2.1, fun q hq j => a.2.2.2 q (fun z => hq (hAB q z)) j⟩
theorem zSame.wI {A : Nat → Prop} {h : zH} {a k : Nat} {v : Int32} (ha : A a) : zSame A h (zwI h a k v) := ⟨fun _ => rfl, fun _ => rfl, rfl, fun b hb j => ⟨by rw [zI_wI, if_neg (fun q => hb (by rw [q.1]; exact ha))], rfl⟩⟩
theorem zSame.wR {A : Nat → Prop} {h : zH} {a k v : Nat} (ha : A a) : zSame A h (zwR h a k v) := ⟨fun _ => rfl, fun _ => rfl, rfl, fun b hb j => ⟨rfl, by rw [zR_wR, if_neg (fun q => hb (by rw [q.1]; exact ha))]⟩⟩
theorem zI_at {h : zH} {a k : Nat} {v : Int32} : zI (zwI h a k v) a k = v := by rw [zI_wI, if_pos ⟨rfl, rfl⟩]
theorem zI_oa {h : zH} {a k : Nat} {v : Int32} {b j : Nat} (e : b ≠ a) : zI (zwI h a k v) b j = zI h b j := by rw [zI_wI, if_neg (fun q => e q.1)]
theorem zI_ok {h : zH} {a k : Nat} {v : Int32} {b j : Nat} (e : j ≠ k) : zI (zwI h a k v) b j = zI h b j := by rw [zI_wI, if_neg (fun q => e q.2)]
theorem zR_at {h : zH} {a k v : Nat} : zR (zwR h a k v) a k = v := by rw [zR_wR, if_pos ⟨rfl, rfl⟩]
theorem zR_oa {h : zH} {a k v : Nat} {b j : Nat} (e : b ≠ a) : zR (zwR h a k v) b j = zR h b j := by rw [zR_wR, if_neg (fun q => e q.1)]
theorem zR_ok {h : zH} {a k v : Nat} {b j : Nat} (e : j ≠ k) : zR (zwR h a k v) b j = zR h b j := by rw [zR_wR, if_neg (fun q => e q.2)]
end
section
/-! ===== Places: the cancellations ===== -/
def gC (h : zH) : Prop := zK h 10 = 7 ∧ zR h 10 0 = 11 ∧ zK h 11 = 1 ∧ zL h 11 = 6
def xC (h : zH) (C : List Int32) : Prop := C.length ≤ 6 ∧ zI h 10 1 = nI C.length ∧ ∀ j x, C[j]? = some x → zI h 11 j = x
theorem c47 {d : Nat} {h : zH} {C : List Int32} {p : Int32} (g : gC h) (c : xC h C) : zD (d + 1) 47 [.inr 10, .inl p] h (fun v h' => v = some (.inl (sIx (fun x => decide (x = p)) C 0)) ∧ h = h') := by
  obtain ⟨g1, g2, g3, g4⟩ := g
  obtain ⟨c1, c2, c3⟩ := c
  refine zD_of rfl (r47_0 ?_)
  suffices H : ∀ m j, C.length - j = m → j ≤ C.length → sIx (fun x => decide (x = p)) C j = sIx (fun x => decide (x = p)) C 0 → zWp zm47 (zD d) (fun v h' => v = some (.inl (sIx (fun x => decide (x = p)) C 0)) ∧ h = h') 0 0 2 [some (.inr 10), some (.inl p), some (.inl (nI j))] [] h from H _ 0 rfl (Nat.zero_le _) rfl
  intro m
  induction m with
  | zero =>
    intro j hm hj hs
    refine r47_2 ?_
    simp only [g1, g2, g3, g4, c2, true_and, true_or]
    exact ⟨fun _ => ⟨by rw [← hs, sIx_end (by omega)], trivial⟩, fun q => absurd (nI_le (by omega) (by omega)) q⟩
  | succ m ih =>
    intro j hm hj hs
    have hlt : j < C.length := by omega
    obtain ⟨x, hx⟩ := at_lt hlt
    refine r47_2 ?_
    simp only [g1, g2, g3, g4, c2, nI_clamp (show j < 2 ^ 31 by omega), c3 j x hx, true_and, true_or]
    refine ⟨fun q => absurd q (nI_ge hlt (by omega)), fun _ => ⟨vp_in_nI (by omega) (by omega), fun q => ?_, fun q => ?_⟩⟩
    · rw [nI_1]
      exact ih (j + 1) (by omega) (by omega) (by rw [← hs, sIx_miss hx (by simpa using q)])
    · exact ⟨by rw [← hs, sIx_hit hx (by simpa using q)], trivial⟩
theorem c42 {d : Nat} {h : zH} {C : List Int32} (g : gC h) (c : xC h C) : zD (d + 1) 42 [.inr 10] h (fun v h' => v = some (.inl (if C.length = 6 then 1 else 0)) ∧ h = h') := by
  obtain ⟨g1, g2, g3, g4⟩ := g
  obtain ⟨c1, c2, c3⟩ := c
  refine zD_of rfl (r42_0 ?_)
  simp only [g1, c2, true_and]
  refine ⟨fun q => ⟨Or.inl trivial, ?_, trivial⟩, fun q => ⟨Or.inr trivial, ?_, trivial⟩⟩
  · rw [if_neg (fun e => q (by rw [e]; rfl))]
  · rw [if_pos ((nI_eq (b := 6) (by omega) (by omega)).mp q)]
theorem c43 {d : Nat} {h : zH} {C : List Int32} {p : Int32} (g : gC h) (c : xC h C) : zD (d + 2) 43 [.inr 10, .inl p] h (fun v h' => v = some (.inl (if p ∈ C then 1 else 0)) ∧ h = h') := by
  refine zD_of rfl (r43_0 ⟨g.1, _, c47 g c, ?_⟩)
  rintro v h1 ⟨rfl, rfl⟩
  refine r43_5 ⟨fun q => ⟨Or.inl rfl, ?_, rfl⟩, fun q => ⟨Or.inr rfl, ?_, rfl⟩⟩
  · have hn := (sIx_neg (by have := c.1; omega)).mp q
    rw [if_neg (fun hm => by have := sFx_none hn p hm; simp at this)]
  · have hn : ¬ sFx (fun x => decide (x = p)) C 0 = none := fun e => q ((sIx_neg (by have := c.1; omega)).mpr e)
    obtain ⟨k, hk⟩ := Option.ne_none_iff_exists'.mp hn
    obtain ⟨x, hx, hp, -⟩ := sFx_some hk
    have e : x = p := of_decide_eq_true hp
    rw [if_pos (by rw [← e]; exact List.mem_of_getElem? hx)]
theorem c44 {d : Nat} {h : zH} {C : List Int32} {k : Int32} (g : gC h) (c : xC h C) : zD (d + 1) 44 [.inr 10, .inl k] h (fun v h' => v = some (.inl (if 0 ≤ k then (C[k.toNatClampNeg]?).getD (-1) else -1)) ∧ h = h') := by
  obtain ⟨g1, g2, g3, g4⟩ := g
  obtain ⟨c1, c2, c3⟩ := c
  refine zD_of rfl (r44_0 ?_)
  refine ⟨fun q => ⟨by rw [if_neg (by rw [Int32.not_le]; exact q)], rfl⟩, fun q => ?_⟩
  obtain ⟨n, hn, rfl⟩ := nI_of q
  simp only [g1, g2, g3, g4, c2, true_and, true_or, nI_clamp hn, nI_leI (show C.length < 2 ^ 31 by omega) hn]
  refine ⟨fun q => ⟨by rw [if_pos (nI_pos' hn), List.getElem?_eq_none q]; rfl, trivial⟩, fun q => ⟨vp_in_nI (by omega) (by omega), ?_, trivial⟩⟩
  obtain ⟨x, hx⟩ := at_lt (Nat.not_le.mp q)
  rw [if_pos (nI_pos' hn), hx, c3 n x hx]; rfl
theorem xC_same {A : Nat → Prop} {h h' : zH} {C : List Int32} (s : zSame A h h') (h1 : ¬ A 10) (h2 : ¬ A 11) (c : xC h C) : xC h' C :=
  ⟨c.1, (s.2.2.2 10 h1 1).1.trans c.2.1, fun j x hx => (s.2.2.2 11 h2 j).1.trans (c.2.2 j x hx)⟩
theorem gC_same {A : Nat → Prop} {h h' : zH} (s : zSame A h h') (h1 : ¬ A 10) (c : gC h) : gC h' :=
  ⟨(s.1 10).trans c.1, (s.2.2.2 10 h1 0).2.trans c.2.1, (s.1 11).trans c.2.2.1, (s.2.1 11).trans c.2.2.2⟩
/-- a place is added, if it isn't there and there is room -/
def sAdd (C : List Int32) (p : Int32) : List Int32 := if p ∈ C then C else if C.length = 6 then C else C ++ [p]
/-- a place is taken out, if it is there -/
def sDrop (C : List Int32) (p : Int32) : List Int32 := match sFx (fun x => decide (x = p)) C 0 with
  | some k => C.eraseIdx k
  | none => C
theorem c45 {d : Nat} {h : zH} {C : List Int32} {p : Int32} (g : gC h) (c : xC h C) : zD (d + 3) 45 [.inr 10, .inl p] h (fun v h' => v = none ∧ gC h' ∧ xC h' (sAdd C p) ∧ zSame (fun a => a = 10 ∨ a = 11) h h') := by
  refine zD_of rfl (r45_0 ⟨g.1, _, c43 g c, ?_⟩)
  rintro v h1 ⟨rfl, rfl⟩
  refine r45_5 ⟨fun q => ?_, fun q => ⟨g.1, _, c42 g c, ?_⟩⟩
  · have hm : p ∈ C := Classical.byContradiction fun hm => q (by rw [if_neg hm])
    exact ⟨rfl, g, by unfold sAdd; rw [if_pos hm]; exact c, zSame.rf⟩
  have hm : ¬ p ∈ C := fun hm => by rw [if_pos hm] at q; exact absurd q (by decide)
  rintro v h2 ⟨rfl, rfl⟩
  refine r45_12 ⟨fun q => ?_, fun q => ?_⟩
  · have hf : C.length = 6 := Classical.byContradiction fun hf => q (by rw [if_neg hf])
    exact ⟨rfl, g, by unfold sAdd; rw [if_neg hm, if_pos hf]; exact c, zSame.rf⟩
  have hf : ¬ C.length = 6 := fun hf => by rw [if_pos hf] at q; exact absurd q (by decide)
  have g0 := g
  obtain ⟨g1, g2, g3, g4⟩ := g
  obtain ⟨c1, c2, c3⟩ := c
  simp only [zK_wI, zL_wI, zR_wI, g1, g2, g3, g4, c2, true_and, true_or, forall_eq, nI_clamp (show C.length < 2 ^ 31 by omega)]
  refine ⟨vp_in_nI (by omega) (by omega), g0, ?_, (zSame.wI (Or.inr rfl)).tr (zSame.wI (Or.inl rfl))⟩
  unfold sAdd
  rw [if_neg hm, if_neg hf, zI_oa (by decide), c2, nI_1]
  refine ⟨by rw [List.length_append]; simp; omega, by rw [zI_at, List.length_append]; rfl, fun j x hx => ?_⟩
  rw [zI_oa (by decide)]
  by_cases hj : j < C.length
  · rw [List.getElem?_append_left hj] at hx
    rw [zI_ok (by omega)]; exact c3 j x hx
  · rw [List.getElem?_append_right (by omega)] at hx
    have hz : j - C.length < 1 := lt_at hx
    have hz : j = C.length := by omega
    subst hz
    rw [Nat.sub_self] at hx
    rw [zI_at]; exact Option.some.inj hx
theorem c46 {d : Nat} {h : zH} {C : List Int32} {p : Int32} (g : gC h) (c : xC h C) : zD (d + 2) 46 [.inr 10, .inl p] h (fun v h' => v = none ∧ gC h' ∧ xC h' (sDrop C p) ∧ zSame (fun a => a = 10 ∨ a = 11) h h') := by
  refine zD_of rfl (r46_0 ⟨g.1, _, c47 g c, ?_⟩)
  rintro v h1 ⟨rfl, rfl⟩
  have hL := c.1
  refine r46_5 ⟨fun q => ?_, fun q => ⟨rfl, g, by unfold sDrop; rw [(sIx_neg (by omega)).mp q]; exact c, zSame.rf⟩⟩
  have hn : ¬ sFx (fun x => decide (x = p)) C 0 = none := fun e => q ((sIx_neg (by omega)).mpr e)
  obtain ⟨k, hk⟩ := Option.ne_none_iff_exists'.mp hn
  obtain ⟨x, hx, -⟩ := sFx_some hk
  have hkl := lt_at hx
  rw [sIx_pos hk]
  have hsd : sDrop C p = C.eraseIdx k := by unfold sDrop; rw [hk]
  rw [hsd]
  have hel : (C.eraseIdx k).length = C.length - 1 := List.length_eraseIdx_of_lt hkl
  refine ⟨g.1, g.1, fun h2 e2 => ?_⟩
  have g' : gC h2 := by rw [e2]; exact g
  have hs0 : zSame (fun a => a = 10 ∨ a = 11) h h2 := by rw [e2]; exact zSame.wI (Or.inl rfl)
  have hsz : zI h2 10 1 = nI (C.length - 1) := by
    rw [e2, zI_at, c.2.1]
    exact pk_sub (b := 1) (by omega)
  suffices H : ∀ m j h3, C.length - 1 - j = m → k ≤ j → j ≤ C.length - 1 → gC h3 → zI h3 10 1 = nI (C.length - 1) → zSame (fun a => a = 10 ∨ a = 11) h h3 → (∀ i y, i < j → (C.eraseIdx k)[i]? = some y → zI h3 11 i = y) → (∀ i y, j ≤ i → C[i]? = some y → zI h3 11 i = y) → zWp zm46 (zD (d + 1)) (fun v h' => v = none ∧ gC h' ∧ xC h' (C.eraseIdx k) ∧ zSame (fun a => a = 10 ∨ a = 11) h h') 0 0 24 [some (.inr 10), some (.inl p), some (.inl (nI k)), some (.inl (nI j))] [] h3 from
    H _ k h2 rfl (Nat.le_refl _) (by omega) g' hsz hs0 (fun i y hi hy => by
      rw [List.getElem?_eraseIdx, if_pos hi] at hy
      rw [e2, zI_oa (by decide)]; exact c.2.2 i y hy) (fun i y _ hy => by rw [e2, zI_oa (by decide)]; exact c.2.2 i y hy)
  intro m
  induction m with
  | zero =>
    intro j h3 hm hk1 hj g3 hs3 hsm hlo hhi
    refine r46_24 ?_
    simp only [g3.1, hs3, true_and]
    refine ⟨fun _ => ⟨g3, ⟨by omega, by rw [hs3, hel], fun i y hy => hlo i y (by have := lt_at hy; omega) hy⟩, hsm⟩, fun q => absurd (nI_le (by omega) (by omega)) q⟩
  | succ m ih =>
    intro j h3 hm hk1 hj g3 hs3 hsm hlo hhi
    refine r46_24 ?_
    simp only [g3.1, g3.2.1, g3.2.2.1, g3.2.2.2, hs3, true_and, true_or, nI_1, nI_clamp (show j < 2 ^ 31 by omega), nI_clamp (show j + 1 < 2 ^ 31 by omega), forall_eq]
    refine ⟨fun q => absurd q (nI_ge (by omega) (by omega)), fun _ => ⟨vp_in_nI (by omega) (by omega), vp_in_nI (by omega) (by omega), ?_⟩⟩
    obtain ⟨z, hz⟩ := at_lt (show j + 1 < C.length by omega)
    refine ih (j + 1) _ (by omega) (by omega) (by omega) g3 (by rw [zI_oa (by decide)]; exact hs3) (hsm.tr (zSame.wI (Or.inr rfl))) (fun i y hi hy => ?_) (fun i y hi hy => ?_)
    · by_cases e : i = j
      · subst e
        rw [zI_at, hhi (i + 1) z (by omega) hz]
        rw [List.getElem?_eraseIdx, if_neg (by omega), hz] at hy
        exact Option.some.inj hy
      · rw [zI_ok e]; exact hlo i y (by omega) hy
    · rw [zI_ok (by omega)]; exact hhi i y (by omega) hy
end
section
/-! ===== rows of objects: an object a, its rows at a + 1, a pool of cap objects from a + 2 on ===== -/
def gW (h : zH) (a ka kr kd cap : Nat) : Prop := zK h a = ka ∧ zR h a 0 = a + 1 ∧ zK h (a + 1) = kr ∧ zL h (a + 1) = cap ∧ (∀ b, a + 2 ≤ b → b < a + 2 + cap → zK h b = kd) ∧ (∀ k, k < cap → a + 2 ≤ zR h (a + 1) k ∧ zR h (a + 1) k < a + 2 + cap) ∧ (∀ j k, j < cap → k < cap → zR h (a + 1) j = zR h (a + 1) k → j = k)
def xW (h : zH) (a cap nf : Nat) (F : List (Nat → Int32)) : Prop := F.length ≤ cap ∧ zI h a 1 = nI F.length ∧ ∀ k f, F[k]? = some f → ∀ i, i < nf → zI h (zR h (a + 1) k) i = f i
theorem gW.row {h : zH} {a ka kr kd cap k : Nat} (g : gW h a ka kr kd cap) (hk : k < cap) : zK h (zR h (a + 1) k) = kd := g.2.2.2.2.1 _ (g.2.2.2.2.2.1 k hk).1 (g.2.2.2.2.2.1 k hk).2
theorem gW.ne {h : zH} {a ka kr kd cap k : Nat} (g : gW h a ka kr kd cap) (hk : k < cap) : zR h (a + 1) k ≠ a := by
  have := g.2.2.2.2.2.1 k hk; omega
theorem gW_same {A : Nat → Prop} {h h' : zH} {a ka kr kd cap : Nat} (s : zSame A h h') (h1 : ¬ A a) (h2 : ¬ A (a + 1)) (g : gW h a ka kr kd cap) : gW h' a ka kr kd cap := by
  obtain ⟨g1, g2, g3, g4, g5, g6, g7⟩ := g
  refine ⟨(s.1 _).trans g1, (s.2.2.2 a h1 0).2.trans g2, (s.1 _).trans g3, (s.2.1 _).trans g4, fun b q1 q2 => (s.1 _).trans (g5 b q1 q2), fun k hk => ?_, fun j k hj hk e => ?_⟩
  · rw [(s.2.2.2 (a + 1) h2 k).2]; exact g6 k hk
  · rw [(s.2.2.2 (a + 1) h2 j).2, (s.2.2.2 (a + 1) h2 k).2] at e; exact g7 j k hj hk e
theorem xW_same {A : Nat → Prop} {h h' : zH} {a ka kr kd cap nf : Nat} {F : List (Nat → Int32)} (s : zSame A h h') (hA : ∀ b, a ≤ b → b < a + 2 + cap → ¬ A b) (g : gW h a ka kr kd cap) (x : xW h a cap nf F) : xW h' a cap nf F := by
  obtain ⟨x1, x2, x3⟩ := x
  refine ⟨x1, (s.2.2.2 a (hA a (by omega) (by omega)) 1).1.trans x2, fun k f hf i hi => ?_⟩
  have hk := lt_at hf
  have h6 := g.2.2.2.2.2.1 k (by omega)
  rw [(s.2.2.2 (a + 1) (hA (a + 1) (by omega) (by omega)) k).2, (s.2.2.2 _ (hA _ (by omega) h6.2) i).1]
  exact x3 k f hf i hi
def sRot (i n k : Nat) : Nat := if k < i then k else if k + 1 < n then k + 1 else if k + 1 = n then i else k
theorem sRot_lt {i n k cap : Nat} (hi : i < n) (hn : n ≤ cap) (hk : k < cap) : sRot i n k < cap := by
  unfold sRot; split
  · omega
  · split
    · omega
    · split <;> omega
theorem sRot_inj {i n j k : Nat} (hi : i < n) (e : sRot i n j = sRot i n k) : j = k := by
  unfold sRot at e
  repeat' split at e
  all_goals omega
theorem pool_rot {h h' : zH} {a ka kr kd cap nf i : Nat} {F : List (Nat → Int32)} (g : gW h a ka kr kd cap) (x : xW h a cap nf F) (hi : i < F.length) (s : zSame (fun b => b = a ∨ b = a + 1) h h') (hsz : zI h' a 1 = nI (F.length - 1)) (hr0 : zR h' a 0 = zR h a 0)
    (hR : ∀ k, k < cap → zR h' (a + 1) k = zR h (a + 1) (sRot i F.length k)) : gW h' a ka kr kd cap ∧ xW h' a cap nf (F.eraseIdx i) := by
  obtain ⟨g1, g2, g3, g4, g5, g6, g7⟩ := g
  obtain ⟨x1, x2, x3⟩ := x
  have hel : (F.eraseIdx i).length = F.length - 1 := List.length_eraseIdx_of_lt hi
  refine ⟨⟨(s.1 _).trans g1, hr0.trans g2, (s.1 _).trans g3, (s.2.1 _).trans g4, fun b q1 q2 => (s.1 _).trans (g5 b q1 q2), fun k hk => ?_, fun j k hj hk e => ?_⟩, by omega, by rw [hsz, hel], fun k f hf q hq => ?_⟩
  · rw [hR k hk]; exact g6 _ (sRot_lt hi x1 hk)
  · rw [hR j hj, hR k hk] at e
    exact sRot_inj hi (g7 _ _ (sRot_lt hi x1 hj) (sRot_lt hi x1 hk) e)
  · have hk := lt_at hf
    rw [hel] at hk
    rw [hR k (by omega)]
    have h6 := g6 _ (sRot_lt (k := k) hi x1 (by omega))
    rw [(s.2.2.2 _ (by omega) q).1]
    refine x3 _ f ?_ q hq
    rw [List.getElem?_eraseIdx] at hf
    unfold sRot
    split
    · rename_i hlt; rw [if_pos hlt] at hf; exact hf
    · rename_i hlt; rw [if_neg hlt] at hf; rw [if_pos (by omega)]; exact hf
theorem pool_push {h h' : zH} {a ka kr kd cap nf : Nat} {F : List (Nat → Int32)} {f : Nat → Int32} (g : gW h a ka kr kd cap) (x : xW h a cap nf F) (hn : F.length < cap) (hsz : zI h' a 1 = nI (F.length + 1)) (hR : ∀ j, zR h' (a + 1) j = zR h (a + 1) j)
    (hrow : ∀ i, i < nf → zI h' (zR h (a + 1) F.length) i = f i) (hoth : ∀ b, a + 2 ≤ b → b < a + 2 + cap → b ≠ zR h (a + 1) F.length → ∀ i, zI h' b i = zI h b i) : xW h' a cap nf (F ++ [f]) := by
  obtain ⟨g1, g2, g3, g4, g5, g6, g7⟩ := g
  obtain ⟨x1, x2, x3⟩ := x
  have hl : (F ++ [f]).length = F.length + 1 := by rw [List.length_append]; rfl
  refine ⟨by omega, by rw [hsz, hl], fun k q hq i hi => ?_⟩
  have hk := lt_at hq
  rw [hR k]
  by_cases e : k = F.length
  · subst e
    rw [List.getElem?_append_right (Nat.le_refl _), Nat.sub_self] at hq
    cases hq
    exact hrow i hi
  · have hk' : k < F.length := by omega
    rw [List.getElem?_append_left hk'] at hq
    have h6 := g6 k (by omega)
    rw [hoth _ h6.1 h6.2 (fun z => e (g7 _ _ (by omega) (by omega) z)) i]
    exact x3 k q hq i hi
def sRow (l : List Int32) : Nat → Int32 := fun i => l.getD i 0
end
section
/-! ===== Dialogues: the open dialogues of a node ===== -/
theorem c59 {d : Nat} {h : zH} {a cap : Nat} {F : List (Nat → Int32)} (hc : cap ≤ 24) (g : gW h a 15 14 13 cap) (x : xW h a cap 6 F) : zD (d + 1) 59 [.inr a] h (fun v h' => v = some (.inl (if F.length = cap then 1 else 0)) ∧ h = h') := by
  obtain ⟨g1, g2, g3, g4, g5, g6, g7⟩ := g
  obtain ⟨x1, x2, x3⟩ := x
  refine zD_of rfl (r59_0 ?_)
  simp only [g1, g2, g3, g4, x2, true_and]
  refine ⟨fun q => ⟨Or.inl trivial, ?_, trivial⟩, fun q => ⟨Or.inr trivial, ?_, trivial⟩⟩
  · rw [if_neg (fun e => q (by rw [e]))]
  · rw [if_pos ((nI_eq (by omega) (by omega)).mp q)]
theorem c61 {d : Nat} {h : zH} {a cap : Nat} {F : List (Nat → Int32)} {n : Int32} (hc : cap ≤ 24) (g : gW h a 15 14 13 cap) (x : xW h a cap 6 F) : zD (d + 1) 61 [.inr a, .inl n] h (fun v h' => v = some (.inl (sIx (fun f => decide (f 0 = n)) F 0)) ∧ h = h') := by
  have hrow := fun k (hk : k < cap) => g.row hk
  obtain ⟨g1, g2, g3, g4, g5, g6, g7⟩ := g
  obtain ⟨x1, x2, x3⟩ := x
  refine zD_of rfl (r61_0 ?_)
  suffices H : ∀ m j, F.length - j = m → j ≤ F.length → sIx (fun f => decide (f 0 = n)) F j = sIx (fun f => decide (f 0 = n)) F 0 → zWp zm61 (zD d) (fun v h' => v = some (.inl (sIx (fun f => decide (f 0 = n)) F 0)) ∧ h = h') 0 0 2 [some (.inr a), some (.inl n), some (.inl (nI j))] [] h from H _ 0 rfl (Nat.zero_le _) rfl
  intro m
  induction m with
  | zero =>
    intro j hm hj hs
    refine r61_2 ?_
    simp only [g1, x2, true_and]
    exact ⟨fun _ => ⟨by rw [← hs, sIx_end (by omega)], trivial⟩, fun q => absurd (nI_le (by omega) (by omega)) q⟩
  | succ m ih =>
    intro j hm hj hs
    have hlt : j < F.length := by omega
    obtain ⟨f, hf⟩ := at_lt hlt
    refine r61_2 ?_
    simp only [g1, g2, g3, g4, x2, nI_clamp (show j < 2 ^ 31 by omega), hrow j (by omega), x3 j f hf 0 (by decide), true_and]
    refine ⟨fun q => absurd q (nI_ge hlt (by omega)), fun _ => ⟨vp_in_nI (by omega) (by omega), fun q => ?_, fun q => ?_⟩⟩
    · rw [nI_1]
      exact ih (j + 1) (by omega) (by omega) (by rw [← hs, sIx_miss hf (by simpa using q)])
    · exact ⟨by rw [← hs, sIx_hit hf (by simpa using q)], trivial⟩
def pFind (kd ot su : Int32) : (Nat → Int32) → Bool := fun f => decide (f 1 = kd ∧ f 2 = ot ∧ f 3 = su)
theorem c62 {d : Nat} {h : zH} {a cap : Nat} {F : List (Nat → Int32)} {kd ot su : Int32} (hc : cap ≤ 24) (g : gW h a 15 14 13 cap) (x : xW h a cap 6 F) : zD (d + 1) 62 [.inr a, .inl kd, .inl ot, .inl su] h (fun v h' => v = some (.inl (sIx (pFind kd ot su) F 0)) ∧ h = h') := by
  have hrow := fun k (hk : k < cap) => g.row hk
  obtain ⟨g1, g2, g3, g4, g5, g6, g7⟩ := g
  obtain ⟨x1, x2, x3⟩ := x
  refine zD_of rfl (r62_0 ?_)
  suffices H : ∀ m j (o : Option zV), F.length - j = m → j ≤ F.length → sIx (pFind kd ot su) F j = sIx (pFind kd ot su) F 0 → zWp zm62 (zD d) (fun v h' => v = some (.inl (sIx (pFind kd ot su) F 0)) ∧ h = h') 0 0 3 [some (.inr a), some (.inl kd), some (.inl ot), some (.inl su), some (.inl (nI j)), o] [] h from H _ 0 _ rfl (Nat.zero_le _) rfl
  intro m
  induction m with
  | zero =>
    intro j o hm hj hs
    refine r62_3 ?_
    simp only [g1, x2, true_and]
    exact ⟨fun _ => ⟨by rw [← hs, sIx_end (by omega)], trivial⟩, fun q => absurd (nI_le (by omega) (by omega)) q⟩
  | succ m ih =>
    intro j o hm hj hs
    have hlt : j < F.length := by omega
    obtain ⟨f, hf⟩ := at_lt hlt
    refine r62_3 ?_
    simp only [g1, g2, g3, g4, x2, nI_clamp (show j < 2 ^ 31 by omega), hrow j (by omega), x3 j f hf 1 (by decide), x3 j f hf 2 (by decide), x3 j f hf 3 (by decide), true_and, nI_1]
    refine ⟨fun q => absurd q (nI_ge hlt (by omega)), fun _ => ⟨vp_in_nI (by omega) (by omega), fun q => ?_, fun q1 => ⟨fun q => ?_, fun q2 => ⟨fun q => ?_, fun q3 => ?_⟩⟩⟩⟩
    · exact ih (j + 1) _ (by omega) (by omega) (by rw [← hs, sIx_miss hf (decide_eq_false (fun z => q z.1))])
    · exact ih (j + 1) _ (by omega) (by omega) (by rw [← hs, sIx_miss hf (decide_eq_false (fun z => q z.2.1))])
    · exact ih (j + 1) _ (by omega) (by omega) (by rw [← hs, sIx_miss hf (decide_eq_false (fun z => q z.2.2))])
    · exact ⟨by rw [← hs, sIx_hit hf (decide_eq_true ⟨q1, q2, q3⟩)], trivial⟩
def pUpd (ot an : Int32) : (Nat → Int32) → Bool := fun f => decide (f 1 = 2 ∧ f 2 = ot ∧ f 5 = an)
theorem c63 {d : Nat} {h : zH} {a cap : Nat} {F : List (Nat → Int32)} {ot an : Int32} (hc : cap ≤ 24) (g : gW h a 15 14 13 cap) (x : xW h a cap 6 F) : zD (d + 1) 63 [.inr a, .inl ot, .inl an] h (fun v h' => v = some (.inl (sIx (pUpd ot an) F 0)) ∧ h = h') := by
  have hrow := fun k (hk : k < cap) => g.row hk
  obtain ⟨g1, g2, g3, g4, g5, g6, g7⟩ := g
  obtain ⟨x1, x2, x3⟩ := x
  refine zD_of rfl (r63_0 ?_)
  suffices H : ∀ m j (o : Option zV), F.length - j = m → j ≤ F.length → sIx (pUpd ot an) F j = sIx (pUpd ot an) F 0 → zWp zm63 (zD d) (fun v h' => v = some (.inl (sIx (pUpd ot an) F 0)) ∧ h = h') 0 0 2 [some (.inr a), some (.inl ot), some (.inl an), some (.inl (nI j)), o] [] h from H _ 0 _ rfl (Nat.zero_le _) rfl
  intro m
  induction m with
  | zero =>
    intro j o hm hj hs
    refine r63_2 ?_
    simp only [g1, x2, true_and]
    exact ⟨fun _ => ⟨by rw [← hs, sIx_end (by omega)], trivial⟩, fun q => absurd (nI_le (by omega) (by omega)) q⟩
  | succ m ih =>
    intro j o hm hj hs
    have hlt : j < F.length := by omega
    obtain ⟨f, hf⟩ := at_lt hlt
    refine r63_2 ?_
    simp only [g1, g2, g3, g4, x2, nI_clamp (show j < 2 ^ 31 by omega), hrow j (by omega), x3 j f hf 1 (by decide), x3 j f hf 2 (by decide), x3 j f hf 5 (by decide), true_and, nI_1]
    refine ⟨fun q => absurd q (nI_ge hlt (by omega)), fun _ => ⟨vp_in_nI (by omega) (by omega), fun q => ?_, fun q1 => ⟨fun q => ?_, fun q2 => ⟨fun q => ?_, fun q3 => ?_⟩⟩⟩⟩
    · exact ih (j + 1) _ (by omega) (by omega) (by rw [← hs, sIx_miss hf (decide_eq_false (fun z => q z.1))])
    · exact ih (j + 1) _ (by omega) (by omega) (by rw [← hs, sIx_miss hf (decide_eq_false (fun z => q z.2.1))])
    · exact ih (j + 1) _ (by omega) (by omega) (by rw [← hs, sIx_miss hf (decide_eq_false (fun z => q z.2.2))])
    · exact ⟨by rw [← hs, sIx_hit hf (decide_eq_true ⟨q1, q2, q3⟩)], trivial⟩
/-- a dialogue begins -/
theorem c60 {d : Nat} {h : zH} {a cap : Nat} {F : List (Nat → Int32)} {kd ot su dl an : Int32} (hc : cap ≤ 24) (g : gW h a 15 14 13 cap) (x : xW h a cap 6 F) (hn : F.length < cap) : zD (d + 1) 60 [.inr a, .inl kd, .inl ot, .inl su, .inl dl, .inl an] h (fun v h' => v = some (.inl (zI h a 2 + 1)) ∧ gW h' a 15 14 13 cap ∧ xW h' a cap 6 (F ++ [sRow [zI h a 2 + 1, kd, ot, su, dl, an]]) ∧ zI h' a 2 = zI h a 2 + 1 ∧ zSame (fun b => a ≤ b ∧ b < a + 2 + cap) h h') := by
  have hrow := g.row hn
  have hne := g.ne hn
  have hin := g.2.2.2.2.2.1 _ hn
  have g0 := g
  obtain ⟨g1, g2, g3, g4, g5, g6, g7⟩ := g
  have x0 := x
  obtain ⟨x1, x2, x3⟩ := x
  refine zD_of rfl (r60_0 ?_)
  simp only [zK_wI, zL_wI, zR_wI, g1, g2, g3, g4, x2, true_and, forall_eq, nI_clamp (show F.length < 2 ^ 31 by omega), hrow]
  generalize hr : zR h (a + 1) F.length = r at hne hin
  have hne' : a ≠ r := fun e => hne e.symm
  refine ⟨vp_in_nI (by omega) (by omega), ?_⟩
  have hs : zSame (fun b => a ≤ b ∧ b < a + 2 + cap) h (zwI (zwI (zwI (zwI (zwI (zwI (zwI (zwI h a 1 (nI F.length + 1)) a 2 (zI (zwI h a 1 (nI F.length + 1)) a 2 + 1)) r 0 (zI (zwI (zwI h a 1 (nI F.length + 1)) a 2 (zI (zwI h a 1 (nI F.length + 1)) a 2 + 1)) a 2)) r 1 kd) r 2 ot) r 3 su) r 4 dl) r 5 an) := by
    refine ((((((((zSame.wI ?_).tr (zSame.wI ?_)).tr (zSame.wI ?_)).tr (zSame.wI ?_)).tr (zSame.wI ?_)).tr (zSame.wI ?_)).tr (zSame.wI ?_)).tr (zSame.wI ?_)) <;> (constructor <;> omega)
  have h2 : zI (zwI h a 1 (nI F.length + 1)) a 2 = zI h a 2 := zI_ok (by decide)
  rw [h2] at hs ⊢
  refine ⟨?_, ?_, ?_, ?_, hs⟩
  · simp [zI_wI, hne', hne]
  · exact ⟨g1, g2, g3, g4, g5, g6, g7⟩
  · refine pool_push g0 x0 hn (by simp [zI_wI, hne', hne, nI_1]) (fun _ => rfl) (fun i hi => ?_) (fun b hb1 hb2 hb i => ?_)
    · rw [hr]
      have : i = 0 ∨ i = 1 ∨ i = 2 ∨ i = 3 ∨ i = 4 ∨ i = 5 := by omega
      rcases this with rfl | rfl | rfl | rfl | rfl | rfl <;> simp [zI_wI, sRow, hne', hne]
    · rw [hr] at hb
      have hba : b ≠ a := by omega
      simp [zI_wI, hb, hba]
  · simp [zI_wI, hne', hne]
theorem c64 {d : Nat} {h : zH} {a cap : Nat} {F : List (Nat → Int32)} {k : Int32} (hc : cap ≤ 24) (g : gW h a 15 14 13 cap) (x : xW h a cap 6 F) : zD (d + 1) 64 [.inr a, .inl k] h (fun v h' => v = none ∧ gW h' a 15 14 13 cap ∧ xW h' a cap 6 (if 0 ≤ k then F.eraseIdx k.toNatClampNeg else F) ∧ zI h' a 2 = zI h a 2 ∧ zSame (fun b => b = a ∨ b = a + 1) h h') := by
  have g0 := g
  have x0 := x
  obtain ⟨g1, g2, g3, g4, g5, g6, g7⟩ := g
  obtain ⟨x1, x2, x3⟩ := x
  refine zD_of rfl (r64_0 ⟨fun q => ?_, fun q => ?_⟩)
  · rw [if_neg (by rw [Int32.not_le]; exact q)]
    exact ⟨rfl, g0, x0, rfl, zSame.rf⟩
  obtain ⟨n, hn, rfl⟩ := nI_of q
  rw [if_pos (nI_pos' hn)]
  simp only [zK_wI, zL_wI, zR_wI, g1, g2, g3, g4, x2, true_and, nI_clamp hn, nI_ltI hn (show F.length < 2 ^ 31 by omega)]
  refine ⟨fun hlt => ⟨vp_in_nI (by omega) (by omega), fun h1 e1 => ?_⟩, fun hge => ⟨g0, by rw [List.eraseIdx_of_length_le (by omega)]; exact x0, zSame.rf⟩⟩
  have e0 : nI F.length - 1 = nI (F.length - 1) := pk_sub (b := 1) (by omega)
  rw [e0] at e1
  have hsz : zI h1 a 1 = nI (F.length - 1) := by rw [e1, zI_at]
  suffices H : ∀ m j h3, F.length - 1 - j = m → n ≤ j → j ≤ F.length - 1 → zI h3 a 1 = nI (F.length - 1) → zI h3 a 2 = zI h a 2 → zR h3 a 0 = a + 1 → zSame (fun b => b = a ∨ b = a + 1) h h3 → (∀ i, i < j → zR h3 (a + 1) i = zR h (a + 1) (sRot n F.length i)) → (∀ i, j ≤ i → zR h3 (a + 1) i = zR h (a + 1) i) → zWp zm64 (zD d) (fun v h' => v = none ∧ gW h' a 15 14 13 cap ∧ xW h' a cap 6 (F.eraseIdx n) ∧ zI h' a 2 = zI h a 2 ∧ zSame (fun b => b = a ∨ b = a + 1) h h') 0 0 32 [some (.inr a), some (.inl (nI n)), some (.inr (zR h (a + 1) n)), some (.inl (nI j))] [] h3 from
    H _ n h1 rfl (Nat.le_refl _) (by omega) hsz (by rw [e1, zI_ok (by decide)]) (by rw [e1]; exact g2) (by rw [e1]; exact zSame.wI (Or.inl rfl)) (fun i hi => by rw [e1]; unfold sRot; rw [if_pos hi]; rfl) (fun i _ => by rw [e1]; rfl)
  intro m
  induction m with
  | zero =>
    intro j h3 hm hk1 hj hs3 hl3 hr3 hsm hlo hhi
    have ej : j = F.length - 1 := by omega
    subst ej
    refine r64_32 ?_
    simp only [hsm.1 a, hsm.1 (a + 1), hsm.2.1 (a + 1), g1, g3, g4, hr3, hs3, true_and, forall_eq, nI_clamp (show F.length - 1 < 2 ^ 31 by omega)]
    refine ⟨fun _ => ⟨(hsm.1 _).trans (g0.row (by omega)), vp_in_nI (by omega) (by omega), ?_⟩, fun q => absurd (nI_le (Nat.le_refl _) (by omega)) q⟩
    have hsm' : zSame (fun b => b = a ∨ b = a + 1) h (zwR h3 (a + 1) (F.length - 1) (zR h (a + 1) n)) := hsm.tr (zSame.wR (Or.inr rfl))
    obtain ⟨p1, p2⟩ := pool_rot (i := n) (h' := zwR h3 (a + 1) (F.length - 1) (zR h (a + 1) n)) g0 x0 hlt hsm' hs3 (by rw [zR_oa (by omega), hr3, g2]) (fun k hk => by
      by_cases e : k = F.length - 1
      · subst e
        rw [zR_at]; unfold sRot; rw [if_neg (by omega), if_neg (by omega), if_pos (by omega)]
      · rw [zR_ok e]
        by_cases hk2 : k < F.length - 1
        · exact hlo k hk2
        · rw [hhi k (by omega)]; unfold sRot; rw [if_neg (by omega), if_neg (by omega), if_neg (by omega)])
    exact ⟨p1, p2, hl3, hsm'⟩
  | succ m ih =>
    intro j h3 hm hk1 hj hs3 hl3 hr3 hsm hlo hhi
    refine r64_32 ?_
    simp only [hsm.1 a, hsm.1 (a + 1), hsm.2.1 (a + 1), g1, g3, g4, hr3, hs3, true_and, forall_eq, nI_1, nI_clamp (show j < 2 ^ 31 by omega), nI_clamp (show j + 1 < 2 ^ 31 by omega)]
    refine ⟨fun q => absurd q (nI_ge (by omega) (by omega)), fun _ => ⟨vp_in_nI (by omega) (by omega), ?_, vp_in_nI (by omega) (by omega), ?_⟩⟩
    · rw [hhi (j + 1) (by omega)]; exact (hsm.1 _).trans (g0.row (by omega))
    refine ih (j + 1) _ (by omega) (by omega) (by omega) hs3 hl3 (by rw [zR_oa (by omega)]; exact hr3) (hsm.tr (zSame.wR (Or.inr rfl))) (fun i hi => ?_) (fun i hi => ?_)
    · by_cases e : i = j
      · subst e
        rw [zR_at, hhi (i + 1) (by omega)]; unfold sRot; rw [if_neg (by omega), if_pos (by omega)]
      · rw [zR_ok e]; exact hlo i (by omega)
    · rw [zR_ok (by omega)]; exact hhi i (by omega)
end
section
/-! ===== Datagram, Network: what is in flight ===== -/
theorem c66 {d : Nat} {h : zH} {b c : Nat} (hb : zK h b = 17) (hc : zK h c = 17) (hne : c ≠ b) : zD (d + 1) 66 [.inr b, .inr c] h (fun v h' => v = none ∧ (∀ i, i < 7 → zI h' b i = zI h c i) ∧ (∀ i, 7 ≤ i → zI h' b i = zI h b i) ∧ (∀ a j, zR h' a j = zR h a j) ∧ zSame (fun a => a = b) h h') := by
  refine zD_of rfl (r66_0 ?_)
  simp only [zK_wI, hb, hc, true_and, forall_eq]
  refine ⟨fun i hi => ?_, fun i hi => ?_, fun _ _ => rfl, ?_⟩
  · have : i = 0 ∨ i = 1 ∨ i = 2 ∨ i = 3 ∨ i = 4 ∨ i = 5 ∨ i = 6 := by omega
    rcases this with rfl | rfl | rfl | rfl | rfl | rfl | rfl <;> simp [zI_wI, hne]
  · have h0 : i ≠ 0 ∧ i ≠ 1 ∧ i ≠ 2 ∧ i ≠ 3 ∧ i ≠ 4 ∧ i ≠ 5 ∧ i ≠ 6 := by omega
    simp [zI_wI, h0]
  · refine (((((((zSame.wI ?_).tr (zSame.wI ?_)).tr (zSame.wI ?_)).tr (zSame.wI ?_)).tr (zSame.wI ?_)).tr (zSame.wI ?_)).tr (zSame.wI ?_)) <;> rfl
/-- a part of a datagram, by its number -/
def sPart (f : Nat → Int32) (w : Int32) : Int32 := if w = 0 then f 0 else if w = 1 then f 1 else if w = 2 then f 2 / 10 else if w = 3 then f 2 - f 2 / 10 * 10 else if w = 4 then f 3 else if w = 5 then f 4 else if w = 6 then f 5 else if w = 7 then f 6 else -9
theorem i32_of {w : Int32} {n : Nat} (hn : n < 2 ^ 31) (h : w.toInt = (n : Int)) : w = nI n := by
  apply Int32.toInt_inj.mp
  rw [h, nI_toInt hn]
theorem c67 {d : Nat} {h : zH} {b : Nat} {w : Int32} (hb : zK h b = 17) : zD (d + 1) 67 [.inr b, .inl w] h (fun v h' => v = some (.inl (sPart (fun i => zI h b i) w)) ∧ h = h') := by
  refine zD_of rfl (r67_0 ?_)
  simp only [hb, true_and]
  refine ⟨fun q => ⟨?_, trivial⟩, fun q => ⟨?_, trivial⟩, fun q => ⟨?_, trivial⟩, fun q => ⟨by decide, ?_, trivial⟩, fun q => ⟨by decide, ?_, trivial⟩, fun q => ⟨?_, trivial⟩, fun q => ⟨?_, trivial⟩, fun q => ⟨?_, trivial⟩, fun q => ⟨?_, trivial⟩, trivial⟩
  · have hx : ∀ n : Nat, n ≤ 7 → w ≠ nI n := by
      intro n hn e
      rw [e, nI_toInt (by omega)] at q
      omega
    unfold sPart
    rw [if_neg (show ¬ w = 0 from hx 0 (by decide)), if_neg (show ¬ w = 1 from hx 1 (by decide)), if_neg (show ¬ w = 2 from hx 2 (by decide)), if_neg (show ¬ w = 3 from hx 3 (by decide)), if_neg (show ¬ w = 4 from hx 4 (by decide)), if_neg (show ¬ w = 5 from hx 5 (by decide)), if_neg (show ¬ w = 6 from hx 6 (by decide)), if_neg (show ¬ w = 7 from hx 7 (by decide))]
  · rw [i32_of (n := 0) (by decide) q]; rfl
  · rw [i32_of (n := 1) (by decide) q]; rfl
  · rw [i32_of (n := 2) (by decide) q]; rfl
  · rw [i32_of (n := 3) (by decide) q]; rfl
  · rw [i32_of (n := 4) (by decide) q]; rfl
  · rw [i32_of (n := 5) (by decide) q]; rfl
  · rw [i32_of (n := 6) (by decide) q]; rfl
  · rw [i32_of (n := 7) (by decide) q]; rfl
theorem c69 {d : Nat} {h : zH} {F : List (Nat → Int32)} {i : Int32} (g : gW h 15 19 18 17 24) (x : xW h 15 24 7 F) : zD (d + 1) 69 [.inr 15, .inl i] h (fun v h' => v = some (.inl (if 0 ≤ i ∧ i.toNatClampNeg < F.length then 1 else 0)) ∧ h = h') := by
  obtain ⟨x1, x2, x3⟩ := x
  refine zD_of rfl (r69_0 ⟨fun q => ⟨Or.inl rfl, ?_, rfl⟩, fun q => ?_⟩)
  · rw [if_neg (fun z => absurd z.1 (by rw [Int32.not_le]; exact q))]
  obtain ⟨n, hn, rfl⟩ := nI_of q
  simp only [g.1, x2, true_and, nI_leI (show F.length < 2 ^ 31 by omega) hn, nI_clamp hn]
  refine ⟨fun q => ⟨Or.inl trivial, ?_, trivial⟩, fun q => ⟨Or.inr trivial, ?_, trivial⟩⟩
  · rw [if_neg (fun z => absurd z.2 (by omega))]
  · rw [if_pos ⟨nI_pos' hn, by omega⟩]
theorem c70 {d : Nat} {h : zH} {F : List (Nat → Int32)} (g : gW h 15 19 18 17 24) (x : xW h 15 24 7 F) : zD (d + 1) 70 [.inr 15] h (fun v h' => v = some (.inl (if F.length = 24 then 1 else 0)) ∧ h = h') := by
  obtain ⟨x1, x2, x3⟩ := x
  refine zD_of rfl (r70_0 ?_)
  simp only [g.1, x2, true_and]
  refine ⟨fun q => ⟨Or.inl trivial, ?_, trivial⟩, fun q => ⟨Or.inr trivial, ?_, trivial⟩⟩
  · rw [if_neg (fun e => q (by rw [e]; rfl))]
  · rw [if_pos ((nI_eq (b := 24) (by omega) (by omega)).mp q)]
/-- sent: behind the others, if there is room -/
def sSnd (F : List (Nat → Int32)) (f : Nat → Int32) : List (Nat → Int32) := if F.length = 24 then F else F ++ [f]
theorem c71 {d : Nat} {h : zH} {F : List (Nat → Int32)} {a b c e k m n : Int32} (g : gW h 15 19 18 17 24) (x : xW h 15 24 7 F) : zD (d + 2) 71 [.inr 15, .inl a, .inl b, .inl c, .inl e, .inl k, .inl m, .inl n] h (fun v h' => v = none ∧ gW h' 15 19 18 17 24 ∧ xW h' 15 24 7 (sSnd F (sRow [a, b, c, e, k, m, n])) ∧ zSame (fun q => 15 ≤ q ∧ q < 41) h h') := by
  refine zD_of rfl (r71_0 ⟨g.1, _, c70 g x, ?_⟩)
  rintro v _ ⟨rfl, rfl⟩
  refine r71_4 ⟨fun q => ?_, fun q => ?_⟩
  · have hf : ¬ F.length = 24 := fun e => by rw [if_pos e] at q; exact absurd q (by decide)
    have hn : F.length < 24 := by have := x.1; omega
    have hrow := g.row hn
    have hne := g.ne hn
    have hin := g.2.2.2.2.2.1 _ hn
    have g0 := g
    obtain ⟨g1, g2, g3, g4, g5, g6, g7⟩ := g
    have x0 := x
    obtain ⟨x1, x2, x3⟩ := x
    unfold sSnd
    rw [if_neg hf]
    simp only [zK_wI, zL_wI, zR_wI, g1, g2, g3, g4, x2, true_and, forall_eq, nI_clamp (show F.length < 2 ^ 31 by omega), hrow]
    generalize hr : zR h (15 + 1) F.length = r at hne hin
    have hne' : 15 ≠ r := fun e => hne e.symm
    refine ⟨vp_in_nI (by omega) (by omega), ⟨g1, g2, g3, g4, g5, g6, g7⟩, ?_, ?_⟩
    · refine pool_push g0 x0 hn (by simp [zI_wI, hne', nI_1]) (fun _ => rfl) (fun i hi => ?_) (fun b hb1 hb2 hb i => ?_)
      · rw [hr]
        have : i = 0 ∨ i = 1 ∨ i = 2 ∨ i = 3 ∨ i = 4 ∨ i = 5 ∨ i = 6 := by omega
        rcases this with rfl | rfl | rfl | rfl | rfl | rfl | rfl <;> simp [zI_wI, sRow]
      · rw [hr] at hb
        have hba : b ≠ 15 := by omega
        simp [zI_wI, hb, hba]
    · refine ((((((((zSame.wI ?_).tr (zSame.wI ?_)).tr (zSame.wI ?_)).tr (zSame.wI ?_)).tr (zSame.wI ?_)).tr (zSame.wI ?_)).tr (zSame.wI ?_)).tr (zSame.wI ?_)) <;> (constructor <;> omega)
  · have hf : F.length = 24 := Classical.byContradiction fun e => q (by rw [if_neg e])
    exact ⟨rfl, g, by unfold sSnd; rw [if_pos hf]; exact x, zSame.rf⟩
theorem c72 {d : Nat} {h : zH} {F : List (Nat → Int32)} {i : Nat} {f : Nat → Int32} (g : gW h 15 19 18 17 24) (x : xW h 15 24 7 F) (hf : F[i]? = some f) (hn : F.length < 24) : zD (d + 2) 72 [.inr 15, .inl (nI i)] h (fun v h' => v = none ∧ gW h' 15 19 18 17 24 ∧ xW h' 15 24 7 (F ++ [f]) ∧ zSame (fun q => 15 ≤ q ∧ q < 41) h h') := by
  have hi := lt_at hf
  have hrow := g.row hn
  have hrow2 := g.row (show i < 24 by omega)
  have hin := g.2.2.2.2.2.1 _ hn
  have hdif : zR h (15 + 1) i ≠ zR h (15 + 1) F.length := fun e => by have := g.2.2.2.2.2.2 _ _ (by omega) hn e; omega
  have g0 := g
  obtain ⟨g1, g2, g3, g4, g5, g6, g7⟩ := g
  have x0 := x
  obtain ⟨x1, x2, x3⟩ := x
  refine zD_of rfl (r72_0 ?_)
  simp only [g1, g2, g3, g4, x2, true_and, nI_clamp (show F.length < 2 ^ 31 by omega), nI_clamp (show i < 2 ^ 31 by omega), hrow]
  refine ⟨vp_in_nI (by omega) (by omega), vp_in_nI (by omega) (by omega), _, c66 hrow hrow2 hdif, ?_⟩
  rintro v h1 ⟨rfl, e1, e2, e3, s⟩
  have k15 : zI h1 15 1 = nI F.length := by rw [(s.2.2.2 15 (by omega) 1).1, x2]
  refine r72_18 ?_
  simp only [s.1 15, g1, k15, true_and, forall_eq]
  have hs : zSame (fun q => 15 ≤ q ∧ q < 41) h (zwI h1 15 1 (nI F.length + 1)) := (s.wd (fun b hb => by subst hb; constructor <;> omega)).tr (zSame.wI (by constructor <;> omega))
  refine ⟨⟨(s.1 _).trans g1, (e3 _ _).trans g2, (s.1 _).trans g3, (s.2.1 _).trans g4, fun b q1 q2 => (s.1 _).trans (g5 b q1 q2), fun k hk => ?_, fun j k hj hk e => ?_⟩, ?_, hs⟩
  · show _ ≤ zR h1 _ _ ∧ zR h1 _ _ < _
    rw [e3]; exact g6 k hk
  · have e : zR h1 (15 + 1) j = zR h1 (15 + 1) k := e
    rw [e3, e3] at e; exact g7 j k hj hk e
  · refine pool_push g0 x0 hn (by rw [zI_at, nI_1]) (fun j => e3 _ _) (fun q hq => ?_) (fun b hb1 hb2 hb q => ?_)
    · rw [zI_oa (by omega), e1 q hq]; exact x3 i f hf q hq
    · rw [zI_oa (by omega)]; exact (s.2.2.2 b hb q).1
theorem c73 {d : Nat} {h : zH} {F : List (Nat → Int32)} {n : Nat} (g : gW h 15 19 18 17 24) (x : xW h 15 24 7 F) (hlt : n < F.length) : zD (d + 1) 73 [.inr 15, .inl (nI n)] h (fun v h' => v = none ∧ gW h' 15 19 18 17 24 ∧ xW h' 15 24 7 (F.eraseIdx n) ∧ zSame (fun b => b = 15 ∨ b = 16) h h') := by
  have g0 := g
  have x0 := x
  obtain ⟨g1, g2, g3, g4, g5, g6, g7⟩ := g
  obtain ⟨x1, x2, x3⟩ := x
  refine zD_of rfl (r73_0 ?_)
  simp only [zK_wI, zL_wI, zR_wI, g1, g2, g3, g4, x2, true_and, nI_clamp (show n < 2 ^ 31 by omega)]
  refine ⟨vp_in_nI (by omega) (by omega), fun h1 e1 => ?_⟩
  have e0 : nI F.length - 1 = nI (F.length - 1) := pk_sub (b := 1) (by omega)
  rw [e0] at e1
  have hsz : zI h1 15 1 = nI (F.length - 1) := by rw [e1, zI_at]
  suffices H : ∀ m j h3, F.length - 1 - j = m → n ≤ j → j ≤ F.length - 1 → zI h3 15 1 = nI (F.length - 1) → zR h3 15 0 = 15 + 1 → zSame (fun b => b = 15 ∨ b = 15 + 1) h h3 → (∀ i, i < j → zR h3 (15 + 1) i = zR h (15 + 1) (sRot n F.length i)) → (∀ i, j ≤ i → zR h3 (15 + 1) i = zR h (15 + 1) i) → zWp zm73 (zD d) (fun v h' => v = none ∧ gW h' 15 19 18 17 24 ∧ xW h' 15 24 7 (F.eraseIdx n) ∧ zSame (fun b => b = 15 ∨ b = 16) h h') 0 0 19 [some (.inr 15), some (.inl (nI n)), some (.inr (zR h (15 + 1) n)), some (.inl (nI j))] [] h3 from
    H _ n h1 rfl (Nat.le_refl _) (by omega) hsz (by rw [e1]; exact g2) (by rw [e1]; exact zSame.wI (Or.inl rfl)) (fun i hi => by rw [e1]; unfold sRot; rw [if_pos hi]; rfl) (fun i _ => by rw [e1]; rfl)
  intro m
  induction m with
  | zero =>
    intro j h3 hm hk1 hj hs3 hr3 hsm hlo hhi
    have ej : j = F.length - 1 := by omega
    subst ej
    refine r73_19 ?_
    simp only [hsm.1 15, hsm.1 (15 + 1), hsm.2.1 (15 + 1), g1, g3, g4, hr3, hs3, true_and, forall_eq, nI_clamp (show F.length - 1 < 2 ^ 31 by omega)]
    refine ⟨fun _ => ⟨(hsm.1 _).trans (g0.row (by omega)), vp_in_nI (by omega) (by omega), ?_⟩, fun q => absurd (nI_le (Nat.le_refl _) (by omega)) q⟩
    have hsm' : zSame (fun b => b = 15 ∨ b = 15 + 1) h (zwR h3 (15 + 1) (F.length - 1) (zR h (15 + 1) n)) := hsm.tr (zSame.wR (Or.inr rfl))
    obtain ⟨p1, p2⟩ := pool_rot (i := n) (h' := zwR h3 (15 + 1) (F.length - 1) (zR h (15 + 1) n)) g0 x0 hlt hsm' hs3 (by rw [zR_oa (by omega), hr3, g2]) (fun k hk => by
      by_cases e : k = F.length - 1
      · subst e
        rw [zR_at]; unfold sRot; rw [if_neg (by omega), if_neg (by omega), if_pos (by omega)]
      · rw [zR_ok e]
        by_cases hk2 : k < F.length - 1
        · exact hlo k hk2
        · rw [hhi k (by omega)]; unfold sRot; rw [if_neg (by omega), if_neg (by omega), if_neg (by omega)])
    exact ⟨p1, p2, hsm'⟩
  | succ m ih =>
    intro j h3 hm hk1 hj hs3 hr3 hsm hlo hhi
    refine r73_19 ?_
    simp only [hsm.1 15, hsm.1 (15 + 1), hsm.2.1 (15 + 1), g1, g3, g4, hr3, hs3, true_and, forall_eq, nI_1, nI_clamp (show j < 2 ^ 31 by omega), nI_clamp (show j + 1 < 2 ^ 31 by omega)]
    refine ⟨fun q => absurd q (nI_ge (by omega) (by omega)), fun _ => ⟨vp_in_nI (by omega) (by omega), ?_, vp_in_nI (by omega) (by omega), ?_⟩⟩
    · rw [hhi (j + 1) (by omega)]; exact (hsm.1 _).trans (g0.row (by omega))
    refine ih (j + 1) _ (by omega) (by omega) (by omega) hs3 (by rw [zR_oa (by omega)]; exact hr3) (hsm.tr (zSame.wR (Or.inr rfl))) (fun i hi => ?_) (fun i hi => ?_)
    · by_cases e : i = j
      · subst e
        rw [zR_at, hhi (i + 1) (by omega)]; unfold sRot; rw [if_neg (by omega), if_pos (by omega)]
      · rw [zR_ok e]; exact hlo i (by omega)
    · rw [zR_ok (by omega)]; exact hhi i (by omega)
end
section
/-! ===== Titles ===== -/
def gT (h : zH) : Prop := zK h 6 = 5 ∧ zR h 6 0 = 7 ∧ zR h 6 1 = 8 ∧ zR h 6 2 = 9 ∧ zK h 7 = 1 ∧ zK h 8 = 1 ∧ zK h 9 = 2 ∧ zL h 7 = 6 ∧ zL h 8 = 6 ∧ zL h 9 = 6
def xT (h : zH) (T : List (Nat → Int32)) : Prop := T.length ≤ 6 ∧ zI h 6 3 = nI T.length ∧ ∀ j t, T[j]? = some t → zI h 7 j = t 0 ∧ zI h 8 j = t 1 ∧ zI h 9 j = t 2
theorem gT_same {A : Nat → Prop} {h h' : zH} (s : zSame A h h') (h1 : ¬ A 6) (c : gT h) : gT h' := by
  obtain ⟨c1, c2, c3, c4, c5, c6, c7, c8, c9, c10⟩ := c
  exact ⟨(s.1 6).trans c1, (s.2.2.2 6 h1 0).2.trans c2, (s.2.2.2 6 h1 1).2.trans c3, (s.2.2.2 6 h1 2).2.trans c4, (s.1 7).trans c5, (s.1 8).trans c6, (s.1 9).trans c7, (s.2.1 7).trans c8, (s.2.1 8).trans c9, (s.2.1 9).trans c10⟩
theorem xT_same {A : Nat → Prop} {h h' : zH} {T : List (Nat → Int32)} (s : zSame A h h') (h1 : ¬ A 6) (h2 : ¬ A 7) (h3 : ¬ A 8) (h4 : ¬ A 9) (c : xT h T) : xT h' T :=
  ⟨c.1, (s.2.2.2 6 h1 3).1.trans c.2.1, fun j t ht => ⟨(s.2.2.2 7 h2 j).1.trans (c.2.2 j t ht).1, (s.2.2.2 8 h3 j).1.trans (c.2.2 j t ht).2.1, (s.2.2.2 9 h4 j).1.trans (c.2.2 j t ht).2.2⟩⟩
def pT (a b : Int32) : (Nat → Int32) → Bool := fun t => decide (t 0 = a ∧ t 1 = b)
theorem c39 {d : Nat} {h : zH} {T : List (Nat → Int32)} {a b : Int32} (g : gT h) (c : xT h T) : zD (d + 1) 39 [.inr 6, .inl a, .inl b] h (fun v h' => v = some (.inl (nI ((sFx (pT a b) T 0).getD T.length))) ∧ h = h') := by
  obtain ⟨g1, g2, g3, g4, g5, g6, g7, g8, g9, g10⟩ := g
  obtain ⟨c1, c2, c3⟩ := c
  refine zD_of rfl (r39_0 ?_)
  suffices H : ∀ m j, T.length - j = m → j ≤ T.length → sFx (pT a b) T j = sFx (pT a b) T 0 → zWp zm39 (zD d) (fun v h' => v = some (.inl (nI ((sFx (pT a b) T 0).getD T.length))) ∧ h = h') 0 0 2 [some (.inr 6), some (.inl a), some (.inl b), some (.inl (nI j))] [] h from H _ 0 rfl (Nat.zero_le _) rfl
  intro m
  induction m with
  | zero =>
    intro j hm hj hs
    refine r39_2 ?_
    simp only [g1, c2, true_and]
    exact ⟨fun _ => ⟨by rw [← hs, sFx_end (by omega)]; rfl, trivial⟩, fun q => absurd (nI_le (by omega) (by omega)) q⟩
  | succ m ih =>
    intro j hm hj hs
    have hlt : j < T.length := by omega
    obtain ⟨t, ht⟩ := at_lt hlt
    obtain ⟨t0, t1, t2⟩ := c3 j t ht
    refine r39_2 ?_
    simp only [g1, g2, g3, g5, g6, g8, g9, c2, nI_clamp (show j < 2 ^ 31 by omega), t0, t1, true_and, true_or, nI_1]
    refine ⟨fun q => absurd q (nI_ge hlt (by omega)), fun _ => ⟨vp_in_nI (by omega) (by omega), fun q => ?_, fun q1 => ⟨vp_in_nI (by omega) (by omega), fun q => ?_, fun q2 => ?_⟩⟩⟩
    · exact ih (j + 1) (by omega) (by omega) (by rw [← hs, sFx_miss ht (decide_eq_false (fun z => q z.1))])
    · exact ih (j + 1) (by omega) (by omega) (by rw [← hs, sFx_miss ht (decide_eq_false (fun z => q z.2))])
    · exact ⟨by rw [← hs, sFx_hit ht (decide_eq_true ⟨q1, q2⟩)]; rfl, trivial⟩
/-- a title is put in its place, or behind the others; 1, or 0 where there is no room -/
def sPut (T : List (Nat → Int32)) (f : Nat → Int32) : List (Nat → Int32) := match sFx (pT (f 0) (f 1)) T 0 with
  | some k => T.set k f
  | none => if T.length = 6 then T else T ++ [f]
def sPutR (T : List (Nat → Int32)) (f : Nat → Int32) : Int32 := match sFx (pT (f 0) (f 1)) T 0 with
  | some _ => 1
  | none => if T.length = 6 then 0 else 1
theorem nar01 {y : Int32} (h : y = 0 ∨ y = 1) : vp_nar .boolean y = y := by rcases h with rfl | rfl <;> rfl
theorem c38 {d : Nat} {h : zH} {T : List (Nat → Int32)} {a b y : Int32} (hy : y = 0 ∨ y = 1) (g : gT h) (c : xT h T) : zD (d + 2) 38 [.inr 6, .inl a, .inl b, .inl y] h (fun v h' => v = some (.inl (sPutR T (sRow [a, b, y]))) ∧ gT h' ∧ xT h' (sPut T (sRow [a, b, y])) ∧ zSame (fun q => 6 ≤ q ∧ q < 10) h h') := by
  refine zD_of rfl (r38_0 ⟨g.1, _, c39 g c, ?_⟩)
  rintro v _ ⟨rfl, rfl⟩
  have e0 : sRow [a, b, y] 0 = a := rfl
  have e1 : sRow [a, b, y] 1 = b := rfl
  have g0 := g
  have c0 := c
  obtain ⟨g1, g2, g3, g4, g5, g6, g7, g8, g9, g10⟩ := g
  obtain ⟨c1, c2, c3⟩ := c
  have key : ∀ k, k < 6 → ∀ h2 : zH, (h2 = h ∨ h2 = zwI h 6 3 (nI T.length + 1)) → zSame (fun q => 6 ≤ q ∧ q < 10) h (zwI (zwI (zwI h2 7 k a) 8 k b) 9 k y) := by
    intro k _ h2 hh
    have s0 : zSame (fun q => 6 ≤ q ∧ q < 10) h h2 := by
      rcases hh with rfl | rfl
      · exact zSame.rf
      · exact zSame.wI (by constructor <;> omega)
    exact ((s0.tr (zSame.wI (by constructor <;> omega))).tr (zSame.wI (by constructor <;> omega))).tr (zSame.wI (by constructor <;> omega))
  refine r38_6 ?_
  unfold sPut sPutR
  rw [e0, e1]
  cases hf : sFx (pT a b) T 0 with
  | some k =>
    obtain ⟨t, ht, -⟩ := sFx_some hf
    have hk := lt_at ht
    simp only [Option.getD_some, g1, g2, g3, g4, g5, g6, g7, g8, g9, g10, c2, zK_wI, zL_wI, zR_wI, true_and, forall_eq, nI_clamp (show k < 2 ^ 31 by omega), nar01 hy]
    refine ⟨fun _ => ⟨fun _ => ⟨vp_in_nI (by omega) (by omega), vp_in_nI (by omega) (by omega), vp_in_nI (by omega) (by omega), Or.inr trivial, g0, ?_, key k (by omega) h (Or.inl rfl)⟩, fun q => absurd ((nI_eq (by omega) (by omega)).mp q) (by omega)⟩, fun q => absurd ((nI_eq (b := 6) (by omega) (by omega)).mp q) (by omega)⟩
    refine ⟨by rw [List.length_set]; exact c1, by rw [List.length_set]; exact c2, fun j t' ht' => ?_⟩
    by_cases e : j = k
    · subst e
      rw [List.getElem?_set_self hk] at ht'
      cases ht'
      exact ⟨by simp [zI_wI, sRow], by simp [zI_wI, sRow], by simp [zI_wI, sRow]⟩
    · rw [List.getElem?_set_ne (Ne.symm e)] at ht'
      obtain ⟨t0, t1, t2⟩ := c3 j t' ht'
      exact ⟨by simp [zI_wI, e, t0], by simp [zI_wI, e, t1], by simp [zI_wI, e, t2]⟩
  | none =>
    simp only [Option.getD_none, g1, g2, g3, g4, g5, g6, g7, g8, g9, g10, c2, zK_wI, zL_wI, zR_wI, true_and, forall_eq, nI_clamp (show T.length < 2 ^ 31 by omega), nar01 hy]
    refine ⟨fun q => ⟨fun q2 => absurd trivial q2, fun _ => ?_⟩, fun q => ?_⟩
    · have h6 : ¬ T.length = 6 := fun e => q (by rw [e]; rfl)
      rw [if_neg h6, if_neg h6]
      refine ⟨vp_in_nI (by omega) (by omega), vp_in_nI (by omega) (by omega), vp_in_nI (by omega) (by omega), Or.inr trivial, rfl, g0, ?_, key T.length (by omega) _ (Or.inr rfl)⟩
      refine ⟨by rw [List.length_append]; simp; omega, by rw [List.length_append]; simp [zI_wI, nI_1], fun j t' ht' => ?_⟩
      by_cases e : j = T.length
      · subst e
        rw [List.getElem?_append_right (Nat.le_refl _), Nat.sub_self] at ht'
        cases ht'
        exact ⟨by simp [zI_wI, sRow], by simp [zI_wI, sRow], by simp [zI_wI, sRow]⟩
      · have hj := lt_at ht'
        rw [List.length_append] at hj
        have hj' : j < T.length := by simp at hj; omega
        rw [List.getElem?_append_left hj'] at ht'
        obtain ⟨t0, t1, t2⟩ := c3 j t' ht'
        exact ⟨by simp [zI_wI, e, t0], by simp [zI_wI, e, t1], by simp [zI_wI, e, t2]⟩
    · have h6 : T.length = 6 := (nI_eq (b := 6) (by omega) (by omega)).mp q
      rw [if_pos h6, if_pos h6]
      exact ⟨Or.inl trivial, rfl, g0, c0, zSame.rf⟩
/-- the powers of ten lie at 2 -/
def gP (h : zH) : Prop := zK h 2 = 101 ∧ zL h 2 = 6 ∧ ∀ j, j < 6 → zI h 2 j = nI (10 ^ j)
/-- the ints of a title are as they must be: at most five digits, yes or no -/
def okT (T : List (Nat → Int32)) : Prop := ∀ t ∈ T, (∃ c : Nat, c ≤ 5 ∧ t 1 = nI c) ∧ (t 2 = 0 ∨ t 2 = 1)
def sTen (c : Int32) : Int32 := nI (10 ^ c.toNatClampNeg)
/-- is a subscriber with these digits reached? by the longest title that fits -/
def sReach (dg : Int32) : List (Nat → Int32) → Int32 → Int32 → Int32
  | [], _, y => y
  | t :: r, b, y => if b < t 1 ∧ dg / sTen (5 - t 1) = t 0 then sReach dg r (t 1) (t 2) else sReach dg r b y
theorem c40 {d : Nat} {h : zH} {T : List (Nat → Int32)} {dg : Int32} (g : gT h) (gp : gP h) (c : xT h T) (ok : okT T) : zD (d + 1) 40 [.inr 6, .inl dg] h (fun v h' => v = some (.inl (sReach dg T (-1) 0)) ∧ h = h') := by
  obtain ⟨g1, g2, g3, g4, g5, g6, g7, g8, g9, g10⟩ := g
  obtain ⟨p1, p2, p3⟩ := gp
  obtain ⟨c1, c2, c3⟩ := c
  refine zD_of rfl (r40_0 ?_)
  suffices H : ∀ m j b y, T.length - j = m → j ≤ T.length → (y = 0 ∨ y = 1) → sReach dg (T.drop j) b y = sReach dg T (-1) 0 → zWp zm40 (zD d) (fun v h' => v = some (.inl (sReach dg T (-1) 0)) ∧ h = h') 0 0 7 [some (.inr 6), some (.inl dg), some (.inl b), some (.inl y), some (.inl (nI j))] [] h from H _ 0 _ _ rfl (Nat.zero_le _) (Or.inl rfl) rfl
  intro m
  induction m with
  | zero =>
    intro j b y hm hj hy hs
    rw [List.drop_eq_nil_of_le (by omega)] at hs
    refine r40_7 ?_
    simp only [g1, c2, true_and]
    exact ⟨fun _ => ⟨hy, by rw [← hs]; rfl, trivial⟩, fun q => absurd (nI_le (by omega) (by omega)) q⟩
  | succ m ih =>
    intro j b y hm hj hy hs
    have hlt : j < T.length := by omega
    obtain ⟨t, ht⟩ := at_lt hlt
    obtain ⟨t0, t1, t2⟩ := c3 j t ht
    obtain ⟨⟨n, hn, e1⟩, hy2⟩ := ok t (List.mem_of_getElem? ht)
    rw [drop_at ht] at hs
    have e5 : (5 : Int32) - t 1 = nI (5 - n) := by rw [e1]; exact pk_sub (a := 5) hn
    have hten : sTen (5 - t 1) = nI (10 ^ (5 - n)) := by unfold sTen; rw [e5, nI_clamp (by omega)]
    have hp : zI h 2 (5 - n) = nI (10 ^ (5 - n)) := p3 _ (by omega)
    have hlt10 : 10 ^ (5 - n) < 2 ^ 31 := Nat.lt_of_le_of_lt (Nat.pow_le_pow_right (by decide) (show 5 - n ≤ 5 by omega)) (by decide)
    have hne : ¬ nI (10 ^ (5 - n)) = 0 := nI_ne0 (Nat.pos_of_ne_zero (by exact Nat.ne_of_gt (Nat.pow_pos (by decide)))) hlt10
    refine r40_7 ?_
    simp only [g1, g2, g3, g4, g5, g6, g7, g8, g9, g10, p1, p2, c2, nI_clamp (show j < 2 ^ 31 by omega), t0, t1, t2, e5, nI_clamp (show 5 - n < 2 ^ 31 by omega), hp, hne, true_and, true_or, or_true, nI_1, not_false_eq_true]
    refine ⟨fun q => absurd q (nI_ge hlt (by omega)), fun _ => ⟨vp_in_nI (by omega) (by omega), fun q => ?_, fun q1 => ⟨vp_in_nI (by omega) (by omega), vp_in_nI (by omega) (by omega), vp_in_nI (by omega) (by omega), fun q => ?_, fun q2 => ⟨vp_in_nI (by omega) (by omega), vp_in_nI (by omega) (by omega), ?_⟩⟩⟩⟩
    · refine ih (j + 1) b y (by omega) (by omega) hy ?_
      rw [← hs]
      show _ = if _ then _ else _
      rw [if_neg (fun z => absurd z.1 (by rw [Int32.not_lt]; exact q))]
    · refine ih (j + 1) b y (by omega) (by omega) hy ?_
      rw [← hs]
      show _ = if _ then _ else _
      rw [hten, if_neg (fun z => q z.2)]
    · refine ih (j + 1) _ _ (by omega) (by omega) hy2 ?_
      rw [← hs]
      show _ = if _ then _ else _
      rw [hten, if_pos ⟨by rw [← Int32.not_le]; exact q1, q2⟩]
end
section
/-! ===== Queries: a ring of the latest twenty ===== -/
def gQ (h : zH) : Prop := zK h 12 = 9 ∧ zR h 12 0 = 13 ∧ zR h 12 1 = 14 ∧ zK h 13 = 1 ∧ zK h 14 = 1 ∧ zL h 13 = 20 ∧ zL h 14 = 20
def xQ (h : zH) (Q : List (Int32 × Int32)) : Prop := zI h 12 2 = nI (Q.length % 20) ∧ (∀ i q, Q[i]? = some q → Q.length ≤ i + 20 → zI h 13 (i % 20) = q.1 ∧ zI h 14 (i % 20) = q.2) ∧ ∀ k, k < 20 → Q.length ≤ k → zI h 13 k = 0
/-- the queries' numbers are positive, each another -/
def okQ (Q : List (Int32 × Int32)) : Prop := (∀ q ∈ Q, 0 < q.1) ∧ ∀ (i j : Nat) (p q : Int32 × Int32), Q[i]? = some p → Q[j]? = some q → p.1 = q.1 → i = j
theorem gQ_same {A : Nat → Prop} {h h' : zH} (s : zSame A h h') (h1 : ¬ A 12) (c : gQ h) : gQ h' := by
  obtain ⟨c1, c2, c3, c4, c5, c6, c7⟩ := c
  exact ⟨(s.1 _).trans c1, (s.2.2.2 12 h1 0).2.trans c2, (s.2.2.2 12 h1 1).2.trans c3, (s.1 _).trans c4, (s.1 _).trans c5, (s.2.1 _).trans c6, (s.2.1 _).trans c7⟩
theorem xQ_same {A : Nat → Prop} {h h' : zH} {Q : List (Int32 × Int32)} (s : zSame A h h') (h1 : ¬ A 12) (h2 : ¬ A 13) (h3 : ¬ A 14) (c : xQ h Q) : xQ h' Q :=
  ⟨(s.2.2.2 12 h1 2).1.trans c.1, fun i q hq hl => ⟨(s.2.2.2 13 h2 _).1.trans (c.2.1 i q hq hl).1, (s.2.2.2 14 h3 _).1.trans (c.2.1 i q hq hl).2⟩, fun k hk hl => (s.2.2.2 13 h2 k).1.trans (c.2.2 k hk hl)⟩
theorem c49 {d : Nat} {h : zH} {Q : List (Int32 × Int32)} {n : Int32} (g : gQ h) (c : xQ h Q) : zD (d + 1) 49 [.inr 12, .inl n] h (fun v h' => v = none ∧ xQ h' (Q ++ [(n, -6)]) ∧ (∀ a j, zR h' a j = zR h a j) ∧ zSame (fun q => 12 ≤ q ∧ q < 15) h h') := by
  obtain ⟨g1, g2, g3, g4, g5, g6, g7⟩ := g
  obtain ⟨c1, c2, c3⟩ := c
  have hl20 : Q.length % 20 < 20 := Nat.mod_lt _ (by decide)
  have key : ∀ w : Int32, w = nI ((Q.length + 1) % 20) → (xQ (zwI (zwI (zwI h 13 (Q.length % 20) n) 14 (Q.length % 20) (-6)) 12 2 w) (Q ++ [(n, -6)]) ∧ (∀ a j, zR (zwI (zwI (zwI h 13 (Q.length % 20) n) 14 (Q.length % 20) (-6)) 12 2 w) a j = zR h a j) ∧ zSame (fun q => 12 ≤ q ∧ q < 15) h (zwI (zwI (zwI h 13 (Q.length % 20) n) 14 (Q.length % 20) (-6)) 12 2 w)) := by
    intro w hw
    have hl : (Q ++ [(n, -6)]).length = Q.length + 1 := by rw [List.length_append]; rfl
    refine ⟨⟨by rw [zI_at, hl, hw], fun i q hq hli => ?_, fun k hk hlk => ?_⟩, fun _ _ => rfl, ?_⟩
    · rw [hl] at hli
      have hi := lt_at hq
      rw [hl] at hi
      by_cases e : i = Q.length
      · subst e
        rw [List.getElem?_append_right (Nat.le_refl _), Nat.sub_self] at hq
        cases hq
        exact ⟨by simp [zI_wI], by simp [zI_wI]⟩
      · rw [List.getElem?_append_left (by omega)] at hq
        obtain ⟨q1, q2⟩ := c2 i q hq (by omega)
        have hne : i % 20 ≠ Q.length % 20 := by omega
        exact ⟨by simp [zI_wI, hne, q1], by simp [zI_wI, hne, q2]⟩
    · rw [hl] at hlk
      have hne : k ≠ Q.length % 20 := by omega
      have := c3 k hk (by omega)
      simp [zI_wI, hne, this]
    · refine (((zSame.wI ?_).tr (zSame.wI ?_)).tr (zSame.wI ?_)) <;> (constructor <;> omega)
  refine zD_of rfl (r49_0 ?_)
  have e2 : zI (zwI h 13 (Q.length % 20) n) 12 2 = nI (Q.length % 20) := by rw [zI_oa (by decide)]; exact c1
  have e3 : zI (zwI (zwI h 13 (Q.length % 20) n) 14 (Q.length % 20) (-6)) 12 2 = nI (Q.length % 20) := by rw [zI_oa (by decide)]; exact e2
  simp only [zK_wI, zL_wI, zR_wI, g1, g2, g3, g4, g5, g6, g7, c1, true_and, forall_eq, nI_clamp (show Q.length % 20 < 2 ^ 31 by omega), e2, e3, nI_1]
  refine ⟨vp_in_nI hl20 (by decide), vp_in_nI hl20 (by decide), fun q => ?_, fun q => ?_⟩
  · have hne : Q.length % 20 + 1 ≠ 20 := fun e => q (by rw [e]; rfl)
    obtain ⟨k1, k2, k3⟩ := key (nI (Q.length % 20 + 1)) (by congr 1; omega)
    exact ⟨k1, fun _ _ => trivial, k3⟩
  · have he : Q.length % 20 + 1 = 20 := (nI_eq (b := 20) (by omega) (by decide)).mp q
    obtain ⟨k1, k2, k3⟩ := key 0 (by rw [show (Q.length + 1) % 20 = 0 by omega]; rfl)
    exact ⟨k1, fun _ _ => trivial, k3⟩
/-- a query of this number among the latest twenty, its place in the ring; or none, and -1 -/
def pQ (Q : List (Int32 × Int32)) (n v : Int32) : Prop := (∃ i q, Q[i]? = some q ∧ Q.length ≤ i + 20 ∧ q.1 = n ∧ v = nI (i % 20)) ∨ ((∀ i q, Q[i]? = some q → Q.length ≤ i + 20 → q.1 ≠ n) ∧ v = -1)
theorem c52 {d : Nat} {h : zH} {Q : List (Int32 × Int32)} {n : Int32} (g : gQ h) (c : xQ h Q) (ok : okQ Q) : zD (d + 1) 52 [.inr 12, .inl n] h (fun v h' => (∃ r, v = some (.inl r) ∧ pQ Q n r) ∧ h = h') := by
  obtain ⟨g1, g2, g3, g4, g5, g6, g7⟩ := g
  obtain ⟨c1, c2, c3⟩ := c
  refine zD_of rfl (r52_0 ⟨fun hp => ?_, fun hp => ?_⟩)
  · suffices H : ∀ m j, 20 - j = m → j ≤ 20 → (∀ k, k < j → zI h 13 k ≠ n) → zWp zm52 (zD d) (fun v h' => (∃ r, v = some (.inl r) ∧ pQ Q n r) ∧ h = h') 0 0 8 [some (.inr 12), some (.inl n), some (.inl (nI j))] [] h from H _ 0 rfl (by omega) (fun k hk => absurd hk (Nat.not_lt_zero k))
    intro m
    induction m with
    | zero =>
      intro j hm hj hs
      refine r52_8 ⟨fun _ => ⟨⟨_, rfl, Or.inr ⟨fun i q hq hl e => ?_, rfl⟩⟩, rfl⟩, fun q => absurd (show nI 20 ≤ nI j from nI_le (by omega) (by omega)) q⟩
      exact hs (i % 20) (by omega) ((c2 i q hq hl).1.trans e)
    | succ m ih =>
      intro j hm hj hs
      refine r52_8 ⟨fun q => absurd (show nI 20 ≤ nI j from q) (nI_ge (by omega) (by omega)), fun _ => ?_⟩
      simp only [g1, g2, g4, g6, true_and, true_or, nI_clamp (show j < 2 ^ 31 by omega), nI_1]
      refine ⟨vp_in_nI (by omega) (by omega), fun q => ?_, fun q => ?_⟩
      · exact ih (j + 1) (by omega) (by omega) (fun k hk => by
          by_cases e : k = j
          · rw [e]; exact q
          · exact hs k (by omega))
      · refine ⟨⟨_, rfl, Or.inl ?_⟩, trivial⟩
        have hlt : j < Q.length := Nat.not_le.mp fun hle => by
          have := c3 j (by omega) hle
          rw [this] at q
          rw [← q] at hp
          exact absurd hp (by decide)
        have hi : j + 20 * ((Q.length - 1 - j) / 20) < Q.length := by omega
        obtain ⟨x, hx⟩ := at_lt hi
        have hm : (j + 20 * ((Q.length - 1 - j) / 20)) % 20 = j := by omega
        refine ⟨_, x, hx, by omega, ?_, by rw [hm]⟩
        have := (c2 _ x hx (by omega)).1
        rw [hm, q] at this
        exact this.symm
  · refine ⟨⟨_, rfl, Or.inr ⟨fun i q hq hl e => ?_, rfl⟩⟩, rfl⟩
    have := ok.1 q (List.mem_of_getElem? hq)
    rw [e] at this
    exact hp this
/-- the query of this number has this answer now -/
def sSet (Q : List (Int32 × Int32)) (n v : Int32) : List (Int32 × Int32) := Q.map (fun q => if q.1 = n then (q.1, v) else q)
theorem sSet_at {Q : List (Int32 × Int32)} {n v : Int32} {i : Nat} {q : Int32 × Int32} (h : (sSet Q n v)[i]? = some q) : ∃ p, Q[i]? = some p ∧ q = (if p.1 = n then (p.1, v) else p) := by
  unfold sSet at h
  rw [List.getElem?_map] at h
  cases hp : Q[i]? with
  | none => rw [hp] at h; cases h
  | some p => rw [hp] at h; exact ⟨p, rfl, (Option.some.inj h).symm⟩
theorem sSet_len (Q : List (Int32 × Int32)) (n v : Int32) : (sSet Q n v).length = Q.length := List.length_map _
theorem nI_m1 {k : Nat} (h : k < 2 ^ 31) : ¬ nI k = -1 := fun e => by
  have hp := nI_pos h
  rw [e] at hp
  exact hp (by decide)
theorem c50 {d : Nat} {h : zH} {Q : List (Int32 × Int32)} {n w : Int32} (g : gQ h) (c : xQ h Q) (ok : okQ Q) : zD (d + 2) 50 [.inr 12, .inl n, .inl w] h (fun v h' => v = none ∧ xQ h' (sSet Q n w) ∧ (∀ a j, zR h' a j = zR h a j) ∧ zSame (fun q => 12 ≤ q ∧ q < 15) h h') := by
  refine zD_of rfl (r50_0 ⟨g.1, _, c52 g c ok, ?_⟩)
  rintro v _ ⟨⟨r, rfl, hr⟩, rfl⟩
  obtain ⟨g1, g2, g3, g4, g5, g6, g7⟩ := g
  obtain ⟨c1, c2, c3⟩ := c
  refine r50_5 ⟨fun q => ?_, fun q => ?_⟩
  · rcases hr with ⟨i, p, hp, hl, e, er⟩ | ⟨hno, -⟩
    · exact absurd (er.symm.trans q) (nI_m1 (by omega))
    · refine ⟨rfl, ⟨by rw [sSet_len]; exact c1, fun i q hq hl => ?_, by rw [sSet_len]; exact c3⟩, fun _ _ => rfl, zSame.rf⟩
      rw [sSet_len] at hl
      obtain ⟨p, hp, rfl⟩ := sSet_at hq
      rw [if_neg (hno i p hp hl)]
      exact c2 i p hp hl
  · rcases hr with ⟨i, p, hp, hl, e, rfl⟩ | ⟨-, er⟩
    · simp only [g1, g3, g5, g7, true_and, forall_eq, nI_clamp (show i % 20 < 2 ^ 31 by omega)]
      refine ⟨vp_in_nI (by omega) (by omega), ⟨by rw [sSet_len, zI_oa (by decide)]; exact c1, fun j q hq hlj => ?_, fun k hk hlk => by rw [sSet_len] at hlk; rw [zI_oa (by decide)]; exact c3 k hk hlk⟩, fun _ _ => rfl, zSame.wI (by constructor <;> omega)⟩
      rw [sSet_len] at hlj
      obtain ⟨p2, hp2, rfl⟩ := sSet_at hq
      obtain ⟨d1, d2⟩ := c2 j p2 hp2 hlj
      rw [zI_oa (by decide)]
      have hj := lt_at hp2
      have hi := lt_at hp
      by_cases eq : j = i
      · subst eq
        have : p2 = p := Option.some.inj (hp2.symm.trans hp)
        subst this
        rw [if_pos e, zI_at]
        exact ⟨d1, rfl⟩
      · have hne : ¬ p2.1 = n := fun e2 => eq (ok.2 j i p2 p hp2 hp (e2.trans e.symm))
        rw [if_neg hne, zI_ok (by omega)]
        exact ⟨d1, d2⟩
    · exact absurd er q
/-- what a query's asker is told: the answer if it is among the latest twenty, else BAD -/
def pAns (Q : List (Int32 × Int32)) (n v : Int32) : Prop := (∃ i q, Q[i]? = some q ∧ Q.length ≤ i + 20 ∧ q.1 = n ∧ v = q.2) ∨ ((∀ i q, Q[i]? = some q → Q.length ≤ i + 20 → q.1 ≠ n) ∧ v = -9)
theorem pAns_one {Q : List (Int32 × Int32)} {n v w : Int32} (ok : okQ Q) (h1 : pAns Q n v) (h2 : pAns Q n w) : v = w := by
  rcases h1 with ⟨i, p, a1, a2, a3, rfl⟩ | ⟨a1, rfl⟩ <;> rcases h2 with ⟨j, q, b1, b2, b3, rfl⟩ | ⟨b1, rfl⟩
  · have := ok.2 i j p q a1 b1 (a3.trans b3.symm)
    subst this
    rw [Option.some.inj (a1.symm.trans b1)]
  · exact absurd a3 (b1 i p a1 a2)
  · exact absurd b3 (a1 j q b1 b2)
  · rfl
theorem c51 {d : Nat} {h : zH} {Q : List (Int32 × Int32)} {n : Int32} (g : gQ h) (c : xQ h Q) (ok : okQ Q) : zD (d + 2) 51 [.inr 12, .inl n] h (fun v h' => (∃ r, v = some (.inl r) ∧ pAns Q n r) ∧ h = h') := by
  refine zD_of rfl (r51_0 ⟨g.1, _, c52 g c ok, ?_⟩)
  rintro v _ ⟨⟨r, rfl, hr⟩, rfl⟩
  obtain ⟨g1, g2, g3, g4, g5, g6, g7⟩ := g
  obtain ⟨c1, c2, c3⟩ := c
  refine r51_5 ⟨fun q => ?_, fun q => ?_⟩
  · rcases hr with ⟨i, p, hp, hl, e, rfl⟩ | ⟨-, er⟩
    · simp only [g1, g3, g5, g7, true_and, true_or, nI_clamp (show i % 20 < 2 ^ 31 by omega)]
      exact ⟨vp_in_nI (by omega) (by omega), ⟨_, rfl, Or.inl ⟨i, p, hp, hl, e, (c2 i p hp hl).2⟩⟩, trivial⟩
    · exact absurd er q
  · rcases hr with ⟨i, p, hp, hl, e, er⟩ | ⟨hno, -⟩
    · exact absurd (er.symm.trans q) (nI_m1 (by omega))
    · exact ⟨⟨_, rfl, Or.inr ⟨hno, rfl⟩⟩, rfl⟩
end
section
/-! ===== RoamingNumbers ===== -/
def gN (h : zH) (w : Nat) : Prop := zK h 44 = 11 ∧ zR h 44 0 = 45 ∧ zR h 44 1 = 46 ∧ zK h 45 = 1 ∧ zK h 46 = 1 ∧ zL h 45 = 2 * (w + 1) ∧ zL h 46 = 2 * (w + 1)
def xN (h : zH) (w : Nat) (O U : Nat → Int32) : Prop := ∀ k, k < 2 * (w + 1) → zI h 45 k = O k ∧ zI h 46 k = U k
theorem gN_same {A : Nat → Prop} {h h' : zH} {w : Nat} (s : zSame A h h') (h1 : ¬ A 44) (c : gN h w) : gN h' w := by
  obtain ⟨c1, c2, c3, c4, c5, c6, c7⟩ := c
  exact ⟨(s.1 _).trans c1, (s.2.2.2 44 h1 0).2.trans c2, (s.2.2.2 44 h1 1).2.trans c3, (s.1 _).trans c4, (s.1 _).trans c5, (s.2.1 _).trans c6, (s.2.1 _).trans c7⟩
theorem xN_same {A : Nat → Prop} {h h' : zH} {w : Nat} {O U : Nat → Int32} (s : zSame A h h') (h1 : ¬ A 45) (h2 : ¬ A 46) (c : xN h w O U) : xN h' w O U :=
  fun k hk => ⟨(s.2.2.2 45 h1 k).1.trans (c k hk).1, (s.2.2.2 46 h2 k).1.trans (c k hk).2⟩
/-- the number that is allotted: the first that is free, or -2 -/
def sAlK (O : Nat → Int32) (n : Nat) : Option Nat := if O (2 * n) = -1 then some 0 else if O (2 * n + 1) = -1 then some 1 else none
def sAlR (O : Nat → Int32) (n : Nat) : Int32 := match sAlK O n with
  | some k => nI (100 * n + k)
  | none => -2
def sUpK (f : Nat → Int32) (n : Nat) (o : Option Nat) (v : Int32) : Nat → Int32 := match o with
  | some k => upd f (2 * n + k) v
  | none => f
theorem c54 {d : Nat} {h : zH} {w n : Nat} {O U : Nat → Int32} {s u : Int32} (hw : w ≤ 4) (hn : n ≤ w) (g : gN h w) (c : xN h w O U) : zD (d + 1) 54 [.inr 44, .inl (nI n), .inl s, .inl u] h (fun v h' => v = some (.inl (sAlR O n)) ∧ xN h' w (sUpK O n (sAlK O n) s) (sUpK U n (sAlK O n) u) ∧ (∀ a j, zR h' a j = zR h a j) ∧ zSame (fun q => q = 45 ∨ q = 46) h h') := by
  obtain ⟨g1, g2, g3, g4, g5, g6, g7⟩ := g
  have key : ∀ k, k < 2 → sAlK O n = some k → xN (zwI (zwI h 45 (2 * n + k) s) 46 (2 * n + k) u) w (sUpK O n (sAlK O n) s) (sUpK U n (sAlK O n) u) := by
    intro k hk e q hq
    rw [e]
    show _ = upd O _ _ _ ∧ _ = upd U _ _ _
    unfold upd
    obtain ⟨q1, q2⟩ := c q hq
    by_cases hqk : q = 2 * n + k
    · simp [zI_wI, hqk]
    · simp [zI_wI, hqk, q1, q2]
  have hs : ∀ k : Nat, zSame (fun q => q = 45 ∨ q = 46) h (zwI (zwI h 45 k s) 46 k u) := fun k => (zSame.wI (Or.inl rfl)).tr (zSame.wI (Or.inr rfl))
  have em : ∀ k : Nat, (2 : Int32) * nI n + nI k = nI (2 * n + k) := fun k => by rw [show (2 : Int32) = nI 2 from rfl, pk_mul, nI_add]
  have eh : ∀ k : Nat, (100 : Int32) * nI n + nI k = nI (100 * n + k) := fun k => by rw [show (100 : Int32) = nI 100 from rfl, pk_mul, nI_add]
  refine zD_of rfl (r54_0 (show zWp _ _ _ _ _ _ [_, _, _, _, some (.inl (nI 0)), _] _ _ from ?_))
  refine r54_3 ⟨fun q => absurd (show nI 2 ≤ nI 0 from q) (nI_ge (by decide) (by decide)), fun _ => ?_⟩
  obtain ⟨c0, -⟩ := c (2 * n) (by omega)
  obtain ⟨c1, -⟩ := c (2 * n + 1) (by omega)
  simp only [zK_wI, zL_wI, zR_wI, g1, g2, g3, g4, g5, g6, g7, true_and, true_or, forall_eq, em 0, eh 0, nI_clamp (show 2 * n + 0 < 2 ^ 31 by omega), nI_1]
  rw [show 2 * n + 0 = 2 * n from rfl, c0]
  refine ⟨vp_in_nI (by omega) (by omega), fun q => ?_, fun q => ⟨vp_in_nI (by omega) (by omega), vp_in_nI (by omega) (by omega), ?_⟩⟩
  · refine r54_3 ⟨fun q => absurd (show nI 2 ≤ nI 1 from q) (nI_ge (by decide) (by decide)), fun _ => ?_⟩
    simp only [zK_wI, zL_wI, zR_wI, g1, g2, g3, g4, g5, g6, g7, true_and, true_or, forall_eq, em (0 + 1), eh (0 + 1), nI_clamp (show 2 * n + (0 + 1) < 2 ^ 31 by omega), nI_1]
    rw [show 2 * n + (0 + 1) = 2 * n + 1 from rfl, c1]
    refine ⟨vp_in_nI (by omega) (by omega), fun q1 => ?_, fun q1 => ⟨vp_in_nI (by omega) (by omega), vp_in_nI (by omega) (by omega), ?_⟩⟩
    · have e : sAlK O n = none := by unfold sAlK; rw [if_neg q, if_neg q1]
      refine r54_3 ⟨fun _ => ?_, fun q => absurd (show nI 2 ≤ nI 2 from nI_le (by decide) (by decide)) q⟩
      unfold sAlR
      rw [e]
      exact ⟨rfl, c, fun _ _ => rfl, zSame.rf⟩
    · have e : sAlK O n = some 1 := by unfold sAlK; rw [if_neg q, if_pos q1]
      refine ⟨by unfold sAlR; rw [e], key 1 (by decide) e, fun _ _ => ?_, hs _⟩
      trivial
  · have e : sAlK O n = some 0 := by unfold sAlK; rw [if_pos q]
    refine ⟨by unfold sAlR; rw [e], key 0 (by decide) e, fun _ _ => ?_, hs _⟩
    trivial
theorem c55 {d : Nat} {h : zH} {w n k : Nat} {O U : Nat → Int32} (hw : w ≤ 4) (hn : n ≤ w) (hk : k < 2) (g : gN h w) (c : xN h w O U) : zD (d + 1) 55 [.inr 44, .inl (nI n), .inl (nI k)] h (fun v h' => v = some (.inl (O (2 * n + k))) ∧ xN h' w (upd O (2 * n + k) (-1)) U ∧ (∀ a j, zR h' a j = zR h a j) ∧ zSame (fun q => q = 45 ∨ q = 46) h h') := by
  obtain ⟨g1, g2, g3, g4, g5, g6, g7⟩ := g
  have em : (2 : Int32) * nI n + nI k = nI (2 * n + k) := by rw [show (2 : Int32) = nI 2 from rfl, pk_mul, nI_add]
  refine zD_of rfl (r55_0 ?_)
  simp only [g1, g2, g3, g4, g5, g6, g7, true_and, true_or, forall_eq, em, nI_clamp (show 2 * n + k < 2 ^ 31 by omega), (c (2 * n + k) (by omega)).1]
  refine ⟨vp_in_nI (by omega) (by omega), vp_in_nI (by omega) (by omega), fun q hq => ?_, fun _ _ => rfl, zSame.wI (Or.inl rfl)⟩
  obtain ⟨q1, q2⟩ := c q hq
  unfold upd
  by_cases e : q = 2 * n + k
  · simp [zI_wI, e]; rw [← e]; exact q2
  · simp [zI_wI, e, q1, q2]
theorem c56 {d : Nat} {h : zH} {w : Nat} {O U : Nat → Int32} {t : Int32} (hw : w ≤ 4) (g : gN h w) (c : xN h w O U) : zD (d + 1) 56 [.inr 44, .inl t] h (fun v h' => v = none ∧ xN h' w (fun k => if U k = t then -1 else O k) U ∧ (∀ a j, zR h' a j = zR h a j) ∧ zSame (fun q => q = 45 ∨ q = 46) h h') := by
  obtain ⟨g1, g2, g3, g4, g5, g6, g7⟩ := g
  refine zD_of rfl (r56_0 ?_)
  suffices H : ∀ m j h3, 2 * (w + 1) - j = m → j ≤ 2 * (w + 1) → (∀ a j, zR h3 a j = zR h a j) → zSame (fun q => q = 45 ∨ q = 46) h h3 → (∀ k, k < 2 * (w + 1) → zI h3 46 k = U k) → (∀ k, k < j → zI h3 45 k = if U k = t then -1 else O k) → (∀ k, j ≤ k → k < 2 * (w + 1) → zI h3 45 k = O k) → zWp zm56 (zD d) (fun v h' => v = none ∧ xN h' w (fun k => if U k = t then -1 else O k) U ∧ (∀ a j, zR h' a j = zR h a j) ∧ zSame (fun q => q = 45 ∨ q = 46) h h') 0 0 2 [some (.inr 44), some (.inl t), some (.inl (nI j))] [] h3 from
    H _ 0 h rfl (Nat.zero_le _) (fun _ _ => rfl) zSame.rf (fun k hk => (c k hk).2) (fun k hk => absurd hk (Nat.not_lt_zero k)) (fun k _ hk => (c k hk).1)
  intro m
  induction m with
  | zero =>
    intro j h3 hm hj hr hs hu hlo hhi
    have ej : j = 2 * (w + 1) := by omega
    subst ej
    refine r56_2 ?_
    simp only [hs.1 44, hs.1 45, hs.2.1 45, hr 44 0, g1, g2, g4, g6, true_and]
    exact ⟨fun _ => ⟨fun k hk => ⟨hlo k hk, hu k hk⟩, hr, hs⟩, fun q => absurd (nI_le (Nat.le_refl _) (by omega)) q⟩
  | succ m ih =>
    intro j h3 hm hj hr hs hu hlo hhi
    refine r56_2 ?_
    simp only [hs.1 44, hs.1 45, hs.1 46, hs.2.1 45, hs.2.1 46, hr 44 0, hr 44 1, g1, g2, g3, g4, g5, g6, g7, true_and, true_or, forall_eq, nI_clamp (show j < 2 ^ 31 by omega), hu j (by omega), nI_1]
    refine ⟨fun q => absurd q (nI_ge (by omega) (by omega)), fun _ => ⟨vp_in_nI (by omega) (by omega), fun q => ?_, fun q => ⟨vp_in_nI (by omega) (by omega), ?_⟩⟩⟩
    · refine ih (j + 1) h3 (by omega) (by omega) hr hs hu (fun k hk => ?_) (fun k hk hk2 => hhi k (by omega) hk2)
      by_cases e : k = j
      · rw [e, if_neg q]; exact hhi j (Nat.le_refl _) (by omega)
      · exact hlo k (by omega)
    · refine ih (j + 1) _ (by omega) (by omega) hr (hs.tr (zSame.wI (Or.inl rfl))) (fun k hk => by rw [zI_oa (by decide)]; exact hu k hk) (fun k hk => ?_) (fun k hk hk2 => by rw [zI_ok (by omega)]; exact hhi k (by omega) hk2)
      by_cases e : k = j
      · rw [e, if_pos q, zI_at]
      · rw [zI_ok e]; exact hlo k (by omega)
end
section
theorem r0_0 {call : zCall} {K : zT} {h : zH} {l0 : Nat} {l1 : Int32} {o2 : Option zV} (k : zK h l0 = 3 ∧ ¬ (4 : Int32) < 0 ∧ (4 : Int32).toNatClampNeg ≤ 100000 ∧ 0 + 1 ≤ zm0.2.2.1 ∧ 0 + (4 : Int32).toNatClampNeg ≤ zm0.2.2.2 ∧ ∀ h1, h1 = zNew h 1 (4 : Int32).toNatClampNeg → zK h1 l0 = 3 ∧ ∀ h2, h2 = zwR h1 l0 2 (zN h) → ¬ (4 : Int32) < 0 ∧ (4 : Int32).toNatClampNeg ≤ 100000 ∧ (0 + 1) + 1 ≤ zm0.2.2.1 ∧ (0 + (4 : Int32).toNatClampNeg) + (4 : Int32).toNatClampNeg ≤ zm0.2.2.2 ∧ ∀ h3, h3 = zNew h2 1 (4 : Int32).toNatClampNeg → zK h3 l0 = 3 ∧ ∀ h4, h4 = zwR h3 l0 3 (zN h2) → ((0 + 1) + 1) + 1 ≤ zm0.2.2.1 ∧ ((0 + (4 : Int32).toNatClampNeg) + (4 : Int32).toNatClampNeg) + 4 ≤ zm0.2.2.2 ∧ ∀ h5, h5 = zNew h4 5 0 → zK h5 (zN h4) = 5 ∧ (((0 + 1) + 1) + 1) + zMc 37 ≤ zm0.2.2.1 ∧ (((0 + (4 : Int32).toNatClampNeg) + (4 : Int32).toNatClampNeg) + 4) + zMs 37 ≤ zm0.2.2.2 ∧ ∃ Q : zT, call 37 [.inr (zN h4)] h5 Q ∧ ∀ v h6, Q v h6 → zWp zm0 call K ((((0 + 1) + 1) + 1) + zMc 37) ((((0 + (4 : Int32).toNatClampNeg) + (4 : Int32).toNatClampNeg) + 4) + zMs 37) 26 [some (.inr l0), some (.inl l1), o2] (v.toList ++ [.inr (zN h4), .inr l0]) h6) : zWp zm0 call K 0 0 0 [some (.inr l0), some (.inl l1), o2] [] h := zGo [26, 37, 48, 59, 70, 126, 138, 166, 187] 400 k
theorem r0_26 {call : zCall} {K : zT} {h : zH} {cu su : Nat} {l0 : Nat} {l1 : Int32} {o2 : Option zV} {s0 : Nat} {s1 : Nat} (k : zK h s0 = 3 ∧ ∀ h1, h1 = zwR h s0 6 s1 → cu + 1 ≤ zm0.2.2.1 ∧ su + 2 ≤ zm0.2.2.2 ∧ ∀ h2, h2 = zNew h1 7 0 → zK h2 (zN h1) = 7 ∧ (cu + 1) + zMc 41 ≤ zm0.2.2.1 ∧ (su + 2) + zMs 41 ≤ zm0.2.2.2 ∧ ∃ Q : zT, call 41 [.inr (zN h1)] h2 Q ∧ ∀ v h3, Q v h3 → zWp zm0 call K ((cu + 1) + zMc 41) ((su + 2) + zMs 41) 37 [some (.inr l0), some (.inl l1), o2] (v.toList ++ [.inr (zN h1), .inr l0]) h3) : zWp zm0 call K cu su 26 [some (.inr l0), some (.inl l1), o2] [.inr s1, .inr s0] h := zGo [26, 37, 48, 59, 70, 126, 138, 166, 187] 400 k
theorem r0_37 {call : zCall} {K : zT} {h : zH} {cu su : Nat} {l0 : Nat} {l1 : Int32} {o2 : Option zV} {s0 : Nat} {s1 : Nat} (k : zK h s0 = 3 ∧ ∀ h1, h1 = zwR h s0 7 s1 → cu + 1 ≤ zm0.2.2.1 ∧ su + 3 ≤ zm0.2.2.2 ∧ ∀ h2, h2 = zNew h1 9 0 → zK h2 (zN h1) = 9 ∧ (cu + 1) + zMc 48 ≤ zm0.2.2.1 ∧ (su + 3) + zMs 48 ≤ zm0.2.2.2 ∧ ∃ Q : zT, call 48 [.inr (zN h1)] h2 Q ∧ ∀ v h3, Q v h3 → zWp zm0 call K ((cu + 1) + zMc 48) ((su + 3) + zMs 48) 48 [some (.inr l0), some (.inl l1), o2] (v.toList ++ [.inr (zN h1), .inr l0]) h3) : zWp zm0 call K cu su 37 [some (.inr l0), some (.inl l1), o2] [.inr s1, .inr s0] h := zGo [26, 37, 48, 59, 70, 126, 138, 166, 187] 400 k
theorem r0_48 {call : zCall} {K : zT} {h : zH} {cu su : Nat} {l0 : Nat} {l1 : Int32} {o2 : Option zV} {s0 : Nat} {s1 : Nat} (k : zK h s0 = 3 ∧ ∀ h1, h1 = zwR h s0 8 s1 → cu + 1 ≤ zm0.2.2.1 ∧ su + 2 ≤ zm0.2.2.2 ∧ ∀ h2, h2 = zNew h1 19 0 → zK h2 (zN h1) = 19 ∧ (cu + 1) + zMc 68 ≤ zm0.2.2.1 ∧ (su + 2) + zMs 68 ≤ zm0.2.2.2 ∧ ∃ Q : zT, call 68 [.inr (zN h1)] h2 Q ∧ ∀ v h3, Q v h3 → zWp zm0 call K ((cu + 1) + zMc 68) ((su + 2) + zMs 68) 59 [some (.inr l0), some (.inl l1), o2] (v.toList ++ [.inr (zN h1), .inr l0]) h3) : zWp zm0 call K cu su 48 [some (.inr l0), some (.inl l1), o2] [.inr s1, .inr s0] h := zGo [26, 37, 48, 59, 70, 126, 138, 166, 187] 400 k
theorem r0_59 {call : zCall} {K : zT} {h : zH} {cu su : Nat} {l0 : Nat} {l1 : Int32} {o2 : Option zV} {s0 : Nat} {s1 : Nat} (k : zK h s0 = 3 ∧ ∀ h1, h1 = zwR h s0 9 s1 → cu + 1 ≤ zm0.2.2.1 ∧ su + 7 ≤ zm0.2.2.2 ∧ ∀ h2, h2 = zNew h1 17 0 → zK h2 (zN h1) = 17 ∧ (cu + 1) + zMc 65 ≤ zm0.2.2.1 ∧ (su + 7) + zMs 65 ≤ zm0.2.2.2 ∧ ∃ Q : zT, call 65 [.inr (zN h1)] h2 Q ∧ ∀ v h3, Q v h3 → zWp zm0 call K ((cu + 1) + zMc 65) ((su + 7) + zMs 65) 70 [some (.inr l0), some (.inl l1), o2] (v.toList ++ [.inr (zN h1), .inr l0]) h3) : zWp zm0 call K cu su 59 [some (.inr l0), some (.inl l1), o2] [.inr s1, .inr s0] h := zGo [26, 37, 48, 59, 70, 126, 138, 166, 187] 400 k
theorem r0_70 {call : zCall} {K : zT} {h : zH} {cu su : Nat} {l0 : Nat} {l1 : Int32} {o2 : Option zV} {s0 : Nat} {s1 : Nat} (k : zK h s0 = 3 ∧ ∀ h1, h1 = zwR h s0 10 s1 → zK h1 l0 = 3 ∧ ∀ h2, h2 = zwI h1 l0 0 (if (2 : Int32) < (if l1 < (4 : Int32) then l1 else (4 : Int32)) then (if l1 < (4 : Int32) then l1 else (4 : Int32)) else (2 : Int32)) → zK h2 l0 = 3 ∧ ¬ ((4 : Int32) * ((zI h2 l0 0) + (1 : Int32))) < 0 ∧ ((4 : Int32) * ((zI h2 l0 0) + (1 : Int32))).toNatClampNeg ≤ 100000 ∧ cu + 1 ≤ zm0.2.2.1 ∧ su + ((4 : Int32) * ((zI h2 l0 0) + (1 : Int32))).toNatClampNeg ≤ zm0.2.2.2 ∧ ∀ h3, h3 = zNew h2 2 ((4 : Int32) * ((zI h2 l0 0) + (1 : Int32))).toNatClampNeg → zK h3 l0 = 3 ∧ ∀ h4, h4 = zwR h3 l0 4 (zN h2) → zK h4 l0 = 3 ∧ ¬ ((4 : Int32) * ((zI h4 l0 0) + (1 : Int32))) < 0 ∧ ((4 : Int32) * ((zI h4 l0 0) + (1 : Int32))).toNatClampNeg ≤ 100000 ∧ (cu + 1) + 1 ≤ zm0.2.2.1 ∧ (su + ((4 : Int32) * ((zI h2 l0 0) + (1 : Int32))).toNatClampNeg) + ((4 : Int32) * ((zI h4 l0 0) + (1 : Int32))).toNatClampNeg ≤ zm0.2.2.2 ∧ ∀ h5, h5 = zNew h4 1 ((4 : Int32) * ((zI h4 l0 0) + (1 : Int32))).toNatClampNeg → zK h5 l0 = 3 ∧ ∀ h6, h6 = zwR h5 l0 5 (zN h4) → ((cu + 1) + 1) + 1 ≤ zm0.2.2.1 ∧ ((su + ((4 : Int32) * ((zI h2 l0 0) + (1 : Int32))).toNatClampNeg) + ((4 : Int32) * ((zI h4 l0 0) + (1 : Int32))).toNatClampNeg) + 2 ≤ zm0.2.2.2 ∧ ∀ h7, h7 = zNew h6 11 0 → zK h7 l0 = 3 ∧ zK h7 (zN h6) = 11 ∧ (((cu + 1) + 1) + 1) + zMc 53 ≤ zm0.2.2.1 ∧ (((su + ((4 : Int32) * ((zI h2 l0 0) + (1 : Int32))).toNatClampNeg) + ((4 : Int32) * ((zI h4 l0 0) + (1 : Int32))).toNatClampNeg) + 2) + zMs 53 ≤ zm0.2.2.2 ∧ ∃ Q : zT, call 53 [.inr (zN h6), .inl (zI h7 l0 0)] h7 Q ∧ ∀ v h8, Q v h8 → zWp zm0 call K ((((cu + 1) + 1) + 1) + zMc 53) ((((su + ((4 : Int32) * ((zI h2 l0 0) + (1 : Int32))).toNatClampNeg) + ((4 : Int32) * ((zI h4 l0 0) + (1 : Int32))).toNatClampNeg) + 2) + zMs 53) 126 [some (.inr l0), some (.inl l1), o2] (v.toList ++ [.inr (zN h6), .inr l0]) h8) : zWp zm0 call K cu su 70 [some (.inr l0), some (.inl l1), o2] [.inr s1, .inr s0] h := zGo [26, 37, 48, 59, 70, 126, 138, 166, 187] 400 k
theorem r0_126 {call : zCall} {K : zT} {h : zH} {cu su : Nat} {l0 : Nat} {l1 : Int32} {o2 : Option zV} {s0 : Nat} {s1 : Nat} (k : zK h s0 = 3 ∧ ∀ h1, h1 = zwR h s0 11 s1 → cu + 1 ≤ zm0.2.2.1 ∧ su + 3 ≤ zm0.2.2.2 ∧ ∀ h2, h2 = zNew h1 15 0 → zK h2 (zN h1) = 15 ∧ (cu + 1) + zMc 58 ≤ zm0.2.2.1 ∧ (su + 3) + zMs 58 ≤ zm0.2.2.2 ∧ ∃ Q : zT, call 58 [.inr (zN h1), .inl (4 : Int32)] h2 Q ∧ ∀ v h3, Q v h3 → zWp zm0 call K ((cu + 1) + zMc 58) ((su + 3) + zMs 58) 138 [some (.inr l0), some (.inl l1), o2] (v.toList ++ [.inr (zN h1), .inr l0]) h3) : zWp zm0 call K cu su 126 [some (.inr l0), some (.inl l1), o2] [.inr s1, .inr s0] h := zGo [26, 37, 48, 59, 70, 126, 138, 166, 187] 400 k
theorem r0_138 {call : zCall} {K : zT} {h : zH} {cu su : Nat} {l0 : Nat} {l1 : Int32} {o2 : Option zV} {s0 : Nat} {s1 : Nat} (k : zK h s0 = 3 ∧ ∀ h1, h1 = zwR h s0 12 s1 → zK h1 l0 = 3 ∧ ¬ ((zI h1 l0 0) + (1 : Int32)) < 0 ∧ ((zI h1 l0 0) + (1 : Int32)).toNatClampNeg ≤ 100000 ∧ cu + 1 ≤ zm0.2.2.1 ∧ su + ((zI h1 l0 0) + (1 : Int32)).toNatClampNeg ≤ zm0.2.2.2 ∧ ∀ h2, h2 = zNew h1 16 ((zI h1 l0 0) + (1 : Int32)).toNatClampNeg → zK h2 l0 = 3 ∧ ∀ h3, h3 = zwR h2 l0 13 (zN h1) → zK h3 l0 = 3 ∧ zK h3 l0 = 3 ∧ zK h3 (zR h3 l0 13) = 16 ∧ zK h3 (zR h3 l0 12) = 15 ∧ vp_in (0 : Int32) (zL h3 (zR h3 l0 13)) ∧ ∀ h4, h4 = zwR h3 (zR h3 l0 13) (0 : Int32).toNatClampNeg (zR h3 l0 12) → zWp zm0 call K (cu + 1) (su + ((zI h1 l0 0) + (1 : Int32)).toNatClampNeg) 166 [some (.inr l0), some (.inl l1), some (.inl (1 : Int32))] [] h4) : zWp zm0 call K cu su 138 [some (.inr l0), some (.inl l1), o2] [.inr s1, .inr s0] h := zGo [26, 37, 48, 59, 70, 126, 138, 166, 187] 400 k
theorem r0_166 {call : zCall} {K : zT} {h : zH} {cu su : Nat} {l0 : Nat} {l1 : Int32} {l2 : Int32} (k : zK h l0 = 3 ∧ ((zI h l0 0) < l2 → K none h) ∧ (¬ (zI h l0 0) < l2 → zK h l0 = 3 ∧ cu + 1 ≤ zm0.2.2.1 ∧ su + 3 ≤ zm0.2.2.2 ∧ ∀ h1, h1 = zNew h 15 0 → zK h1 (zN h) = 15 ∧ (cu + 1) + zMc 58 ≤ zm0.2.2.1 ∧ (su + 3) + zMs 58 ≤ zm0.2.2.2 ∧ ∃ Q : zT, call 58 [.inr (zN h), .inl (2 : Int32)] h1 Q ∧ ∀ v h2, Q v h2 → zWp zm0 call K ((cu + 1) + zMc 58) ((su + 3) + zMs 58) 187 [some (.inr l0), some (.inl l1), some (.inl l2)] (v.toList ++ [.inr (zN h), .inl l2, .inr (zR h l0 13)]) h2)) : zWp zm0 call K cu su 166 [some (.inr l0), some (.inl l1), some (.inl l2)] [] h := zGo [26, 37, 48, 59, 70, 126, 138, 166, 187] 400 k
theorem r0_187 {call : zCall} {K : zT} {h : zH} {cu su : Nat} {l0 : Nat} {l1 : Int32} {l2 : Int32} {s0 : Nat} {s1 : Int32} {s2 : Nat} (k : zK h s0 = 16 ∧ zK h s2 = 15 ∧ vp_in s1 (zL h s0) ∧ ∀ h1, h1 = zwR h s0 s1.toNatClampNeg s2 → zWp zm0 call K cu su 166 [some (.inr l0), some (.inl l1), some (.inl (l2 + (1 : Int32)))] [] h1) : zWp zm0 call K cu su 187 [some (.inr l0), some (.inl l1), some (.inl l2)] [.inr s2, .inl s1, .inr s0] h := zGo [26, 37, 48, 59, 70, 126, 138, 166, 187] 400 k
theorem r1_0 {call : zCall} {K : zT} {h : zH} {l0 : Nat} {l1 : Int32} {l2 : Int32} (k : ∃ Q : zT, call 21 [.inl l1] h Q ∧ ∀ v h1, Q v h1 → zWp zm1 call K 0 0 4 [some (.inr l0), some (.inl l1), some (.inl l2)] (v.toList ++ []) h1) : zWp zm1 call K 0 0 0 [some (.inr l0), some (.inl l1), some (.inl l2)] [] h := zGo [4] 400 k
theorem r1_4 {call : zCall} {K : zT} {h : zH} {l0 : Nat} {l1 : Int32} {l2 : Int32} {s0 : Int32} (k : (s0 = 0 → ((0 : Int32) = 0 ∨ (0 : Int32) = 1) ∧ K (some (.inl (0 : Int32))) h) ∧ (¬ s0 = 0 → (l2 < 0 → ((0 : Int32) = 0 ∨ (0 : Int32) = 1) ∧ K (some (.inl (0 : Int32))) h) ∧ (¬ l2 < 0 → (zK h 2 = 1 ∨ zK h 2 = 101) ∧ vp_in (5 : Int32) (zL h 2) ∧ (l2 < (zI h 2 (5 : Int32).toNatClampNeg) → zK h l0 = 3 ∧ zK h (zR h l0 2) = 1 ∧ vp_in l1 (zL h (zR h l0 2)) ∧ ∀ h1, h1 = zwI h (zR h l0 2) l1.toNatClampNeg l2 → ((1 : Int32) = 0 ∨ (1 : Int32) = 1) ∧ K (some (.inl (1 : Int32))) h1) ∧ (¬ l2 < (zI h 2 (5 : Int32).toNatClampNeg) → ((0 : Int32) = 0 ∨ (0 : Int32) = 1) ∧ K (some (.inl (0 : Int32))) h)))) : zWp zm1 call K 0 0 4 [some (.inr l0), some (.inl l1), some (.inl l2)] [.inl s0] h := zGo [4] 400 k
theorem r2_0 {call : zCall} {K : zT} {h : zH} {l0 : Nat} {l1 : Int32} {l2 : Int32} {l3 : Int32} (k : (l2 < 0 → ((0 : Int32) = 0 ∨ (0 : Int32) = 1) ∧ K (some (.inl (0 : Int32))) h) ∧ (¬ l2 < 0 → ((5 : Int32) < l2 → ((0 : Int32) = 0 ∨ (0 : Int32) = 1) ∧ K (some (.inl (0 : Int32))) h) ∧ (¬ (5 : Int32) < l2 → (l1 < 0 → ((0 : Int32) = 0 ∨ (0 : Int32) = 1) ∧ K (some (.inl (0 : Int32))) h) ∧ (¬ l1 < 0 → (zK h 2 = 1 ∨ zK h 2 = 101) ∧ vp_in l2 (zL h 2) ∧ (l1 < (zI h 2 l2.toNatClampNeg) → zK h l0 = 3 ∧ zK h (zR h l0 6) = 5 ∧ ∃ Q : zT, call 38 [.inr (zR h l0 6), .inl l1, .inl l2, .inl l3] h Q ∧ ∀ v h1, Q v h1 → zWp zm2 call K 0 0 34 [some (.inr l0), some (.inl l1), some (.inl l2), some (.inl l3)] (v.toList ++ []) h1) ∧ (¬ l1 < (zI h 2 l2.toNatClampNeg) → ((0 : Int32) = 0 ∨ (0 : Int32) = 1) ∧ K (some (.inl (0 : Int32))) h))))) : zWp zm2 call K 0 0 0 [some (.inr l0), some (.inl l1), some (.inl l2), some (.inl l3)] [] h := zGo [34] 400 k
theorem r2_34 {call : zCall} {K : zT} {h : zH} {l0 : Nat} {l1 : Int32} {l2 : Int32} {l3 : Int32} {s0 : Int32} (k : (s0 = 0 ∨ s0 = 1) ∧ K (some (.inl s0)) h) : zWp zm2 call K 0 0 34 [some (.inr l0), some (.inl l1), some (.inl l2), some (.inl l3)] [.inl s0] h := zGo [34] 400 k
theorem r3_0 {call : zCall} {K : zT} {h : zH} {l0 : Nat} {l1 : Int32} {l2 : Int32} {o3 : Option zV} {o4 : Option zV} (k : zK h l0 = 3 ∧ ∃ Q : zT, call 20 [.inr l0, .inl l1] h Q ∧ ∀ v h1, Q v h1 → zWp zm3 call K 0 0 5 [some (.inr l0), some (.inl l1), some (.inl l2), o3, o4] (v.toList ++ []) h1) : zWp zm3 call K 0 0 0 [some (.inr l0), some (.inl l1), some (.inl l2), o3, o4] [] h := zGo [5, 12, 29, 39, 59, 80, 91, 109] 400 k
theorem r3_5 {call : zCall} {K : zT} {h : zH} {l0 : Nat} {l1 : Int32} {l2 : Int32} {o3 : Option zV} {o4 : Option zV} {s0 : Int32} (k : (s0 = 0 → K (some (.inl (-9 : Int32))) h) ∧ (¬ s0 = 0 → ∃ Q : zT, call 21 [.inl l2] h Q ∧ ∀ v h1, Q v h1 → zWp zm3 call K 0 0 12 [some (.inr l0), some (.inl l1), some (.inl l2), o3, o4] (v.toList ++ []) h1)) : zWp zm3 call K 0 0 5 [some (.inr l0), some (.inl l1), some (.inl l2), o3, o4] [.inl s0] h := zGo [5, 12, 29, 39, 59, 80, 91, 109] 400 k
theorem r3_12 {call : zCall} {K : zT} {h : zH} {l0 : Nat} {l1 : Int32} {l2 : Int32} {o3 : Option zV} {o4 : Option zV} {s0 : Int32} (k : (¬ s0 = 0 → zK h l0 = 3 ∧ zK h (zR h l0 13) = 16 ∧ vp_in l1 (zL h (zR h l0 13)) ∧ zK h (zR h (zR h l0 13) l1.toNatClampNeg) = 15 ∧ ∃ Q : zT, call 59 [.inr (zR h (zR h l0 13) l1.toNatClampNeg)] h Q ∧ ∀ v h1, Q v h1 → zWp zm3 call K 0 0 29 [some (.inr l0), some (.inl l1), some (.inl l2), some (.inr (zR h (zR h l0 13) l1.toNatClampNeg)), o4] (v.toList ++ []) h1) ∧ (s0 = 0 → K (some (.inl (-9 : Int32))) h)) : zWp zm3 call K 0 0 12 [some (.inr l0), some (.inl l1), some (.inl l2), o3, o4] [.inl s0] h := zGo [5, 12, 29, 39, 59, 80, 91, 109] 400 k
theorem r3_29 {call : zCall} {K : zT} {h : zH} {l0 : Nat} {l1 : Int32} {l2 : Int32} {l3 : Nat} {o4 : Option zV} {s0 : Int32} (k : (¬ s0 = 0 → K (some (.inl (-8 : Int32))) h) ∧ (s0 = 0 → zK h l3 = 15 ∧ ∃ Q : zT, call 62 [.inr l3, .inl (1 : Int32), .inl (0 : Int32), .inl l2] h Q ∧ ∀ v h1, Q v h1 → zWp zm3 call K 0 0 39 [some (.inr l0), some (.inl l1), some (.inl l2), some (.inr l3), o4] (v.toList ++ []) h1)) : zWp zm3 call K 0 0 29 [some (.inr l0), some (.inl l1), some (.inl l2), some (.inr l3), o4] [.inl s0] h := zGo [5, 12, 29, 39, 59, 80, 91, 109] 400 k
theorem r3_39 {call : zCall} {K : zT} {h : zH} {l0 : Nat} {l1 : Int32} {l2 : Int32} {l3 : Nat} {o4 : Option zV} {s0 : Int32} (k : (s0 = (-1 : Int32) → zK h l0 = 3 ∧ zK h l0 = 3 ∧ (zK h (zR h l0 2) = 1 ∨ zK h (zR h l0 2) = 101) ∧ vp_in l2 (zL h (zR h l0 2)) ∧ zK h (zR h l0 6) = 5 ∧ ∃ Q : zT, call 40 [.inr (zR h l0 6), .inl (zI h (zR h l0 2) l2.toNatClampNeg)] h Q ∧ ∀ v h1, Q v h1 → zWp zm3 call K 0 0 59 [some (.inr l0), some (.inl l1), some (.inl l2), some (.inr l3), o4] (v.toList ++ []) h1) ∧ (¬ s0 = (-1 : Int32) → K (some (.inl (-8 : Int32))) h)) : zWp zm3 call K 0 0 39 [some (.inr l0), some (.inl l1), some (.inl l2), some (.inr l3), o4] [.inl s0] h := zGo [5, 12, 29, 39, 59, 80, 91, 109] 400 k
theorem r3_59 {call : zCall} {K : zT} {h : zH} {l0 : Nat} {l1 : Int32} {l2 : Int32} {l3 : Nat} {o4 : Option zV} {s0 : Int32} (k : (¬ s0 = 0 → zK h l0 = 3 ∧ zK h l3 = 15 ∧ ∃ Q : zT, call 60 [.inr l3, .inl (1 : Int32), .inl (0 : Int32), .inl l2, .inl ((zI h l0 1) + (10 : Int32)), .inl (0 : Int32)] h Q ∧ ∀ v h1, Q v h1 → zWp zm3 call K 0 0 80 [some (.inr l0), some (.inl l1), some (.inl l2), some (.inr l3), o4] (v.toList ++ []) h1) ∧ (s0 = 0 → K (some (.inl (-7 : Int32))) h)) : zWp zm3 call K 0 0 59 [some (.inr l0), some (.inl l1), some (.inl l2), some (.inr l3), o4] [.inl s0] h := zGo [5, 12, 29, 39, 59, 80, 91, 109] 400 k
theorem r3_80 {call : zCall} {K : zT} {h : zH} {l0 : Nat} {l1 : Int32} {l2 : Int32} {l3 : Nat} {o4 : Option zV} {s0 : Int32} (k : zK h l0 = 3 ∧ ∃ Q : zT, call 22 [.inl l1, .inl l2] h Q ∧ ∀ v h1, Q v h1 → zWp zm3 call K 0 0 91 [some (.inr l0), some (.inl l1), some (.inl l2), some (.inr l3), some (.inl s0)] (v.toList ++ [.inr (zR h l0 5)]) h1) : zWp zm3 call K 0 0 80 [some (.inr l0), some (.inl l1), some (.inl l2), some (.inr l3), o4] [.inl s0] h := zGo [5, 12, 29, 39, 59, 80, 91, 109] 400 k
theorem r3_91 {call : zCall} {K : zT} {h : zH} {l0 : Nat} {l1 : Int32} {l2 : Int32} {l3 : Nat} {l4 : Int32} {s0 : Nat} {s1 : Int32} (k : zK h s0 = 1 ∧ vp_in s1 (zL h s0) ∧ ∀ h1, h1 = zwI h s0 s1.toNatClampNeg (1 : Int32) → zK h1 l0 = 3 ∧ zK h1 (zR h1 l0 9) = 19 ∧ ∃ Q : zT, call 71 [.inr (zR h1 l0 9), .inl l1, .inl (0 : Int32), .inl (11 : Int32), .inl l2, .inl l4, .inl (0 : Int32), .inl (0 : Int32)] h1 Q ∧ ∀ v h2, Q v h2 → zWp zm3 call K 0 0 109 [some (.inr l0), some (.inl l1), some (.inl l2), some (.inr l3), some (.inl l4)] (v.toList ++ []) h2) : zWp zm3 call K 0 0 91 [some (.inr l0), some (.inl l1), some (.inl l2), some (.inr l3), some (.inl l4)] [.inl s1, .inr s0] h := zGo [5, 12, 29, 39, 59, 80, 91, 109] 400 k
theorem r3_109 {call : zCall} {K : zT} {h : zH} {l0 : Nat} {l1 : Int32} {l2 : Int32} {l3 : Nat} {l4 : Int32} (k : K (some (.inl l4)) h) : zWp zm3 call K 0 0 109 [some (.inr l0), some (.inl l1), some (.inl l2), some (.inr l3), some (.inl l4)] [] h := zGo [5, 12, 29, 39, 59, 80, 91, 109] 400 k
theorem r4_0 {call : zCall} {K : zT} {h : zH} {l0 : Nat} {l1 : Int32} {o2 : Option zV} {o3 : Option zV} (k : ∃ Q : zT, call 21 [.inl l1] h Q ∧ ∀ v h1, Q v h1 → zWp zm4 call K 0 0 4 [some (.inr l0), some (.inl l1), o2, o3] (v.toList ++ []) h1) : zWp zm4 call K 0 0 0 [some (.inr l0), some (.inl l1), o2, o3] [] h := zGo [4, 31, 55, 64, 79] 400 k
theorem r4_4 {call : zCall} {K : zT} {h : zH} {l0 : Nat} {l1 : Int32} {o2 : Option zV} {o3 : Option zV} {s0 : Int32} (k : (¬ s0 = 0 → zK h l0 = 3 ∧ (zK h (zR h l0 3) = 1 ∨ zK h (zR h l0 3) = 101) ∧ vp_in l1 (zL h (zR h l0 3)) ∧ (¬ (zI h (zR h l0 3) l1.toNatClampNeg) = 0 → zK h l0 = 3 ∧ zK h (zR h l0 12) = 15 ∧ ∃ Q : zT, call 59 [.inr (zR h l0 12)] h Q ∧ ∀ v h1, Q v h1 → zWp zm4 call K 0 0 31 [some (.inr l0), some (.inl l1), some (.inl (zI h (zR h l0 3) l1.toNatClampNeg)), o3] (v.toList ++ []) h1) ∧ ((zI h (zR h l0 3) l1.toNatClampNeg) = 0 → K (some (.inl (-7 : Int32))) h)) ∧ (s0 = 0 → K (some (.inl (-9 : Int32))) h)) : zWp zm4 call K 0 0 4 [some (.inr l0), some (.inl l1), o2, o3] [.inl s0] h := zGo [4, 31, 55, 64, 79] 400 k
theorem r4_31 {call : zCall} {K : zT} {h : zH} {l0 : Nat} {l1 : Int32} {l2 : Int32} {o3 : Option zV} {s0 : Int32} (k : (s0 = 0 → zK h l0 = 3 ∧ zK h l0 = 3 ∧ zK h (zR h l0 12) = 15 ∧ ∃ Q : zT, call 60 [.inr (zR h l0 12), .inl (4 : Int32), .inl l2, .inl l1, .inl ((zI h l0 1) + (6 : Int32)), .inl (0 : Int32)] h Q ∧ ∀ v h1, Q v h1 → zWp zm4 call K 0 0 55 [some (.inr l0), some (.inl l1), some (.inl l2), o3] (v.toList ++ []) h1) ∧ (¬ s0 = 0 → K (some (.inl (-8 : Int32))) h)) : zWp zm4 call K 0 0 31 [some (.inr l0), some (.inl l1), some (.inl l2), o3] [.inl s0] h := zGo [4, 31, 55, 64, 79] 400 k
theorem r4_55 {call : zCall} {K : zT} {h : zH} {l0 : Nat} {l1 : Int32} {l2 : Int32} {o3 : Option zV} {s0 : Int32} (k : zK h l0 = 3 ∧ zK h (zR h l0 8) = 9 ∧ ∃ Q : zT, call 49 [.inr (zR h l0 8), .inl s0] h Q ∧ ∀ v h1, Q v h1 → zWp zm4 call K 0 0 64 [some (.inr l0), some (.inl l1), some (.inl l2), some (.inl s0)] (v.toList ++ []) h1) : zWp zm4 call K 0 0 55 [some (.inr l0), some (.inl l1), some (.inl l2), o3] [.inl s0] h := zGo [4, 31, 55, 64, 79] 400 k
theorem r4_64 {call : zCall} {K : zT} {h : zH} {l0 : Nat} {l1 : Int32} {l2 : Int32} {l3 : Int32} (k : zK h l0 = 3 ∧ zK h (zR h l0 9) = 19 ∧ ∃ Q : zT, call 71 [.inr (zR h l0 9), .inl (0 : Int32), .inl l2, .inl (14 : Int32), .inl l1, .inl l3, .inl (0 : Int32), .inl (0 : Int32)] h Q ∧ ∀ v h1, Q v h1 → zWp zm4 call K 0 0 79 [some (.inr l0), some (.inl l1), some (.inl l2), some (.inl l3)] (v.toList ++ []) h1) : zWp zm4 call K 0 0 64 [some (.inr l0), some (.inl l1), some (.inl l2), some (.inl l3)] [] h := zGo [4, 31, 55, 64, 79] 400 k
theorem r4_79 {call : zCall} {K : zT} {h : zH} {l0 : Nat} {l1 : Int32} {l2 : Int32} {l3 : Int32} (k : K (some (.inl l3)) h) : zWp zm4 call K 0 0 79 [some (.inr l0), some (.inl l1), some (.inl l2), some (.inl l3)] [] h := zGo [4, 31, 55, 64, 79] 400 k
theorem r5_0 {call : zCall} {K : zT} {h : zH} {l0 : Nat} {l1 : Int32} (k : zK h l0 = 3 ∧ zK h (zR h l0 8) = 9 ∧ ∃ Q : zT, call 51 [.inr (zR h l0 8), .inl l1] h Q ∧ ∀ v h1, Q v h1 → zWp zm5 call K 0 0 8 [some (.inr l0), some (.inl l1)] (v.toList ++ []) h1) : zWp zm5 call K 0 0 0 [some (.inr l0), some (.inl l1)] [] h := zGo [8] 400 k
theorem r5_8 {call : zCall} {K : zT} {h : zH} {l0 : Nat} {l1 : Int32} {s0 : Int32} (k : K (some (.inl s0)) h) : zWp zm5 call K 0 0 8 [some (.inr l0), some (.inl l1)] [.inl s0] h := zGo [8] 400 k
theorem r6_0 {call : zCall} {K : zT} {h : zH} {l0 : Nat} {l1 : Int32} (k : zK h l0 = 3 ∧ zK h (zR h l0 9) = 19 ∧ ∃ Q : zT, call 69 [.inr (zR h l0 9), .inl l1] h Q ∧ ∀ v h1, Q v h1 → zWp zm6 call K 0 0 8 [some (.inr l0), some (.inl l1)] (v.toList ++ []) h1) : zWp zm6 call K 0 0 0 [some (.inr l0), some (.inl l1)] [] h := zGo [8, 30, 38, 46] 400 k
theorem r6_8 {call : zCall} {K : zT} {h : zH} {l0 : Nat} {l1 : Int32} {s0 : Int32} (k : (¬ s0 = 0 → zK h l0 = 3 ∧ zK h l0 = 3 ∧ zK h (zR h l0 9) = 19 ∧ zK h (zR h (zR h l0 9) 0) = 18 ∧ vp_in l1 (zL h (zR h (zR h l0 9) 0)) ∧ zK h (zR h l0 10) = 17 ∧ ∃ Q : zT, call 66 [.inr (zR h l0 10), .inr (zR h (zR h (zR h l0 9) 0) l1.toNatClampNeg)] h Q ∧ ∀ v h1, Q v h1 → zWp zm6 call K 0 0 30 [some (.inr l0), some (.inl l1)] (v.toList ++ []) h1) ∧ (s0 = 0 → K (some (.inl (-9 : Int32))) h)) : zWp zm6 call K 0 0 8 [some (.inr l0), some (.inl l1)] [.inl s0] h := zGo [8, 30, 38, 46] 400 k
theorem r6_30 {call : zCall} {K : zT} {h : zH} {l0 : Nat} {l1 : Int32} (k : zK h l0 = 3 ∧ zK h (zR h l0 9) = 19 ∧ ∃ Q : zT, call 73 [.inr (zR h l0 9), .inl l1] h Q ∧ ∀ v h1, Q v h1 → zWp zm6 call K 0 0 38 [some (.inr l0), some (.inl l1)] (v.toList ++ []) h1) : zWp zm6 call K 0 0 30 [some (.inr l0), some (.inl l1)] [] h := zGo [8, 30, 38, 46] 400 k
theorem r6_38 {call : zCall} {K : zT} {h : zH} {l0 : Nat} {l1 : Int32} (k : zK h l0 = 3 ∧ zK h l0 = 3 ∧ ∃ Q : zT, call 23 [.inr l0, .inr (zR h l0 10)] h Q ∧ ∀ v h1, Q v h1 → zWp zm6 call K 0 0 46 [some (.inr l0), some (.inl l1)] (v.toList ++ []) h1) : zWp zm6 call K 0 0 38 [some (.inr l0), some (.inl l1)] [] h := zGo [8, 30, 38, 46] 400 k
theorem r6_46 {call : zCall} {K : zT} {h : zH} {l0 : Nat} {l1 : Int32} (k : zK h l0 = 3 ∧ zK h (zR h l0 10) = 17 ∧ K (some (.inl (zI h (zR h l0 10) 2))) h) : zWp zm6 call K 0 0 46 [some (.inr l0), some (.inl l1)] [] h := zGo [8, 30, 38, 46] 400 k
theorem r7_0 {call : zCall} {K : zT} {h : zH} {l0 : Nat} {l1 : Int32} (k : zK h l0 = 3 ∧ zK h (zR h l0 9) = 19 ∧ ∃ Q : zT, call 69 [.inr (zR h l0 9), .inl l1] h Q ∧ ∀ v h1, Q v h1 → zWp zm7 call K 0 0 8 [some (.inr l0), some (.inl l1)] (v.toList ++ []) h1) : zWp zm7 call K 0 0 0 [some (.inr l0), some (.inl l1)] [] h := zGo [8, 21] 400 k
theorem r7_8 {call : zCall} {K : zT} {h : zH} {l0 : Nat} {l1 : Int32} {s0 : Int32} (k : (¬ s0 = 0 → zK h l0 = 3 ∧ zK h (zR h l0 9) = 19 ∧ ∃ Q : zT, call 73 [.inr (zR h l0 9), .inl l1] h Q ∧ ∀ v h1, Q v h1 → zWp zm7 call K 0 0 21 [some (.inr l0), some (.inl l1)] (v.toList ++ []) h1) ∧ (s0 = 0 → ((0 : Int32) = 0 ∨ (0 : Int32) = 1) ∧ K (some (.inl (0 : Int32))) h)) : zWp zm7 call K 0 0 8 [some (.inr l0), some (.inl l1)] [.inl s0] h := zGo [8, 21] 400 k
theorem r7_21 {call : zCall} {K : zT} {h : zH} {l0 : Nat} {l1 : Int32} (k : ((1 : Int32) = 0 ∨ (1 : Int32) = 1) ∧ K (some (.inl (1 : Int32))) h) : zWp zm7 call K 0 0 21 [some (.inr l0), some (.inl l1)] [] h := zGo [8, 21] 400 k
theorem r8_0 {call : zCall} {K : zT} {h : zH} {l0 : Nat} {l1 : Int32} (k : zK h l0 = 3 ∧ zK h (zR h l0 9) = 19 ∧ ∃ Q : zT, call 69 [.inr (zR h l0 9), .inl l1] h Q ∧ ∀ v h1, Q v h1 → zWp zm8 call K 0 0 8 [some (.inr l0), some (.inl l1)] (v.toList ++ []) h1) : zWp zm8 call K 0 0 0 [some (.inr l0), some (.inl l1)] [] h := zGo [8, 18, 31] 400 k
theorem r8_8 {call : zCall} {K : zT} {h : zH} {l0 : Nat} {l1 : Int32} {s0 : Int32} (k : (s0 = 0 → ((0 : Int32) = 0 ∨ (0 : Int32) = 1) ∧ K (some (.inl (0 : Int32))) h) ∧ (¬ s0 = 0 → zK h l0 = 3 ∧ zK h (zR h l0 9) = 19 ∧ ∃ Q : zT, call 70 [.inr (zR h l0 9)] h Q ∧ ∀ v h1, Q v h1 → zWp zm8 call K 0 0 18 [some (.inr l0), some (.inl l1)] (v.toList ++ []) h1)) : zWp zm8 call K 0 0 8 [some (.inr l0), some (.inl l1)] [.inl s0] h := zGo [8, 18, 31] 400 k
theorem r8_18 {call : zCall} {K : zT} {h : zH} {l0 : Nat} {l1 : Int32} {s0 : Int32} (k : (s0 = 0 → zK h l0 = 3 ∧ zK h (zR h l0 9) = 19 ∧ ∃ Q : zT, call 72 [.inr (zR h l0 9), .inl l1] h Q ∧ ∀ v h1, Q v h1 → zWp zm8 call K 0 0 31 [some (.inr l0), some (.inl l1)] (v.toList ++ []) h1) ∧ (¬ s0 = 0 → ((0 : Int32) = 0 ∨ (0 : Int32) = 1) ∧ K (some (.inl (0 : Int32))) h)) : zWp zm8 call K 0 0 18 [some (.inr l0), some (.inl l1)] [.inl s0] h := zGo [8, 18, 31] 400 k
theorem r8_31 {call : zCall} {K : zT} {h : zH} {l0 : Nat} {l1 : Int32} (k : ((1 : Int32) = 0 ∨ (1 : Int32) = 1) ∧ K (some (.inl (1 : Int32))) h) : zWp zm8 call K 0 0 31 [some (.inr l0), some (.inl l1)] [] h := zGo [8, 18, 31] 400 k
theorem r9_0 {call : zCall} {K : zT} {h : zH} {l0 : Nat} (k : zK h l0 = 3 ∧ zK h (zR h l0 9) = 19 ∧ K (some (.inl (zI h (zR h l0 9) 1))) h) : zWp zm9 call K 0 0 0 [some (.inr l0)] [] h := zGo [] 400 k
theorem r10_0 {call : zCall} {K : zT} {h : zH} {l0 : Nat} {l1 : Int32} {l2 : Int32} (k : zK h l0 = 3 ∧ zK h (zR h l0 9) = 19 ∧ ∃ Q : zT, call 69 [.inr (zR h l0 9), .inl l1] h Q ∧ ∀ v h1, Q v h1 → zWp zm10 call K 0 0 8 [some (.inr l0), some (.inl l1), some (.inl l2)] (v.toList ++ []) h1) : zWp zm10 call K 0 0 0 [some (.inr l0), some (.inl l1), some (.inl l2)] [] h := zGo [8, 24] 400 k
theorem r10_8 {call : zCall} {K : zT} {h : zH} {l0 : Nat} {l1 : Int32} {l2 : Int32} {s0 : Int32} (k : (s0 = 0 → K (some (.inl (-9 : Int32))) h) ∧ (¬ s0 = 0 → zK h l0 = 3 ∧ zK h (zR h l0 9) = 19 ∧ zK h (zR h (zR h l0 9) 0) = 18 ∧ vp_in l1 (zL h (zR h (zR h l0 9) 0)) ∧ zK h (zR h (zR h (zR h l0 9) 0) l1.toNatClampNeg) = 17 ∧ ∃ Q : zT, call 67 [.inr (zR h (zR h (zR h l0 9) 0) l1.toNatClampNeg), .inl l2] h Q ∧ ∀ v h1, Q v h1 → zWp zm10 call K 0 0 24 [some (.inr l0), some (.inl l1), some (.inl l2)] (v.toList ++ []) h1)) : zWp zm10 call K 0 0 8 [some (.inr l0), some (.inl l1), some (.inl l2)] [.inl s0] h := zGo [8, 24] 400 k
theorem r10_24 {call : zCall} {K : zT} {h : zH} {l0 : Nat} {l1 : Int32} {l2 : Int32} {s0 : Int32} (k : K (some (.inl s0)) h) : zWp zm10 call K 0 0 24 [some (.inr l0), some (.inl l1), some (.inl l2)] [.inl s0] h := zGo [8, 24] 400 k
theorem r11_0 {call : zCall} {K : zT} {h : zH} {l0 : Nat} {o1 : Option zV} (k : zK h l0 = 3 ∧ zK h l0 = 3 ∧ ∀ h1, h1 = zwI h l0 1 ((zI h l0 1) + (1 : Int32)) → zWp zm11 call K 0 0 12 [some (.inr l0), some (.inl (0 : Int32))] [] h1) : zWp zm11 call K 0 0 0 [some (.inr l0), o1] [] h := zGo [12, 25, 42, 44, 64, 67] 400 k
theorem r11_12 {call : zCall} {K : zT} {h : zH} {l0 : Nat} {l1 : Int32} (k : zK h l0 = 3 ∧ ((zI h l0 0) < l1 → zK h l0 = 3 ∧ zK h l0 = 3 ∧ zK h (zR h l0 11) = 11 ∧ ∃ Q : zT, call 56 [.inr (zR h l0 11), .inl (zI h l0 1)] h Q ∧ ∀ v h1, Q v h1 → zWp zm11 call K 0 0 42 [some (.inr l0), some (.inl l1)] (v.toList ++ []) h1) ∧ (¬ (zI h l0 0) < l1 → zK h l0 = 3 ∧ ∃ Q : zT, call 34 [.inr l0, .inl l1] h Q ∧ ∀ v h2, Q v h2 → zWp zm11 call K 0 0 25 [some (.inr l0), some (.inl l1)] (v.toList ++ []) h2)) : zWp zm11 call K 0 0 12 [some (.inr l0), some (.inl l1)] [] h := zGo [12, 25, 42, 44, 64, 67] 400 k
theorem r11_25 {call : zCall} {K : zT} {h : zH} {l0 : Nat} {l1 : Int32} (k : zWp zm11 call K 0 0 12 [some (.inr l0), some (.inl (l1 + (1 : Int32)))] [] h) : zWp zm11 call K 0 0 25 [some (.inr l0), some (.inl l1)] [] h := zGo [12, 25, 42, 44, 64, 67] 400 k
theorem r11_42 {call : zCall} {K : zT} {h : zH} {l0 : Nat} {l1 : Int32} (k : zWp zm11 call K 0 0 44 [some (.inr l0), some (.inl (0 : Int32))] [] h) : zWp zm11 call K 0 0 42 [some (.inr l0), some (.inl l1)] [] h := zGo [12, 25, 42, 44, 64, 67] 400 k
theorem r11_44 {call : zCall} {K : zT} {h : zH} {l0 : Nat} {l1 : Int32} (k : zK h l0 = 3 ∧ zK h (zR h l0 7) = 7 ∧ ((zI h (zR h l0 7) 1) ≤ l1 → zK h l0 = 3 ∧ K (some (.inl (zI h l0 1))) h) ∧ (¬ (zI h (zR h l0 7) 1) ≤ l1 → zK h l0 = 3 ∧ zK h (zR h l0 7) = 7 ∧ ∃ Q : zT, call 44 [.inr (zR h l0 7), .inl l1] h Q ∧ ∀ v h1, Q v h1 → zWp zm11 call K 0 0 64 [some (.inr l0), some (.inl l1)] (v.toList ++ [.inr l0]) h1)) : zWp zm11 call K 0 0 44 [some (.inr l0), some (.inl l1)] [] h := zGo [12, 25, 42, 44, 64, 67] 400 k
theorem r11_64 {call : zCall} {K : zT} {h : zH} {l0 : Nat} {l1 : Int32} {s0 : Nat} {s1 : Int32} (k : zK h s0 = 3 ∧ ∃ Q : zT, call 36 [.inr s0, .inl s1] h Q ∧ ∀ v h1, Q v h1 → zWp zm11 call K 0 0 67 [some (.inr l0), some (.inl l1)] (v.toList ++ []) h1) : zWp zm11 call K 0 0 64 [some (.inr l0), some (.inl l1)] [.inl s1, .inr s0] h := zGo [12, 25, 42, 44, 64, 67] 400 k
theorem r11_67 {call : zCall} {K : zT} {h : zH} {l0 : Nat} {l1 : Int32} (k : zWp zm11 call K 0 0 44 [some (.inr l0), some (.inl (l1 + (1 : Int32)))] [] h) : zWp zm11 call K 0 0 67 [some (.inr l0), some (.inl l1)] [] h := zGo [12, 25, 42, 44, 64, 67] 400 k
theorem r12_0 {call : zCall} {K : zT} {h : zH} {l0 : Nat} {l1 : Int32} {l2 : Int32} (k : zK h l0 = 3 ∧ ∃ Q : zT, call 20 [.inr l0, .inl l1] h Q ∧ ∀ v h1, Q v h1 → zWp zm12 call K 0 0 5 [some (.inr l0), some (.inl l1), some (.inl l2)] (v.toList ++ []) h1) : zWp zm12 call K 0 0 0 [some (.inr l0), some (.inl l1), some (.inl l2)] [] h := zGo [5, 12, 24] 400 k
theorem r12_5 {call : zCall} {K : zT} {h : zH} {l0 : Nat} {l1 : Int32} {l2 : Int32} {s0 : Int32} (k : (s0 = 0 → ((0 : Int32) = 0 ∨ (0 : Int32) = 1) ∧ K (some (.inl (0 : Int32))) h) ∧ (¬ s0 = 0 → ∃ Q : zT, call 21 [.inl l2] h Q ∧ ∀ v h1, Q v h1 → zWp zm12 call K 0 0 12 [some (.inr l0), some (.inl l1), some (.inl l2)] (v.toList ++ []) h1)) : zWp zm12 call K 0 0 5 [some (.inr l0), some (.inl l1), some (.inl l2)] [.inl s0] h := zGo [5, 12, 24] 400 k
theorem r12_12 {call : zCall} {K : zT} {h : zH} {l0 : Nat} {l1 : Int32} {l2 : Int32} {s0 : Int32} (k : (s0 = 0 → ((0 : Int32) = 0 ∨ (0 : Int32) = 1) ∧ K (some (.inl (0 : Int32))) h) ∧ (¬ s0 = 0 → zK h l0 = 3 ∧ ∃ Q : zT, call 22 [.inl l1, .inl l2] h Q ∧ ∀ v h1, Q v h1 → zWp zm12 call K 0 0 24 [some (.inr l0), some (.inl l1), some (.inl l2)] (v.toList ++ [.inr (zR h l0 4)]) h1)) : zWp zm12 call K 0 0 12 [some (.inr l0), some (.inl l1), some (.inl l2)] [.inl s0] h := zGo [5, 12, 24] 400 k
theorem r12_24 {call : zCall} {K : zT} {h : zH} {l0 : Nat} {l1 : Int32} {l2 : Int32} {s0 : Nat} {s1 : Int32} (k : zK h s0 = 2 ∧ vp_in s1 (zL h s0) ∧ ((zI h s0 s1.toNatClampNeg) = 0 → ((0 : Int32) = 0 ∨ (0 : Int32) = 1) ∧ K (some (.inl (0 : Int32))) h) ∧ (¬ (zI h s0 s1.toNatClampNeg) = 0 → ((1 : Int32) = 0 ∨ (1 : Int32) = 1) ∧ K (some (.inl (1 : Int32))) h)) : zWp zm12 call K 0 0 24 [some (.inr l0), some (.inl l1), some (.inl l2)] [.inl s1, .inr s0] h := zGo [5, 12, 24] 400 k
theorem r13_0 {call : zCall} {K : zT} {h : zH} {l0 : Nat} {l1 : Int32} (k : ∃ Q : zT, call 21 [.inl l1] h Q ∧ ∀ v h1, Q v h1 → zWp zm13 call K 0 0 4 [some (.inr l0), some (.inl l1)] (v.toList ++ []) h1) : zWp zm13 call K 0 0 0 [some (.inr l0), some (.inl l1)] [] h := zGo [4] 400 k
theorem r13_4 {call : zCall} {K : zT} {h : zH} {l0 : Nat} {l1 : Int32} {s0 : Int32} (k : (s0 = 0 → K (some (.inl (-9 : Int32))) h) ∧ (¬ s0 = 0 → zK h l0 = 3 ∧ (zK h (zR h l0 3) = 1 ∨ zK h (zR h l0 3) = 101) ∧ vp_in l1 (zL h (zR h l0 3)) ∧ K (some (.inl (zI h (zR h l0 3) l1.toNatClampNeg))) h)) : zWp zm13 call K 0 0 4 [some (.inr l0), some (.inl l1)] [.inl s0] h := zGo [4] 400 k
theorem r14_0 {call : zCall} {K : zT} {h : zH} {l0 : Nat} {l1 : Int32} {l2 : Int32} (k : zK h l0 = 3 ∧ ∃ Q : zT, call 20 [.inr l0, .inl l1] h Q ∧ ∀ v h1, Q v h1 → zWp zm14 call K 0 0 5 [some (.inr l0), some (.inl l1), some (.inl l2)] (v.toList ++ []) h1) : zWp zm14 call K 0 0 0 [some (.inr l0), some (.inl l1), some (.inl l2)] [] h := zGo [5, 12, 24] 400 k
theorem r14_5 {call : zCall} {K : zT} {h : zH} {l0 : Nat} {l1 : Int32} {l2 : Int32} {s0 : Int32} (k : (s0 = 0 → K (some (.inl (-9 : Int32))) h) ∧ (¬ s0 = 0 → ∃ Q : zT, call 21 [.inl l2] h Q ∧ ∀ v h1, Q v h1 → zWp zm14 call K 0 0 12 [some (.inr l0), some (.inl l1), some (.inl l2)] (v.toList ++ []) h1)) : zWp zm14 call K 0 0 5 [some (.inr l0), some (.inl l1), some (.inl l2)] [.inl s0] h := zGo [5, 12, 24] 400 k
theorem r14_12 {call : zCall} {K : zT} {h : zH} {l0 : Nat} {l1 : Int32} {l2 : Int32} {s0 : Int32} (k : (s0 = 0 → K (some (.inl (-9 : Int32))) h) ∧ (¬ s0 = 0 → zK h l0 = 3 ∧ ∃ Q : zT, call 22 [.inl l1, .inl l2] h Q ∧ ∀ v h1, Q v h1 → zWp zm14 call K 0 0 24 [some (.inr l0), some (.inl l1), some (.inl l2)] (v.toList ++ [.inr (zR h l0 5)]) h1)) : zWp zm14 call K 0 0 12 [some (.inr l0), some (.inl l1), some (.inl l2)] [.inl s0] h := zGo [5, 12, 24] 400 k
theorem r14_24 {call : zCall} {K : zT} {h : zH} {l0 : Nat} {l1 : Int32} {l2 : Int32} {s0 : Nat} {s1 : Int32} (k : (zK h s0 = 1 ∨ zK h s0 = 101) ∧ vp_in s1 (zL h s0) ∧ K (some (.inl (zI h s0 s1.toNatClampNeg))) h) : zWp zm14 call K 0 0 24 [some (.inr l0), some (.inl l1), some (.inl l2)] [.inl s1, .inr s0] h := zGo [5, 12, 24] 400 k
theorem r15_0 {call : zCall} {K : zT} {h : zH} {l0 : Nat} {l1 : Int32} (k : zK h l0 = 3 ∧ ∃ Q : zT, call 19 [.inr l0, .inl l1] h Q ∧ ∀ v h1, Q v h1 → zWp zm15 call K 0 0 5 [some (.inr l0), some (.inl l1)] (v.toList ++ []) h1) : zWp zm15 call K 0 0 0 [some (.inr l0), some (.inl l1)] [] h := zGo [5] 400 k
theorem r15_5 {call : zCall} {K : zT} {h : zH} {l0 : Nat} {l1 : Int32} {s0 : Int32} (k : (s0 = 0 → K (some (.inl (-9 : Int32))) h) ∧ (¬ s0 = 0 → zK h l0 = 3 ∧ zK h (zR h l0 13) = 16 ∧ vp_in l1 (zL h (zR h l0 13)) ∧ zK h (zR h (zR h l0 13) l1.toNatClampNeg) = 15 ∧ K (some (.inl (zI h (zR h (zR h l0 13) l1.toNatClampNeg) 1))) h)) : zWp zm15 call K 0 0 5 [some (.inr l0), some (.inl l1)] [.inl s0] h := zGo [5] 400 k
theorem r16_0 {call : zCall} {K : zT} {h : zH} {l0 : Nat} {l1 : Int32} {l2 : Int32} (k : zK h l0 = 3 ∧ ∃ Q : zT, call 19 [.inr l0, .inl l1] h Q ∧ ∀ v h1, Q v h1 → zWp zm16 call K 0 0 5 [some (.inr l0), some (.inl l1), some (.inl l2)] (v.toList ++ []) h1) : zWp zm16 call K 0 0 0 [some (.inr l0), some (.inl l1), some (.inl l2)] [] h := zGo [5] 400 k
theorem r16_5 {call : zCall} {K : zT} {h : zH} {l0 : Nat} {l1 : Int32} {l2 : Int32} {s0 : Int32} (k : (s0 = 0 → K (some (.inl (-9 : Int32))) h) ∧ (¬ s0 = 0 → (l2 < 0 → K (some (.inl (-9 : Int32))) h) ∧ (¬ l2 < 0 → zK h l0 = 3 ∧ zK h (zR h l0 13) = 16 ∧ vp_in l1 (zL h (zR h l0 13)) ∧ zK h (zR h (zR h l0 13) l1.toNatClampNeg) = 15 ∧ (l2 < (zI h (zR h (zR h l0 13) l1.toNatClampNeg) 1) → zK h l0 = 3 ∧ zK h (zR h l0 13) = 16 ∧ vp_in l1 (zL h (zR h l0 13)) ∧ zK h (zR h (zR h l0 13) l1.toNatClampNeg) = 15 ∧ zK h (zR h (zR h (zR h l0 13) l1.toNatClampNeg) 0) = 14 ∧ vp_in l2 (zL h (zR h (zR h (zR h l0 13) l1.toNatClampNeg) 0)) ∧ zK h (zR h (zR h (zR h (zR h l0 13) l1.toNatClampNeg) 0) l2.toNatClampNeg) = 13 ∧ K (some (.inl (zI h (zR h (zR h (zR h (zR h l0 13) l1.toNatClampNeg) 0) l2.toNatClampNeg) 0))) h) ∧ (¬ l2 < (zI h (zR h (zR h l0 13) l1.toNatClampNeg) 1) → K (some (.inl (-9 : Int32))) h)))) : zWp zm16 call K 0 0 5 [some (.inr l0), some (.inl l1), some (.inl l2)] [.inl s0] h := zGo [5] 400 k
theorem r17_0 {call : zCall} {K : zT} {h : zH} {l0 : Nat} {l1 : Int32} (k : zK h l0 = 3 ∧ zK h (zR h l0 7) = 7 ∧ ∃ Q : zT, call 44 [.inr (zR h l0 7), .inl l1] h Q ∧ ∀ v h1, Q v h1 → zWp zm17 call K 0 0 8 [some (.inr l0), some (.inl l1)] (v.toList ++ []) h1) : zWp zm17 call K 0 0 0 [some (.inr l0), some (.inl l1)] [] h := zGo [8] 400 k
theorem r17_8 {call : zCall} {K : zT} {h : zH} {l0 : Nat} {l1 : Int32} {s0 : Int32} (k : K (some (.inl s0)) h) : zWp zm17 call K 0 0 8 [some (.inr l0), some (.inl l1)] [.inl s0] h := zGo [8] 400 k
theorem r18_0 {call : zCall} {K : zT} {h : zH} {l0 : Nat} {l1 : Int32} {o2 : Option zV} {o3 : Option zV} (k : ¬ (100 : Int32) = 0 ∧ ¬ (100 : Int32) = 0 ∧ zK h l0 = 3 ∧ ∃ Q : zT, call 20 [.inr l0, .inl (l1 / (100 : Int32))] h Q ∧ ∀ v h1, Q v h1 → zWp zm18 call K 0 0 15 [some (.inr l0), some (.inl l1), some (.inl (l1 / (100 : Int32))), some (.inl (l1 - l1 / (100 : Int32) * (100 : Int32)))] (v.toList ++ []) h1) : zWp zm18 call K 0 0 0 [some (.inr l0), some (.inl l1), o2, o3] [] h := zGo [15, 39] 400 k
theorem r18_15 {call : zCall} {K : zT} {h : zH} {l0 : Nat} {l1 : Int32} {l2 : Int32} {l3 : Int32} {s0 : Int32} (k : (s0 = 0 → K (some (.inl (-9 : Int32))) h) ∧ (¬ s0 = 0 → (l3 < 0 → K (some (.inl (-9 : Int32))) h) ∧ (¬ l3 < 0 → (l3 < (2 : Int32) → zK h l0 = 3 ∧ zK h (zR h l0 11) = 11 ∧ ∃ Q : zT, call 55 [.inr (zR h l0 11), .inl l2, .inl l3] h Q ∧ ∀ v h1, Q v h1 → zWp zm18 call K 0 0 39 [some (.inr l0), some (.inl l1), some (.inl l2), some (.inl l3)] (v.toList ++ []) h1) ∧ (¬ l3 < (2 : Int32) → K (some (.inl (-9 : Int32))) h)))) : zWp zm18 call K 0 0 15 [some (.inr l0), some (.inl l1), some (.inl l2), some (.inl l3)] [.inl s0] h := zGo [15, 39] 400 k
theorem r18_39 {call : zCall} {K : zT} {h : zH} {l0 : Nat} {l1 : Int32} {l2 : Int32} {l3 : Int32} {s0 : Int32} (k : K (some (.inl s0)) h) : zWp zm18 call K 0 0 39 [some (.inr l0), some (.inl l1), some (.inl l2), some (.inl l3)] [.inl s0] h := zGo [15, 39] 400 k
theorem r19_0 {call : zCall} {K : zT} {h : zH} {l0 : Nat} {l1 : Int32} (k : (l1 < 0 → ((0 : Int32) = 0 ∨ (0 : Int32) = 1) ∧ K (some (.inl (0 : Int32))) h) ∧ (¬ l1 < 0 → zK h l0 = 3 ∧ ((zI h l0 0) < l1 → ((0 : Int32) = 0 ∨ (0 : Int32) = 1) ∧ K (some (.inl (0 : Int32))) h) ∧ (¬ (zI h l0 0) < l1 → ((1 : Int32) = 0 ∨ (1 : Int32) = 1) ∧ K (some (.inl (1 : Int32))) h))) : zWp zm19 call K 0 0 0 [some (.inr l0), some (.inl l1)] [] h := zGo [] 400 k
theorem r20_0 {call : zCall} {K : zT} {h : zH} {l0 : Nat} {l1 : Int32} (k : (l1 ≤ 0 → ((0 : Int32) = 0 ∨ (0 : Int32) = 1) ∧ K (some (.inl (0 : Int32))) h) ∧ (¬ l1 ≤ 0 → zK h l0 = 3 ∧ ((zI h l0 0) < l1 → ((0 : Int32) = 0 ∨ (0 : Int32) = 1) ∧ K (some (.inl (0 : Int32))) h) ∧ (¬ (zI h l0 0) < l1 → ((1 : Int32) = 0 ∨ (1 : Int32) = 1) ∧ K (some (.inl (1 : Int32))) h))) : zWp zm20 call K 0 0 0 [some (.inr l0), some (.inl l1)] [] h := zGo [] 400 k
theorem r21_0 {call : zCall} {K : zT} {h : zH} {l0 : Int32} (k : (l0 < 0 → ((0 : Int32) = 0 ∨ (0 : Int32) = 1) ∧ K (some (.inl (0 : Int32))) h) ∧ (¬ l0 < 0 → ((4 : Int32) ≤ l0 → ((0 : Int32) = 0 ∨ (0 : Int32) = 1) ∧ K (some (.inl (0 : Int32))) h) ∧ (¬ (4 : Int32) ≤ l0 → ((1 : Int32) = 0 ∨ (1 : Int32) = 1) ∧ K (some (.inl (1 : Int32))) h))) : zWp zm21 call K 0 0 0 [some (.inl l0)] [] h := zGo [] 400 k
theorem r22_0 {call : zCall} {K : zT} {h : zH} {l0 : Int32} {l1 : Int32} (k : K (some (.inl (((4 : Int32) * l0) + l1))) h) : zWp zm22 call K 0 0 0 [some (.inl l0), some (.inl l1)] [] h := zGo [] 400 k
theorem r23_0 {call : zCall} {K : zT} {h : zH} {l0 : Nat} {l1 : Nat} (k : zK h l1 = 17 ∧ ((zI h l1 2).toInt = 11 → zK h l0 = 3 ∧ ∃ Q : zT, call 24 [.inr l0, .inr l1] h Q ∧ ∀ v h5, Q v h5 → zWp zm23 call K 0 0 53 [some (.inr l0), some (.inr l1)] (v.toList ++ []) h5) ∧ (¬ (zI h l1 2).toInt = 11 → ((zI h l1 2).toInt = 13 → zK h l0 = 3 ∧ ∃ Q : zT, call 29 [.inr l0, .inr l1] h Q ∧ ∀ v h4, Q v h4 → zWp zm23 call K 0 0 61 [some (.inr l0), some (.inr l1)] (v.toList ++ []) h4) ∧ (¬ (zI h l1 2).toInt = 13 → ((zI h l1 2).toInt = 14 → zK h l0 = 3 ∧ ∃ Q : zT, call 30 [.inr l0, .inr l1] h Q ∧ ∀ v h3, Q v h3 → zWp zm23 call K 0 0 69 [some (.inr l0), some (.inr l1)] (v.toList ++ []) h3) ∧ (¬ (zI h l1 2).toInt = 14 → ((zI h l1 2).toInt = 22 → zK h l0 = 3 ∧ ∃ Q : zT, call 28 [.inr l0, .inr l1] h Q ∧ ∀ v h2, Q v h2 → zWp zm23 call K 0 0 77 [some (.inr l0), some (.inr l1)] (v.toList ++ []) h2) ∧ (¬ (zI h l1 2).toInt = 22 → zK h l0 = 3 ∧ ∃ Q : zT, call 31 [.inr l0, .inr l1] h Q ∧ ∀ v h1, Q v h1 → zWp zm23 call K 0 0 85 [some (.inr l0), some (.inr l1)] (v.toList ++ []) h1))))) : zWp zm23 call K 0 0 0 [some (.inr l0), some (.inr l1)] [] h := zGo [53, 61, 69, 77, 85] 400 k
theorem r23_53 {call : zCall} {K : zT} {h : zH} {l0 : Nat} {l1 : Nat} (k : zWp zm23 call K 0 0 85 [some (.inr l0), some (.inr l1)] [] h) : zWp zm23 call K 0 0 53 [some (.inr l0), some (.inr l1)] [] h := zGo [53, 61, 69, 77, 85] 400 k
theorem r23_61 {call : zCall} {K : zT} {h : zH} {l0 : Nat} {l1 : Nat} (k : zWp zm23 call K 0 0 85 [some (.inr l0), some (.inr l1)] [] h) : zWp zm23 call K 0 0 61 [some (.inr l0), some (.inr l1)] [] h := zGo [53, 61, 69, 77, 85] 400 k
theorem r23_69 {call : zCall} {K : zT} {h : zH} {l0 : Nat} {l1 : Nat} (k : zWp zm23 call K 0 0 85 [some (.inr l0), some (.inr l1)] [] h) : zWp zm23 call K 0 0 69 [some (.inr l0), some (.inr l1)] [] h := zGo [53, 61, 69, 77, 85] 400 k
theorem r23_77 {call : zCall} {K : zT} {h : zH} {l0 : Nat} {l1 : Nat} (k : zWp zm23 call K 0 0 85 [some (.inr l0), some (.inr l1)] [] h) : zWp zm23 call K 0 0 77 [some (.inr l0), some (.inr l1)] [] h := zGo [53, 61, 69, 77, 85] 400 k
theorem r23_85 {call : zCall} {K : zT} {h : zH} {l0 : Nat} {l1 : Nat} (k : K none h) : zWp zm23 call K 0 0 85 [some (.inr l0), some (.inr l1)] [] h := zGo [53, 61, 69, 77, 85] 400 k
theorem r24_0 {call : zCall} {K : zT} {h : zH} {l0 : Nat} {l1 : Nat} {o2 : Option zV} {o3 : Option zV} {o4 : Option zV} (k : zK h l1 = 17 ∧ zK h l1 = 17 ∧ zK h l0 = 3 ∧ zK h l1 = 17 ∧ zK h (zR h l0 12) = 15 ∧ ∃ Q : zT, call 63 [.inr (zR h l0 12), .inl (zI h l1 0), .inl (zI h l1 4)] h Q ∧ ∀ v h1, Q v h1 → zWp zm24 call K 0 0 22 [some (.inr l0), some (.inr l1), some (.inl (zI h l1 0)), some (.inl (zI h l1 3)), o4] (v.toList ++ []) h1) : zWp zm24 call K 0 0 0 [some (.inr l0), some (.inr l1), o2, o3, o4] [] h := zGo [22, 34, 43, 51, 58, 79, 100] 400 k
theorem r24_22 {call : zCall} {K : zT} {h : zH} {l0 : Nat} {l1 : Nat} {l2 : Int32} {l3 : Int32} {o4 : Option zV} {s0 : Int32} (k : (s0 = (-1 : Int32) → zK h l0 = 3 ∧ zK h (zR h l0 12) = 15 ∧ ∃ Q : zT, call 59 [.inr (zR h l0 12)] h Q ∧ ∀ v h1, Q v h1 → zWp zm24 call K 0 0 34 [some (.inr l0), some (.inr l1), some (.inl l2), some (.inl l3), o4] (v.toList ++ []) h1) ∧ (¬ s0 = (-1 : Int32) → K none h)) : zWp zm24 call K 0 0 22 [some (.inr l0), some (.inr l1), some (.inl l2), some (.inl l3), o4] [.inl s0] h := zGo [22, 34, 43, 51, 58, 79, 100] 400 k
theorem r24_34 {call : zCall} {K : zT} {h : zH} {l0 : Nat} {l1 : Nat} {l2 : Int32} {l3 : Int32} {o4 : Option zV} {s0 : Int32} (k : (¬ s0 = 0 → zK h l0 = 3 ∧ ∃ Q : zT, call 33 [.inr l0, .inr l1] h Q ∧ ∀ v h1, Q v h1 → zWp zm24 call K 0 0 51 [some (.inr l0), some (.inr l1), some (.inl l2), some (.inl l3), o4] (v.toList ++ []) h1) ∧ (s0 = 0 → zK h l0 = 3 ∧ ∃ Q : zT, call 26 [.inr l0, .inl l3, .inl l2] h Q ∧ ∀ v h2, Q v h2 → zWp zm24 call K 0 0 43 [some (.inr l0), some (.inr l1), some (.inl l2), some (.inl l3), o4] (v.toList ++ []) h2)) : zWp zm24 call K 0 0 34 [some (.inr l0), some (.inr l1), some (.inl l2), some (.inl l3), o4] [.inl s0] h := zGo [22, 34, 43, 51, 58, 79, 100] 400 k
theorem r24_43 {call : zCall} {K : zT} {h : zH} {l0 : Nat} {l1 : Nat} {l2 : Int32} {l3 : Int32} {o4 : Option zV} {s0 : Int32} (k : (¬ s0 = 0 → zK h l0 = 3 ∧ ∃ Q : zT, call 27 [.inr l0, .inl l3, .inl l2] h Q ∧ ∀ v h1, Q v h1 → zWp zm24 call K 0 0 58 [some (.inr l0), some (.inr l1), some (.inl l2), some (.inl l3), o4] (v.toList ++ []) h1) ∧ (s0 = 0 → zK h l0 = 3 ∧ ∃ Q : zT, call 33 [.inr l0, .inr l1] h Q ∧ ∀ v h2, Q v h2 → zWp zm24 call K 0 0 51 [some (.inr l0), some (.inr l1), some (.inl l2), some (.inl l3), o4] (v.toList ++ []) h2)) : zWp zm24 call K 0 0 43 [some (.inr l0), some (.inr l1), some (.inl l2), some (.inl l3), o4] [.inl s0] h := zGo [22, 34, 43, 51, 58, 79, 100] 400 k
theorem r24_51 {call : zCall} {K : zT} {h : zH} {l0 : Nat} {l1 : Nat} {l2 : Int32} {l3 : Int32} {o4 : Option zV} (k : K none h) : zWp zm24 call K 0 0 51 [some (.inr l0), some (.inr l1), some (.inl l2), some (.inl l3), o4] [] h := zGo [22, 34, 43, 51, 58, 79, 100] 400 k
theorem r24_58 {call : zCall} {K : zT} {h : zH} {l0 : Nat} {l1 : Nat} {l2 : Int32} {l3 : Int32} {o4 : Option zV} (k : zK h l0 = 3 ∧ zK h l0 = 3 ∧ zK h l1 = 17 ∧ zK h (zR h l0 12) = 15 ∧ ∃ Q : zT, call 60 [.inr (zR h l0 12), .inl (2 : Int32), .inl l2, .inl l3, .inl ((zI h l0 1) + (6 : Int32)), .inl (zI h l1 4)] h Q ∧ ∀ v h1, Q v h1 → zWp zm24 call K 0 0 79 [some (.inr l0), some (.inr l1), some (.inl l2), some (.inl l3), o4] (v.toList ++ []) h1) : zWp zm24 call K 0 0 58 [some (.inr l0), some (.inr l1), some (.inl l2), some (.inl l3), o4] [] h := zGo [22, 34, 43, 51, 58, 79, 100] 400 k
theorem r24_79 {call : zCall} {K : zT} {h : zH} {l0 : Nat} {l1 : Nat} {l2 : Int32} {l3 : Int32} {o4 : Option zV} {s0 : Int32} (k : zK h l0 = 3 ∧ zK h l1 = 17 ∧ zK h (zR h l0 9) = 19 ∧ ∃ Q : zT, call 71 [.inr (zR h l0 9), .inl (0 : Int32), .inl l2, .inl (22 : Int32), .inl l3, .inl s0, .inl (zI h l1 4), .inl (0 : Int32)] h Q ∧ ∀ v h1, Q v h1 → zWp zm24 call K 0 0 100 [some (.inr l0), some (.inr l1), some (.inl l2), some (.inl l3), some (.inl s0)] (v.toList ++ []) h1) : zWp zm24 call K 0 0 79 [some (.inr l0), some (.inr l1), some (.inl l2), some (.inl l3), o4] [.inl s0] h := zGo [22, 34, 43, 51, 58, 79, 100] 400 k
theorem r24_100 {call : zCall} {K : zT} {h : zH} {l0 : Nat} {l1 : Nat} {l2 : Int32} {l3 : Int32} {l4 : Int32} (k : K none h) : zWp zm24 call K 0 0 100 [some (.inr l0), some (.inr l1), some (.inl l2), some (.inl l3), some (.inl l4)] [] h := zGo [22, 34, 43, 51, 58, 79, 100] 400 k
theorem r25_0 {call : zCall} {K : zT} {h : zH} {l0 : Nat} {l1 : Int32} {l2 : Int32} (k : zK h l0 = 3 ∧ (zK h (zR h l0 3) = 1 ∨ zK h (zR h l0 3) = 101) ∧ vp_in l1 (zL h (zR h l0 3)) ∧ ((zI h (zR h l0 3) l1.toNatClampNeg) = 0 → ((0 : Int32) = 0 ∨ (0 : Int32) = 1) ∧ K (some (.inl (0 : Int32))) h) ∧ (¬ (zI h (zR h l0 3) l1.toNatClampNeg) = 0 → zK h l0 = 3 ∧ (zK h (zR h l0 3) = 1 ∨ zK h (zR h l0 3) = 101) ∧ vp_in l1 (zL h (zR h l0 3)) ∧ ((zI h (zR h l0 3) l1.toNatClampNeg) = l2 → ((0 : Int32) = 0 ∨ (0 : Int32) = 1) ∧ K (some (.inl (0 : Int32))) h) ∧ (¬ (zI h (zR h l0 3) l1.toNatClampNeg) = l2 → ((1 : Int32) = 0 ∨ (1 : Int32) = 1) ∧ K (some (.inl (1 : Int32))) h))) : zWp zm25 call K 0 0 0 [some (.inr l0), some (.inl l1), some (.inl l2)] [] h := zGo [] 400 k
theorem r26_0 {call : zCall} {K : zT} {h : zH} {l0 : Nat} {l1 : Int32} {l2 : Int32} (k : zK h l0 = 3 ∧ ∃ Q : zT, call 25 [.inr l0, .inl l1, .inl l2] h Q ∧ ∀ v h1, Q v h1 → zWp zm26 call K 0 0 6 [some (.inr l0), some (.inl l1), some (.inl l2)] (v.toList ++ []) h1) : zWp zm26 call K 0 0 0 [some (.inr l0), some (.inl l1), some (.inl l2)] [] h := zGo [6, 23, 26, 36] 400 k
theorem r26_6 {call : zCall} {K : zT} {h : zH} {l0 : Nat} {l1 : Int32} {l2 : Int32} {s0 : Int32} (k : (s0 = 0 → ((1 : Int32) = 0 ∨ (1 : Int32) = 1) ∧ K (some (.inl (1 : Int32))) h) ∧ (¬ s0 = 0 → zK h l0 = 3 ∧ zK h l0 = 3 ∧ (zK h (zR h l0 3) = 1 ∨ zK h (zR h l0 3) = 101) ∧ vp_in l1 (zL h (zR h l0 3)) ∧ ∃ Q : zT, call 22 [.inl (zI h (zR h l0 3) l1.toNatClampNeg), .inl l1] h Q ∧ ∀ v h1, Q v h1 → zWp zm26 call K 0 0 23 [some (.inr l0), some (.inl l1), some (.inl l2)] (v.toList ++ [.inr (zR h l0 7)]) h1)) : zWp zm26 call K 0 0 6 [some (.inr l0), some (.inl l1), some (.inl l2)] [.inl s0] h := zGo [6, 23, 26, 36] 400 k
theorem r26_23 {call : zCall} {K : zT} {h : zH} {l0 : Nat} {l1 : Int32} {l2 : Int32} {s0 : Nat} {s1 : Int32} (k : zK h s0 = 7 ∧ ∃ Q : zT, call 43 [.inr s0, .inl s1] h Q ∧ ∀ v h1, Q v h1 → zWp zm26 call K 0 0 26 [some (.inr l0), some (.inl l1), some (.inl l2)] (v.toList ++ []) h1) : zWp zm26 call K 0 0 23 [some (.inr l0), some (.inl l1), some (.inl l2)] [.inl s1, .inr s0] h := zGo [6, 23, 26, 36] 400 k
theorem r26_26 {call : zCall} {K : zT} {h : zH} {l0 : Nat} {l1 : Int32} {l2 : Int32} {s0 : Int32} (k : (¬ s0 = 0 → ((1 : Int32) = 0 ∨ (1 : Int32) = 1) ∧ K (some (.inl (1 : Int32))) h) ∧ (s0 = 0 → zK h l0 = 3 ∧ zK h (zR h l0 7) = 7 ∧ ∃ Q : zT, call 42 [.inr (zR h l0 7)] h Q ∧ ∀ v h1, Q v h1 → zWp zm26 call K 0 0 36 [some (.inr l0), some (.inl l1), some (.inl l2)] (v.toList ++ []) h1)) : zWp zm26 call K 0 0 26 [some (.inr l0), some (.inl l1), some (.inl l2)] [.inl s0] h := zGo [6, 23, 26, 36] 400 k
theorem r26_36 {call : zCall} {K : zT} {h : zH} {l0 : Nat} {l1 : Int32} {l2 : Int32} {s0 : Int32} (k : (¬ s0 = 0 → ((0 : Int32) = 0 ∨ (0 : Int32) = 1) ∧ K (some (.inl (0 : Int32))) h) ∧ (s0 = 0 → ((1 : Int32) = 0 ∨ (1 : Int32) = 1) ∧ K (some (.inl (1 : Int32))) h)) : zWp zm26 call K 0 0 36 [some (.inr l0), some (.inl l1), some (.inl l2)] [.inl s0] h := zGo [6, 23, 26, 36] 400 k
theorem r27_0 {call : zCall} {K : zT} {h : zH} {l0 : Nat} {l1 : Int32} {l2 : Int32} (k : zK h l0 = 3 ∧ ∃ Q : zT, call 25 [.inr l0, .inl l1, .inl l2] h Q ∧ ∀ v h1, Q v h1 → zWp zm27 call K 0 0 6 [some (.inr l0), some (.inl l1), some (.inl l2)] (v.toList ++ []) h1) : zWp zm27 call K 0 0 0 [some (.inr l0), some (.inl l1), some (.inl l2)] [] h := zGo [6, 23, 26, 35, 38, 52, 55] 400 k
theorem r27_6 {call : zCall} {K : zT} {h : zH} {l0 : Nat} {l1 : Int32} {l2 : Int32} {s0 : Int32} (k : (s0 = 0 → zWp zm27 call K 0 0 26 [some (.inr l0), some (.inl l1), some (.inl l2)] [] h) ∧ (¬ s0 = 0 → zK h l0 = 3 ∧ zK h l0 = 3 ∧ (zK h (zR h l0 3) = 1 ∨ zK h (zR h l0 3) = 101) ∧ vp_in l1 (zL h (zR h l0 3)) ∧ ∃ Q : zT, call 22 [.inl (zI h (zR h l0 3) l1.toNatClampNeg), .inl l1] h Q ∧ ∀ v h1, Q v h1 → zWp zm27 call K 0 0 23 [some (.inr l0), some (.inl l1), some (.inl l2)] (v.toList ++ [.inr (zR h l0 7)]) h1)) : zWp zm27 call K 0 0 6 [some (.inr l0), some (.inl l1), some (.inl l2)] [.inl s0] h := zGo [6, 23, 26, 35, 38, 52, 55] 400 k
theorem r27_23 {call : zCall} {K : zT} {h : zH} {l0 : Nat} {l1 : Int32} {l2 : Int32} {s0 : Nat} {s1 : Int32} (k : zK h s0 = 7 ∧ ∃ Q : zT, call 45 [.inr s0, .inl s1] h Q ∧ ∀ v h1, Q v h1 → zWp zm27 call K 0 0 26 [some (.inr l0), some (.inl l1), some (.inl l2)] (v.toList ++ []) h1) : zWp zm27 call K 0 0 23 [some (.inr l0), some (.inl l1), some (.inl l2)] [.inl s1, .inr s0] h := zGo [6, 23, 26, 35, 38, 52, 55] 400 k
theorem r27_26 {call : zCall} {K : zT} {h : zH} {l0 : Nat} {l1 : Int32} {l2 : Int32} (k : zK h l0 = 3 ∧ ∃ Q : zT, call 22 [.inl l2, .inl l1] h Q ∧ ∀ v h1, Q v h1 → zWp zm27 call K 0 0 35 [some (.inr l0), some (.inl l1), some (.inl l2)] (v.toList ++ [.inr (zR h l0 7)]) h1) : zWp zm27 call K 0 0 26 [some (.inr l0), some (.inl l1), some (.inl l2)] [] h := zGo [6, 23, 26, 35, 38, 52, 55] 400 k
theorem r27_35 {call : zCall} {K : zT} {h : zH} {l0 : Nat} {l1 : Int32} {l2 : Int32} {s0 : Nat} {s1 : Int32} (k : zK h s0 = 7 ∧ ∃ Q : zT, call 46 [.inr s0, .inl s1] h Q ∧ ∀ v h1, Q v h1 → zWp zm27 call K 0 0 38 [some (.inr l0), some (.inl l1), some (.inl l2)] (v.toList ++ []) h1) : zWp zm27 call K 0 0 35 [some (.inr l0), some (.inl l1), some (.inl l2)] [.inl s1, .inr s0] h := zGo [6, 23, 26, 35, 38, 52, 55] 400 k
theorem r27_38 {call : zCall} {K : zT} {h : zH} {l0 : Nat} {l1 : Int32} {l2 : Int32} (k : zK h l0 = 3 ∧ zK h l0 = 3 ∧ zK h (zR h l0 12) = 15 ∧ ∃ Q : zT, call 62 [.inr (zR h l0 12), .inl (3 : Int32), .inl l2, .inl l1] h Q ∧ ∀ v h1, Q v h1 → zWp zm27 call K 0 0 52 [some (.inr l0), some (.inl l1), some (.inl l2)] (v.toList ++ [.inr (zR h l0 12)]) h1) : zWp zm27 call K 0 0 38 [some (.inr l0), some (.inl l1), some (.inl l2)] [] h := zGo [6, 23, 26, 35, 38, 52, 55] 400 k
theorem r27_52 {call : zCall} {K : zT} {h : zH} {l0 : Nat} {l1 : Int32} {l2 : Int32} {s0 : Nat} {s1 : Int32} (k : zK h s0 = 15 ∧ ∃ Q : zT, call 64 [.inr s0, .inl s1] h Q ∧ ∀ v h1, Q v h1 → zWp zm27 call K 0 0 55 [some (.inr l0), some (.inl l1), some (.inl l2)] (v.toList ++ []) h1) : zWp zm27 call K 0 0 52 [some (.inr l0), some (.inl l1), some (.inl l2)] [.inl s1, .inr s0] h := zGo [6, 23, 26, 35, 38, 52, 55] 400 k
theorem r27_55 {call : zCall} {K : zT} {h : zH} {l0 : Nat} {l1 : Int32} {l2 : Int32} (k : zK h l0 = 3 ∧ zK h (zR h l0 3) = 1 ∧ vp_in l1 (zL h (zR h l0 3)) ∧ ∀ h1, h1 = zwI h (zR h l0 3) l1.toNatClampNeg l2 → K none h1) : zWp zm27 call K 0 0 55 [some (.inr l0), some (.inl l1), some (.inl l2)] [] h := zGo [6, 23, 26, 35, 38, 52, 55] 400 k
theorem r28_0 {call : zCall} {K : zT} {h : zH} {l0 : Nat} {l1 : Nat} {o2 : Option zV} (k : zK h l0 = 3 ∧ zK h l1 = 17 ∧ zK h (zR h l0 13) = 16 ∧ vp_in (zI h l1 1) (zL h (zR h l0 13)) ∧ zK h l1 = 17 ∧ zK h (zR h (zR h l0 13) (zI h l1 1).toNatClampNeg) = 15 ∧ ∃ Q : zT, call 61 [.inr (zR h (zR h l0 13) (zI h l1 1).toNatClampNeg), .inl (zI h l1 5)] h Q ∧ ∀ v h1, Q v h1 → zWp zm28 call K 0 0 16 [some (.inr l0), some (.inr l1), o2] (v.toList ++ []) h1) : zWp zm28 call K 0 0 0 [some (.inr l0), some (.inr l1), o2] [] h := zGo [16, 27, 45, 72, 90, 143] 400 k
theorem r28_16 {call : zCall} {K : zT} {h : zH} {l0 : Nat} {l1 : Nat} {o2 : Option zV} {s0 : Int32} (k : (¬ s0 = (-1 : Int32) → zK h l1 = 17 ∧ (¬ (zI h l1 1) = 0 → zK h l0 = 3 ∧ zK h l1 = 17 ∧ zK h l1 = 17 ∧ ∃ Q : zT, call 22 [.inl (zI h l1 1), .inl (zI h l1 3)] h Q ∧ ∀ v h1, Q v h1 → zWp zm28 call K 0 0 90 [some (.inr l0), some (.inr l1), some (.inl s0)] (v.toList ++ [.inr (zR h l0 4)]) h1) ∧ ((zI h l1 1) = 0 → zK h l0 = 3 ∧ zK h (zR h l0 12) = 15 ∧ ∃ Q : zT, call 64 [.inr (zR h l0 12), .inl s0] h Q ∧ ∀ v h2, Q v h2 → zWp zm28 call K 0 0 45 [some (.inr l0), some (.inr l1), some (.inl s0)] (v.toList ++ []) h2)) ∧ (s0 = (-1 : Int32) → zK h l0 = 3 ∧ ∃ Q : zT, call 33 [.inr l0, .inr l1] h Q ∧ ∀ v h3, Q v h3 → zWp zm28 call K 0 0 27 [some (.inr l0), some (.inr l1), some (.inl s0)] (v.toList ++ []) h3)) : zWp zm28 call K 0 0 16 [some (.inr l0), some (.inr l1), o2] [.inl s0] h := zGo [16, 27, 45, 72, 90, 143] 400 k
theorem r28_27 {call : zCall} {K : zT} {h : zH} {l0 : Nat} {l1 : Nat} {l2 : Int32} (k : zWp zm28 call K 0 0 143 [some (.inr l0), some (.inr l1), some (.inl l2)] [] h) : zWp zm28 call K 0 0 27 [some (.inr l0), some (.inr l1), some (.inl l2)] [] h := zGo [16, 27, 45, 72, 90, 143] 400 k
theorem r28_45 {call : zCall} {K : zT} {h : zH} {l0 : Nat} {l1 : Nat} {l2 : Int32} (k : zK h l0 = 3 ∧ zK h l1 = 17 ∧ zK h l1 = 17 ∧ zK h l1 = 17 ∧ zK h l1 = 17 ∧ zK h (zR h l0 9) = 19 ∧ ∃ Q : zT, call 71 [.inr (zR h l0 9), .inl (0 : Int32), .inl (zI h l1 0), .inl (31 : Int32), .inl (zI h l1 3), .inl (zI h l1 5), .inl (zI h l1 4), .inl (0 : Int32)] h Q ∧ ∀ v h1, Q v h1 → zWp zm28 call K 0 0 72 [some (.inr l0), some (.inr l1), some (.inl l2)] (v.toList ++ []) h1) : zWp zm28 call K 0 0 45 [some (.inr l0), some (.inr l1), some (.inl l2)] [] h := zGo [16, 27, 45, 72, 90, 143] 400 k
theorem r28_72 {call : zCall} {K : zT} {h : zH} {l0 : Nat} {l1 : Nat} {l2 : Int32} (k : zWp zm28 call K 0 0 143 [some (.inr l0), some (.inr l1), some (.inl l2)] [] h) : zWp zm28 call K 0 0 72 [some (.inr l0), some (.inr l1), some (.inl l2)] [] h := zGo [16, 27, 45, 72, 90, 143] 400 k
theorem r28_90 {call : zCall} {K : zT} {h : zH} {l0 : Nat} {l1 : Nat} {l2 : Int32} {s0 : Nat} {s1 : Int32} (k : zK h s0 = 2 ∧ vp_in s1 (zL h s0) ∧ ∀ h1, h1 = zwI h s0 s1.toNatClampNeg (vp_nar .boolean (1 : Int32)) → zK h1 l0 = 3 ∧ zK h1 l1 = 17 ∧ zK h1 (zR h1 l0 13) = 16 ∧ vp_in (zI h1 l1 1) (zL h1 (zR h1 l0 13)) ∧ zK h1 (zR h1 (zR h1 l0 13) (zI h1 l1 1).toNatClampNeg) = 15 ∧ zK h1 (zR h1 (zR h1 (zR h1 l0 13) (zI h1 l1 1).toNatClampNeg) 0) = 14 ∧ vp_in l2 (zL h1 (zR h1 (zR h1 (zR h1 l0 13) (zI h1 l1 1).toNatClampNeg) 0)) ∧ zK h1 l0 = 3 ∧ zK h1 (zR h1 (zR h1 (zR h1 (zR h1 l0 13) (zI h1 l1 1).toNatClampNeg) 0) l2.toNatClampNeg) = 13 ∧ ∀ h2, h2 = zwI h1 (zR h1 (zR h1 (zR h1 (zR h1 l0 13) (zI h1 l1 1).toNatClampNeg) 0) l2.toNatClampNeg) 4 ((zI h1 l0 1) + (10 : Int32)) → zK h2 l0 = 3 ∧ zK h2 l1 = 17 ∧ zK h2 l1 = 17 ∧ zK h2 l1 = 17 ∧ zK h2 l1 = 17 ∧ zK h2 (zR h2 l0 9) = 19 ∧ ∃ Q : zT, call 71 [.inr (zR h2 l0 9), .inl (zI h2 l1 1), .inl (0 : Int32), .inl (22 : Int32), .inl (zI h2 l1 3), .inl (zI h2 l1 5), .inl (zI h2 l1 4), .inl (0 : Int32)] h2 Q ∧ ∀ v h3, Q v h3 → zWp zm28 call K 0 0 143 [some (.inr l0), some (.inr l1), some (.inl l2)] (v.toList ++ []) h3) : zWp zm28 call K 0 0 90 [some (.inr l0), some (.inr l1), some (.inl l2)] [.inl s1, .inr s0] h := zGo [16, 27, 45, 72, 90, 143] 400 k
theorem r28_143 {call : zCall} {K : zT} {h : zH} {l0 : Nat} {l1 : Nat} {l2 : Int32} (k : K none h) : zWp zm28 call K 0 0 143 [some (.inr l0), some (.inr l1), some (.inl l2)] [] h := zGo [16, 27, 45, 72, 90, 143] 400 k
theorem r29_0 {call : zCall} {K : zT} {h : zH} {l0 : Nat} {l1 : Nat} {o2 : Option zV} {o3 : Option zV} (k : zK h l1 = 17 ∧ zK h l0 = 3 ∧ zK h l1 = 17 ∧ ∃ Q : zT, call 22 [.inl (zI h l1 1), .inl (zI h l1 3)] h Q ∧ ∀ v h1, Q v h1 → zWp zm29 call K 0 0 17 [some (.inr l0), some (.inr l1), some (.inl (zI h l1 1)), o3] (v.toList ++ [.inr (zR h l0 4)]) h1) : zWp zm29 call K 0 0 0 [some (.inr l0), some (.inr l1), o2, o3] [] h := zGo [17, 34, 47, 68] 400 k
theorem r29_17 {call : zCall} {K : zT} {h : zH} {l0 : Nat} {l1 : Nat} {l2 : Int32} {o3 : Option zV} {s0 : Nat} {s1 : Int32} (k : zK h s0 = 2 ∧ vp_in s1 (zL h s0) ∧ ∀ h1, h1 = zwI h s0 s1.toNatClampNeg (vp_nar .boolean (0 : Int32)) → zK h1 l0 = 3 ∧ zK h1 (zR h1 l0 13) = 16 ∧ vp_in l2 (zL h1 (zR h1 l0 13)) ∧ zK h1 l1 = 17 ∧ zK h1 (zR h1 (zR h1 l0 13) l2.toNatClampNeg) = 15 ∧ ∃ Q : zT, call 62 [.inr (zR h1 (zR h1 l0 13) l2.toNatClampNeg), .inl (1 : Int32), .inl (0 : Int32), .inl (zI h1 l1 3)] h1 Q ∧ ∀ v h2, Q v h2 → zWp zm29 call K 0 0 34 [some (.inr l0), some (.inr l1), some (.inl l2), o3] (v.toList ++ []) h2) : zWp zm29 call K 0 0 17 [some (.inr l0), some (.inr l1), some (.inl l2), o3] [.inl s1, .inr s0] h := zGo [17, 34, 47, 68] 400 k
theorem r29_34 {call : zCall} {K : zT} {h : zH} {l0 : Nat} {l1 : Nat} {l2 : Int32} {o3 : Option zV} {s0 : Int32} (k : (s0 = (-1 : Int32) → zWp zm29 call K 0 0 47 [some (.inr l0), some (.inr l1), some (.inl l2), some (.inl s0)] [] h) ∧ (¬ s0 = (-1 : Int32) → zK h l0 = 3 ∧ ∃ Q : zT, call 32 [.inr l0, .inl l2, .inl s0, .inl (3 : Int32)] h Q ∧ ∀ v h1, Q v h1 → zWp zm29 call K 0 0 47 [some (.inr l0), some (.inr l1), some (.inl l2), some (.inl s0)] (v.toList ++ []) h1)) : zWp zm29 call K 0 0 34 [some (.inr l0), some (.inr l1), some (.inl l2), o3] [.inl s0] h := zGo [17, 34, 47, 68] 400 k
theorem r29_47 {call : zCall} {K : zT} {h : zH} {l0 : Nat} {l1 : Nat} {l2 : Int32} {l3 : Int32} (k : zK h l0 = 3 ∧ zK h l1 = 17 ∧ zK h l1 = 17 ∧ zK h (zR h l0 9) = 19 ∧ ∃ Q : zT, call 71 [.inr (zR h l0 9), .inl l2, .inl (0 : Int32), .inl (33 : Int32), .inl (zI h l1 3), .inl (0 : Int32), .inl (zI h l1 4), .inl (0 : Int32)] h Q ∧ ∀ v h1, Q v h1 → zWp zm29 call K 0 0 68 [some (.inr l0), some (.inr l1), some (.inl l2), some (.inl l3)] (v.toList ++ []) h1) : zWp zm29 call K 0 0 47 [some (.inr l0), some (.inr l1), some (.inl l2), some (.inl l3)] [] h := zGo [17, 34, 47, 68] 400 k
theorem r29_68 {call : zCall} {K : zT} {h : zH} {l0 : Nat} {l1 : Nat} {l2 : Int32} {l3 : Int32} (k : K none h) : zWp zm29 call K 0 0 68 [some (.inr l0), some (.inr l1), some (.inl l2), some (.inl l3)] [] h := zGo [17, 34, 47, 68] 400 k
theorem r30_0 {call : zCall} {K : zT} {h : zH} {l0 : Nat} {l1 : Nat} {o2 : Option zV} {o3 : Option zV} (k : zK h l1 = 17 ∧ zK h l0 = 3 ∧ zK h l1 = 17 ∧ ∃ Q : zT, call 22 [.inl (zI h l1 1), .inl (zI h l1 3)] h Q ∧ ∀ v h1, Q v h1 → zWp zm30 call K 0 0 19 [some (.inr l0), some (.inr l1), some (.inl (zI h l1 1)), some (.inl (-1 : Int32))] (v.toList ++ [.inr (zR h l0 4)]) h1) : zWp zm30 call K 0 0 0 [some (.inr l0), some (.inr l1), o2, o3] [] h := zGo [19, 42, 64] 400 k
theorem r30_19 {call : zCall} {K : zT} {h : zH} {l0 : Nat} {l1 : Nat} {l2 : Int32} {l3 : Int32} {s0 : Nat} {s1 : Int32} (k : zK h s0 = 2 ∧ vp_in s1 (zL h s0) ∧ ((zI h s0 s1.toNatClampNeg) = 0 → zK h l0 = 3 ∧ zK h l1 = 17 ∧ zK h l1 = 17 ∧ zK h (zR h l0 9) = 19 ∧ ∃ Q : zT, call 71 [.inr (zR h l0 9), .inl l2, .inl (0 : Int32), .inl (34 : Int32), .inl (zI h l1 3), .inl (0 : Int32), .inl (zI h l1 4), .inl l3] h Q ∧ ∀ v h1, Q v h1 → zWp zm30 call K 0 0 64 [some (.inr l0), some (.inr l1), some (.inl l2), some (.inl l3)] (v.toList ++ []) h1) ∧ (¬ (zI h s0 s1.toNatClampNeg) = 0 → zK h l0 = 3 ∧ zK h l1 = 17 ∧ zK h l0 = 3 ∧ zK h (zR h l0 11) = 11 ∧ ∃ Q : zT, call 54 [.inr (zR h l0 11), .inl l2, .inl (zI h l1 3), .inl ((zI h l0 1) + (8 : Int32))] h Q ∧ ∀ v h2, Q v h2 → zWp zm30 call K 0 0 42 [some (.inr l0), some (.inr l1), some (.inl l2), some (.inl l3)] (v.toList ++ []) h2)) : zWp zm30 call K 0 0 19 [some (.inr l0), some (.inr l1), some (.inl l2), some (.inl l3)] [.inl s1, .inr s0] h := zGo [19, 42, 64] 400 k
theorem r30_42 {call : zCall} {K : zT} {h : zH} {l0 : Nat} {l1 : Nat} {l2 : Int32} {l3 : Int32} {s0 : Int32} (k : zK h l0 = 3 ∧ zK h l1 = 17 ∧ zK h l1 = 17 ∧ zK h (zR h l0 9) = 19 ∧ ∃ Q : zT, call 71 [.inr (zR h l0 9), .inl l2, .inl (0 : Int32), .inl (34 : Int32), .inl (zI h l1 3), .inl (0 : Int32), .inl (zI h l1 4), .inl s0] h Q ∧ ∀ v h1, Q v h1 → zWp zm30 call K 0 0 64 [some (.inr l0), some (.inr l1), some (.inl l2), some (.inl s0)] (v.toList ++ []) h1) : zWp zm30 call K 0 0 42 [some (.inr l0), some (.inr l1), some (.inl l2), some (.inl l3)] [.inl s0] h := zGo [19, 42, 64] 400 k
theorem r30_64 {call : zCall} {K : zT} {h : zH} {l0 : Nat} {l1 : Nat} {l2 : Int32} {l3 : Int32} (k : K none h) : zWp zm30 call K 0 0 64 [some (.inr l0), some (.inr l1), some (.inl l2), some (.inl l3)] [] h := zGo [19, 42, 64] 400 k
theorem r31_0 {call : zCall} {K : zT} {h : zH} {l0 : Nat} {l1 : Nat} {o2 : Option zV} (k : zK h l0 = 3 ∧ zK h l1 = 17 ∧ zK h (zR h l0 13) = 16 ∧ vp_in (zI h l1 1) (zL h (zR h l0 13)) ∧ zK h l1 = 17 ∧ zK h (zR h (zR h l0 13) (zI h l1 1).toNatClampNeg) = 15 ∧ ∃ Q : zT, call 61 [.inr (zR h (zR h l0 13) (zI h l1 1).toNatClampNeg), .inl (zI h l1 5)] h Q ∧ ∀ v h1, Q v h1 → zWp zm31 call K 0 0 16 [some (.inr l0), some (.inr l1), o2] (v.toList ++ []) h1) : zWp zm31 call K 0 0 0 [some (.inr l0), some (.inr l1), o2] [] h := zGo [16, 53, 94, 97, 124, 132] 400 k
theorem r31_16 {call : zCall} {K : zT} {h : zH} {l0 : Nat} {l1 : Nat} {o2 : Option zV} {s0 : Int32} (k : (¬ s0 = (-1 : Int32) → zK h l1 = 17 ∧ ((zI h l1 1) = 0 → zK h l1 = 17 ∧ (¬ (zI h l1 2) = (33 : Int32) → zK h l1 = 17 ∧ (¬ (zI h l1 2) = (34 : Int32) → zWp zm31 call K 0 0 124 [some (.inr l0), some (.inr l1), some (.inl s0)] [] h) ∧ ((zI h l1 2) = (34 : Int32) → zK h l0 = 3 ∧ zK h l1 = 17 ∧ zK h l1 = 17 ∧ zK h (zR h l0 8) = 9 ∧ ∃ Q : zT, call 50 [.inr (zR h l0 8), .inl (zI h l1 5), .inl (zI h l1 6)] h Q ∧ ∀ v h1, Q v h1 → zWp zm31 call K 0 0 124 [some (.inr l0), some (.inr l1), some (.inl s0)] (v.toList ++ []) h1)) ∧ ((zI h l1 2) = (33 : Int32) → zK h l0 = 3 ∧ zK h l0 = 3 ∧ zK h (zR h l0 12) = 15 ∧ zK h (zR h (zR h l0 12) 0) = 14 ∧ vp_in s0 (zL h (zR h (zR h l0 12) 0)) ∧ zK h (zR h (zR h (zR h l0 12) 0) s0.toNatClampNeg) = 13 ∧ zK h l0 = 3 ∧ zK h (zR h l0 12) = 15 ∧ zK h (zR h (zR h l0 12) 0) = 14 ∧ vp_in s0 (zL h (zR h (zR h l0 12) 0)) ∧ zK h (zR h (zR h (zR h l0 12) 0) s0.toNatClampNeg) = 13 ∧ ∃ Q : zT, call 22 [.inl (zI h (zR h (zR h (zR h l0 12) 0) s0.toNatClampNeg) 2), .inl (zI h (zR h (zR h (zR h l0 12) 0) s0.toNatClampNeg) 3)] h Q ∧ ∀ v h2, Q v h2 → zWp zm31 call K 0 0 94 [some (.inr l0), some (.inr l1), some (.inl s0)] (v.toList ++ [.inr (zR h l0 7)]) h2)) ∧ (¬ (zI h l1 1) = 0 → zK h l1 = 17 ∧ zK h l1 = 17 ∧ (¬ (zI h l1 2) = (31 : Int32) → zK h l0 = 3 ∧ ∃ Q : zT, call 32 [.inr l0, .inl (zI h l1 1), .inl s0, .inl (3 : Int32)] h Q ∧ ∀ v h3, Q v h3 → zWp zm31 call K 0 0 53 [some (.inr l0), some (.inr l1), some (.inl s0)] (v.toList ++ []) h3) ∧ ((zI h l1 2) = (31 : Int32) → zK h l0 = 3 ∧ ∃ Q : zT, call 32 [.inr l0, .inl (zI h l1 1), .inl s0, .inl (2 : Int32)] h Q ∧ ∀ v h4, Q v h4 → zWp zm31 call K 0 0 53 [some (.inr l0), some (.inr l1), some (.inl s0)] (v.toList ++ []) h4))) ∧ (s0 = (-1 : Int32) → K none h)) : zWp zm31 call K 0 0 16 [some (.inr l0), some (.inr l1), o2] [.inl s0] h := zGo [16, 53, 94, 97, 124, 132] 400 k
theorem r31_53 {call : zCall} {K : zT} {h : zH} {l0 : Nat} {l1 : Nat} {l2 : Int32} (k : K none h) : zWp zm31 call K 0 0 53 [some (.inr l0), some (.inr l1), some (.inl l2)] [] h := zGo [16, 53, 94, 97, 124, 132] 400 k
theorem r31_94 {call : zCall} {K : zT} {h : zH} {l0 : Nat} {l1 : Nat} {l2 : Int32} {s0 : Nat} {s1 : Int32} (k : zK h s0 = 7 ∧ ∃ Q : zT, call 46 [.inr s0, .inl s1] h Q ∧ ∀ v h1, Q v h1 → zWp zm31 call K 0 0 97 [some (.inr l0), some (.inr l1), some (.inl l2)] (v.toList ++ []) h1) : zWp zm31 call K 0 0 94 [some (.inr l0), some (.inr l1), some (.inl l2)] [.inl s1, .inr s0] h := zGo [16, 53, 94, 97, 124, 132] 400 k
theorem r31_97 {call : zCall} {K : zT} {h : zH} {l0 : Nat} {l1 : Nat} {l2 : Int32} (k : zWp zm31 call K 0 0 124 [some (.inr l0), some (.inr l1), some (.inl l2)] [] h) : zWp zm31 call K 0 0 97 [some (.inr l0), some (.inr l1), some (.inl l2)] [] h := zGo [16, 53, 94, 97, 124, 132] 400 k
theorem r31_124 {call : zCall} {K : zT} {h : zH} {l0 : Nat} {l1 : Nat} {l2 : Int32} (k : zK h l0 = 3 ∧ zK h (zR h l0 12) = 15 ∧ ∃ Q : zT, call 64 [.inr (zR h l0 12), .inl l2] h Q ∧ ∀ v h1, Q v h1 → zWp zm31 call K 0 0 132 [some (.inr l0), some (.inr l1), some (.inl l2)] (v.toList ++ []) h1) : zWp zm31 call K 0 0 124 [some (.inr l0), some (.inr l1), some (.inl l2)] [] h := zGo [16, 53, 94, 97, 124, 132] 400 k
theorem r31_132 {call : zCall} {K : zT} {h : zH} {l0 : Nat} {l1 : Nat} {l2 : Int32} (k : K none h) : zWp zm31 call K 0 0 132 [some (.inr l0), some (.inr l1), some (.inl l2)] [] h := zGo [16, 53, 94, 97, 124, 132] 400 k
theorem r32_0 {call : zCall} {K : zT} {h : zH} {l0 : Nat} {l1 : Int32} {l2 : Int32} {l3 : Int32} (k : zK h l0 = 3 ∧ zK h l0 = 3 ∧ zK h (zR h l0 13) = 16 ∧ vp_in l1 (zL h (zR h l0 13)) ∧ zK h (zR h (zR h l0 13) l1.toNatClampNeg) = 15 ∧ zK h (zR h (zR h (zR h l0 13) l1.toNatClampNeg) 0) = 14 ∧ vp_in l2 (zL h (zR h (zR h (zR h l0 13) l1.toNatClampNeg) 0)) ∧ zK h (zR h (zR h (zR h (zR h l0 13) l1.toNatClampNeg) 0) l2.toNatClampNeg) = 13 ∧ ∃ Q : zT, call 22 [.inl l1, .inl (zI h (zR h (zR h (zR h (zR h l0 13) l1.toNatClampNeg) 0) l2.toNatClampNeg) 3)] h Q ∧ ∀ v h1, Q v h1 → zWp zm32 call K 0 0 22 [some (.inr l0), some (.inl l1), some (.inl l2), some (.inl l3)] (v.toList ++ [.inr (zR h l0 5)]) h1) : zWp zm32 call K 0 0 0 [some (.inr l0), some (.inl l1), some (.inl l2), some (.inl l3)] [] h := zGo [22, 34] 400 k
theorem r32_22 {call : zCall} {K : zT} {h : zH} {l0 : Nat} {l1 : Int32} {l2 : Int32} {l3 : Int32} {s0 : Nat} {s1 : Int32} (k : zK h s0 = 1 ∧ vp_in s1 (zL h s0) ∧ ∀ h1, h1 = zwI h s0 s1.toNatClampNeg l3 → zK h1 l0 = 3 ∧ zK h1 (zR h1 l0 13) = 16 ∧ vp_in l1 (zL h1 (zR h1 l0 13)) ∧ zK h1 (zR h1 (zR h1 l0 13) l1.toNatClampNeg) = 15 ∧ ∃ Q : zT, call 64 [.inr (zR h1 (zR h1 l0 13) l1.toNatClampNeg), .inl l2] h1 Q ∧ ∀ v h2, Q v h2 → zWp zm32 call K 0 0 34 [some (.inr l0), some (.inl l1), some (.inl l2), some (.inl l3)] (v.toList ++ []) h2) : zWp zm32 call K 0 0 22 [some (.inr l0), some (.inl l1), some (.inl l2), some (.inl l3)] [.inl s1, .inr s0] h := zGo [22, 34] 400 k
theorem r32_34 {call : zCall} {K : zT} {h : zH} {l0 : Nat} {l1 : Int32} {l2 : Int32} {l3 : Int32} (k : K none h) : zWp zm32 call K 0 0 34 [some (.inr l0), some (.inl l1), some (.inl l2), some (.inl l3)] [] h := zGo [22, 34] 400 k
theorem r33_0 {call : zCall} {K : zT} {h : zH} {l0 : Nat} {l1 : Nat} (k : zK h l0 = 3 ∧ zK h l1 = 17 ∧ zK h l1 = 17 ∧ zK h l1 = 17 ∧ zK h (zR h l0 9) = 19 ∧ ∃ Q : zT, call 71 [.inr (zR h l0 9), .inl (zI h l1 1), .inl (zI h l1 0), .inl (40 : Int32), .inl (0 : Int32), .inl (0 : Int32), .inl (zI h l1 4), .inl (0 : Int32)] h Q ∧ ∀ v h1, Q v h1 → zWp zm33 call K 0 0 24 [some (.inr l0), some (.inr l1)] (v.toList ++ []) h1) : zWp zm33 call K 0 0 0 [some (.inr l0), some (.inr l1)] [] h := zGo [24] 400 k
theorem r33_24 {call : zCall} {K : zT} {h : zH} {l0 : Nat} {l1 : Nat} (k : K none h) : zWp zm33 call K 0 0 24 [some (.inr l0), some (.inr l1)] [] h := zGo [24] 400 k
theorem r34_0 {call : zCall} {K : zT} {h : zH} {l0 : Nat} {l1 : Int32} {o2 : Option zV} {o3 : Option zV} {o4 : Option zV} (k : zK h l0 = 3 ∧ zK h (zR h l0 13) = 16 ∧ vp_in l1 (zL h (zR h l0 13)) ∧ zK h (zR h (zR h l0 13) l1.toNatClampNeg) = 15 ∧ zWp zm34 call K 0 0 15 [some (.inr l0), some (.inl l1), some (.inr (zR h (zR h l0 13) l1.toNatClampNeg)), some (.inl (0 : Int32)), some (.inl (zI h (zR h (zR h l0 13) l1.toNatClampNeg) 1))] [] h) : zWp zm34 call K 0 0 0 [some (.inr l0), some (.inl l1), o2, o3, o4] [] h := zGo [15, 42] 400 k
theorem r34_15 {call : zCall} {K : zT} {h : zH} {l0 : Nat} {l1 : Int32} {l2 : Nat} {l3 : Int32} {l4 : Int32} (k : (l4 ≤ 0 → K none h) ∧ (¬ l4 ≤ 0 → zK h l2 = 15 ∧ zK h (zR h l2 0) = 14 ∧ vp_in l3 (zL h (zR h l2 0)) ∧ zK h (zR h (zR h l2 0) l3.toNatClampNeg) = 13 ∧ zK h l0 = 3 ∧ (¬ (zI h (zR h (zR h l2 0) l3.toNatClampNeg) 4) = (zI h l0 1) → zWp zm34 call K 0 0 15 [some (.inr l0), some (.inl l1), some (.inr l2), some (.inl (l3 + (1 : Int32))), some (.inl (l4 + (-1 : Int32)))] [] h) ∧ ((zI h (zR h (zR h l2 0) l3.toNatClampNeg) 4) = (zI h l0 1) → zK h l0 = 3 ∧ ∃ Q : zT, call 35 [.inr l0, .inl l1, .inl l3] h Q ∧ ∀ v h1, Q v h1 → zWp zm34 call K 0 0 42 [some (.inr l0), some (.inl l1), some (.inr l2), some (.inl l3), some (.inl l4)] (v.toList ++ []) h1))) : zWp zm34 call K 0 0 15 [some (.inr l0), some (.inl l1), some (.inr l2), some (.inl l3), some (.inl l4)] [] h := zGo [15, 42] 400 k
theorem r34_42 {call : zCall} {K : zT} {h : zH} {l0 : Nat} {l1 : Int32} {l2 : Nat} {l3 : Int32} {l4 : Int32} (k : zWp zm34 call K 0 0 15 [some (.inr l0), some (.inl l1), some (.inr l2), some (.inl l3), some (.inl (l4 + (-1 : Int32)))] [] h) : zWp zm34 call K 0 0 42 [some (.inr l0), some (.inl l1), some (.inr l2), some (.inl l3), some (.inl l4)] [] h := zGo [15, 42] 400 k
theorem r35_0 {call : zCall} {K : zT} {h : zH} {l0 : Nat} {l1 : Int32} {l2 : Int32} {o3 : Option zV} (k : (l1 = 0 → zK h l0 = 3 ∧ zK h (zR h l0 12) = 15 ∧ zK h (zR h (zR h l0 12) 0) = 14 ∧ vp_in l2 (zL h (zR h (zR h l0 12) 0)) ∧ zK h (zR h (zR h (zR h l0 12) 0) l2.toNatClampNeg) = 13 ∧ (¬ (zI h (zR h (zR h (zR h l0 12) 0) l2.toNatClampNeg) 1) = (2 : Int32) → zK h (zR h (zR h (zR h l0 12) 0) l2.toNatClampNeg) = 13 ∧ (¬ (zI h (zR h (zR h (zR h l0 12) 0) l2.toNatClampNeg) 1) = (4 : Int32) → zWp zm35 call K 0 0 78 [some (.inr l0), some (.inl l1), some (.inl l2), some (.inr (zR h (zR h (zR h l0 12) 0) l2.toNatClampNeg))] [] h) ∧ ((zI h (zR h (zR h (zR h l0 12) 0) l2.toNatClampNeg) 1) = (4 : Int32) → zK h l0 = 3 ∧ zK h (zR h (zR h (zR h l0 12) 0) l2.toNatClampNeg) = 13 ∧ zK h (zR h l0 8) = 9 ∧ ∃ Q : zT, call 50 [.inr (zR h l0 8), .inl (zI h (zR h (zR h (zR h l0 12) 0) l2.toNatClampNeg) 0), .inl (-3 : Int32)] h Q ∧ ∀ v h1, Q v h1 → zWp zm35 call K 0 0 78 [some (.inr l0), some (.inl l1), some (.inl l2), some (.inr (zR h (zR h (zR h l0 12) 0) l2.toNatClampNeg))] (v.toList ++ []) h1)) ∧ ((zI h (zR h (zR h (zR h l0 12) 0) l2.toNatClampNeg) 1) = (2 : Int32) → zK h l0 = 3 ∧ zK h (zR h (zR h (zR h l0 12) 0) l2.toNatClampNeg) = 13 ∧ zK h (zR h (zR h (zR h l0 12) 0) l2.toNatClampNeg) = 13 ∧ zK h (zR h (zR h (zR h l0 12) 0) l2.toNatClampNeg) = 13 ∧ zK h (zR h l0 9) = 19 ∧ ∃ Q : zT, call 71 [.inr (zR h l0 9), .inl (0 : Int32), .inl (zI h (zR h (zR h (zR h l0 12) 0) l2.toNatClampNeg) 2), .inl (40 : Int32), .inl (0 : Int32), .inl (zI h (zR h (zR h (zR h l0 12) 0) l2.toNatClampNeg) 0), .inl (zI h (zR h (zR h (zR h l0 12) 0) l2.toNatClampNeg) 5), .inl (0 : Int32)] h Q ∧ ∀ v h2, Q v h2 → zWp zm35 call K 0 0 54 [some (.inr l0), some (.inl l1), some (.inl l2), some (.inr (zR h (zR h (zR h l0 12) 0) l2.toNatClampNeg))] (v.toList ++ []) h2)) ∧ (¬ l1 = 0 → zK h l0 = 3 ∧ ∃ Q : zT, call 32 [.inr l0, .inl l1, .inl l2, .inl (3 : Int32)] h Q ∧ ∀ v h3, Q v h3 → zWp zm35 call K 0 0 11 [some (.inr l0), some (.inl l1), some (.inl l2), o3] (v.toList ++ []) h3)) : zWp zm35 call K 0 0 0 [some (.inr l0), some (.inl l1), some (.inl l2), o3] [] h := zGo [11, 54, 78, 86] 400 k
theorem r35_11 {call : zCall} {K : zT} {h : zH} {l0 : Nat} {l1 : Int32} {l2 : Int32} {o3 : Option zV} (k : K none h) : zWp zm35 call K 0 0 11 [some (.inr l0), some (.inl l1), some (.inl l2), o3] [] h := zGo [11, 54, 78, 86] 400 k
theorem r35_54 {call : zCall} {K : zT} {h : zH} {l0 : Nat} {l1 : Int32} {l2 : Int32} {l3 : Nat} (k : zWp zm35 call K 0 0 78 [some (.inr l0), some (.inl l1), some (.inl l2), some (.inr l3)] [] h) : zWp zm35 call K 0 0 54 [some (.inr l0), some (.inl l1), some (.inl l2), some (.inr l3)] [] h := zGo [11, 54, 78, 86] 400 k
theorem r35_78 {call : zCall} {K : zT} {h : zH} {l0 : Nat} {l1 : Int32} {l2 : Int32} {l3 : Nat} (k : zK h l0 = 3 ∧ zK h (zR h l0 12) = 15 ∧ ∃ Q : zT, call 64 [.inr (zR h l0 12), .inl l2] h Q ∧ ∀ v h1, Q v h1 → zWp zm35 call K 0 0 86 [some (.inr l0), some (.inl l1), some (.inl l2), some (.inr l3)] (v.toList ++ []) h1) : zWp zm35 call K 0 0 78 [some (.inr l0), some (.inl l1), some (.inl l2), some (.inr l3)] [] h := zGo [11, 54, 78, 86] 400 k
theorem r35_86 {call : zCall} {K : zT} {h : zH} {l0 : Nat} {l1 : Int32} {l2 : Int32} {l3 : Nat} (k : K none h) : zWp zm35 call K 0 0 86 [some (.inr l0), some (.inl l1), some (.inl l2), some (.inr l3)] [] h := zGo [11, 54, 78, 86] 400 k
theorem r36_0 {call : zCall} {K : zT} {h : zH} {l0 : Nat} {l1 : Int32} {o2 : Option zV} {o3 : Option zV} {o4 : Option zV} (k : ¬ (4 : Int32) = 0 ∧ ¬ (4 : Int32) = 0 ∧ zK h l0 = 3 ∧ zK h (zR h l0 12) = 15 ∧ ∃ Q : zT, call 59 [.inr (zR h l0 12)] h Q ∧ ∀ v h1, Q v h1 → zWp zm36 call K 0 0 15 [some (.inr l0), some (.inl l1), some (.inl (l1 / (4 : Int32))), some (.inl (l1 - l1 / (4 : Int32) * (4 : Int32))), o4] (v.toList ++ []) h1) : zWp zm36 call K 0 0 0 [some (.inr l0), some (.inl l1), o2, o3, o4] [] h := zGo [15, 28, 50, 68] 400 k
theorem r36_15 {call : zCall} {K : zT} {h : zH} {l0 : Nat} {l1 : Int32} {l2 : Int32} {l3 : Int32} {o4 : Option zV} {s0 : Int32} (k : (¬ s0 = 0 → K none h) ∧ (s0 = 0 → zK h l0 = 3 ∧ zK h (zR h l0 12) = 15 ∧ ∃ Q : zT, call 62 [.inr (zR h l0 12), .inl (3 : Int32), .inl l2, .inl l3] h Q ∧ ∀ v h1, Q v h1 → zWp zm36 call K 0 0 28 [some (.inr l0), some (.inl l1), some (.inl l2), some (.inl l3), o4] (v.toList ++ []) h1)) : zWp zm36 call K 0 0 15 [some (.inr l0), some (.inl l1), some (.inl l2), some (.inl l3), o4] [.inl s0] h := zGo [15, 28, 50, 68] 400 k
theorem r36_28 {call : zCall} {K : zT} {h : zH} {l0 : Nat} {l1 : Int32} {l2 : Int32} {l3 : Int32} {o4 : Option zV} {s0 : Int32} (k : (s0 = (-1 : Int32) → zK h l0 = 3 ∧ zK h l0 = 3 ∧ zK h (zR h l0 12) = 15 ∧ ∃ Q : zT, call 60 [.inr (zR h l0 12), .inl (3 : Int32), .inl l2, .inl l3, .inl ((zI h l0 1) + (4 : Int32)), .inl (0 : Int32)] h Q ∧ ∀ v h1, Q v h1 → zWp zm36 call K 0 0 50 [some (.inr l0), some (.inl l1), some (.inl l2), some (.inl l3), o4] (v.toList ++ []) h1) ∧ (¬ s0 = (-1 : Int32) → K none h)) : zWp zm36 call K 0 0 28 [some (.inr l0), some (.inl l1), some (.inl l2), some (.inl l3), o4] [.inl s0] h := zGo [15, 28, 50, 68] 400 k
theorem r36_50 {call : zCall} {K : zT} {h : zH} {l0 : Nat} {l1 : Int32} {l2 : Int32} {l3 : Int32} {o4 : Option zV} {s0 : Int32} (k : zK h l0 = 3 ∧ zK h (zR h l0 9) = 19 ∧ ∃ Q : zT, call 71 [.inr (zR h l0 9), .inl (0 : Int32), .inl l2, .inl (13 : Int32), .inl l3, .inl s0, .inl (0 : Int32), .inl (0 : Int32)] h Q ∧ ∀ v h1, Q v h1 → zWp zm36 call K 0 0 68 [some (.inr l0), some (.inl l1), some (.inl l2), some (.inl l3), some (.inl s0)] (v.toList ++ []) h1) : zWp zm36 call K 0 0 50 [some (.inr l0), some (.inl l1), some (.inl l2), some (.inl l3), o4] [.inl s0] h := zGo [15, 28, 50, 68] 400 k
theorem r36_68 {call : zCall} {K : zT} {h : zH} {l0 : Nat} {l1 : Int32} {l2 : Int32} {l3 : Int32} {l4 : Int32} (k : K none h) : zWp zm36 call K 0 0 68 [some (.inr l0), some (.inl l1), some (.inl l2), some (.inl l3), some (.inl l4)] [] h := zGo [15, 28, 50, 68] 400 k
end
section
/-! ===== the state, as mathematics: clock, digits, location, held, standing, owners, untils, titles, cancellations, queries, in flight, dialogues of each node, latest numbers ===== -/
abbrev sS : Type := Int32 × (Nat → Int32) × (Nat → Int32) × (Nat → Int32) × (Nat → Int32) × (Nat → Int32) × (Nat → Int32) × (List (Nat → Int32)) × List Int32 × List (Int32 × Int32) × (List (Nat → Int32)) × (Nat → List (Nat → Int32)) × (Nat → Int32)
def sClk (S : sS) : Int32 := S.1
def sDg (S : sS) : Nat → Int32 := S.2.1
def sLo (S : sS) : Nat → Int32 := S.2.2.1
def sHe (S : sS) : Nat → Int32 := S.2.2.2.1
def sSt (S : sS) : Nat → Int32 := S.2.2.2.2.1
def sO (S : sS) : Nat → Int32 := S.2.2.2.2.2.1
def sU (S : sS) : Nat → Int32 := S.2.2.2.2.2.2.1
def sT (S : sS) : List (Nat → Int32) := S.2.2.2.2.2.2.2.1
def sC (S : sS) : List Int32 := S.2.2.2.2.2.2.2.2.1
def sQ (S : sS) : List (Int32 × Int32) := S.2.2.2.2.2.2.2.2.2.1
def sF (S : sS) : List (Nat → Int32) := S.2.2.2.2.2.2.2.2.2.2.1
def sD (S : sS) : Nat → List (Nat → Int32) := S.2.2.2.2.2.2.2.2.2.2.2.1
def sL (S : sS) : Nat → Int32 := S.2.2.2.2.2.2.2.2.2.2.2.2
def stClk (S : sS) (x : Int32) : sS := (x, S.2.1, S.2.2.1, S.2.2.2.1, S.2.2.2.2.1, S.2.2.2.2.2.1, S.2.2.2.2.2.2.1, S.2.2.2.2.2.2.2.1, S.2.2.2.2.2.2.2.2.1, S.2.2.2.2.2.2.2.2.2.1, S.2.2.2.2.2.2.2.2.2.2.1, S.2.2.2.2.2.2.2.2.2.2.2.1, S.2.2.2.2.2.2.2.2.2.2.2.2)
def stDg (S : sS) (x : Nat → Int32) : sS := (S.1, x, S.2.2.1, S.2.2.2.1, S.2.2.2.2.1, S.2.2.2.2.2.1, S.2.2.2.2.2.2.1, S.2.2.2.2.2.2.2.1, S.2.2.2.2.2.2.2.2.1, S.2.2.2.2.2.2.2.2.2.1, S.2.2.2.2.2.2.2.2.2.2.1, S.2.2.2.2.2.2.2.2.2.2.2.1, S.2.2.2.2.2.2.2.2.2.2.2.2)
def stLo (S : sS) (x : Nat → Int32) : sS := (S.1, S.2.1, x, S.2.2.2.1, S.2.2.2.2.1, S.2.2.2.2.2.1, S.2.2.2.2.2.2.1, S.2.2.2.2.2.2.2.1, S.2.2.2.2.2.2.2.2.1, S.2.2.2.2.2.2.2.2.2.1, S.2.2.2.2.2.2.2.2.2.2.1, S.2.2.2.2.2.2.2.2.2.2.2.1, S.2.2.2.2.2.2.2.2.2.2.2.2)
def stHe (S : sS) (x : Nat → Int32) : sS := (S.1, S.2.1, S.2.2.1, x, S.2.2.2.2.1, S.2.2.2.2.2.1, S.2.2.2.2.2.2.1, S.2.2.2.2.2.2.2.1, S.2.2.2.2.2.2.2.2.1, S.2.2.2.2.2.2.2.2.2.1, S.2.2.2.2.2.2.2.2.2.2.1, S.2.2.2.2.2.2.2.2.2.2.2.1, S.2.2.2.2.2.2.2.2.2.2.2.2)
def stSt (S : sS) (x : Nat → Int32) : sS := (S.1, S.2.1, S.2.2.1, S.2.2.2.1, x, S.2.2.2.2.2.1, S.2.2.2.2.2.2.1, S.2.2.2.2.2.2.2.1, S.2.2.2.2.2.2.2.2.1, S.2.2.2.2.2.2.2.2.2.1, S.2.2.2.2.2.2.2.2.2.2.1, S.2.2.2.2.2.2.2.2.2.2.2.1, S.2.2.2.2.2.2.2.2.2.2.2.2)
def stO (S : sS) (x : Nat → Int32) : sS := (S.1, S.2.1, S.2.2.1, S.2.2.2.1, S.2.2.2.2.1, x, S.2.2.2.2.2.2.1, S.2.2.2.2.2.2.2.1, S.2.2.2.2.2.2.2.2.1, S.2.2.2.2.2.2.2.2.2.1, S.2.2.2.2.2.2.2.2.2.2.1, S.2.2.2.2.2.2.2.2.2.2.2.1, S.2.2.2.2.2.2.2.2.2.2.2.2)
def stU (S : sS) (x : Nat → Int32) : sS := (S.1, S.2.1, S.2.2.1, S.2.2.2.1, S.2.2.2.2.1, S.2.2.2.2.2.1, x, S.2.2.2.2.2.2.2.1, S.2.2.2.2.2.2.2.2.1, S.2.2.2.2.2.2.2.2.2.1, S.2.2.2.2.2.2.2.2.2.2.1, S.2.2.2.2.2.2.2.2.2.2.2.1, S.2.2.2.2.2.2.2.2.2.2.2.2)
def stT (S : sS) (x : List (Nat → Int32)) : sS := (S.1, S.2.1, S.2.2.1, S.2.2.2.1, S.2.2.2.2.1, S.2.2.2.2.2.1, S.2.2.2.2.2.2.1, x, S.2.2.2.2.2.2.2.2.1, S.2.2.2.2.2.2.2.2.2.1, S.2.2.2.2.2.2.2.2.2.2.1, S.2.2.2.2.2.2.2.2.2.2.2.1, S.2.2.2.2.2.2.2.2.2.2.2.2)
def stC (S : sS) (x : List Int32) : sS := (S.1, S.2.1, S.2.2.1, S.2.2.2.1, S.2.2.2.2.1, S.2.2.2.2.2.1, S.2.2.2.2.2.2.1, S.2.2.2.2.2.2.2.1, x, S.2.2.2.2.2.2.2.2.2.1, S.2.2.2.2.2.2.2.2.2.2.1, S.2.2.2.2.2.2.2.2.2.2.2.1, S.2.2.2.2.2.2.2.2.2.2.2.2)
def stQ (S : sS) (x : List (Int32 × Int32)) : sS := (S.1, S.2.1, S.2.2.1, S.2.2.2.1, S.2.2.2.2.1, S.2.2.2.2.2.1, S.2.2.2.2.2.2.1, S.2.2.2.2.2.2.2.1, S.2.2.2.2.2.2.2.2.1, x, S.2.2.2.2.2.2.2.2.2.2.1, S.2.2.2.2.2.2.2.2.2.2.2.1, S.2.2.2.2.2.2.2.2.2.2.2.2)
def stF (S : sS) (x : List (Nat → Int32)) : sS := (S.1, S.2.1, S.2.2.1, S.2.2.2.1, S.2.2.2.2.1, S.2.2.2.2.2.1, S.2.2.2.2.2.2.1, S.2.2.2.2.2.2.2.1, S.2.2.2.2.2.2.2.2.1, S.2.2.2.2.2.2.2.2.2.1, x, S.2.2.2.2.2.2.2.2.2.2.2.1, S.2.2.2.2.2.2.2.2.2.2.2.2)
def stD (S : sS) (x : Nat → List (Nat → Int32)) : sS := (S.1, S.2.1, S.2.2.1, S.2.2.2.1, S.2.2.2.2.1, S.2.2.2.2.2.1, S.2.2.2.2.2.2.1, S.2.2.2.2.2.2.2.1, S.2.2.2.2.2.2.2.2.1, S.2.2.2.2.2.2.2.2.2.1, S.2.2.2.2.2.2.2.2.2.2.1, x, S.2.2.2.2.2.2.2.2.2.2.2.2)
def stL (S : sS) (x : Nat → Int32) : sS := (S.1, S.2.1, S.2.2.1, S.2.2.2.1, S.2.2.2.2.1, S.2.2.2.2.2.1, S.2.2.2.2.2.2.1, S.2.2.2.2.2.2.2.1, S.2.2.2.2.2.2.2.2.1, S.2.2.2.2.2.2.2.2.2.1, S.2.2.2.2.2.2.2.2.2.2.1, S.2.2.2.2.2.2.2.2.2.2.2.1, x)
def updD (f : Nat → List (Nat → Int32)) (k : Nat) (x : List (Nat → Int32)) : Nat → List (Nat → Int32) := fun j => if j = k then x else f j
/-- which of the first m numbers an int is -/
def ix (m : Nat) (x : Int32) : Option Nat := if 0 ≤ x ∧ x.toNatClampNeg < m then some x.toNatClampNeg else none
theorem ix_some {m : Nat} {x : Int32} {n : Nat} (h : ix m x = some n) : n < m ∧ x = nI n := by
  unfold ix at h
  split at h
  · rename_i q
    cases h
    obtain ⟨j, hj, rfl⟩ := nI_of (by rw [Int32.not_lt]; exact q.1)
    rw [nI_clamp hj] at q ⊢
    exact ⟨q.2, rfl⟩
  · cases h
theorem ix_nI {m n : Nat} (hm : m ≤ 2 ^ 31) (h : n < m) : ix m (nI n) = some n := by
  unfold ix
  rw [nI_clamp (by omega), if_pos ⟨nI_pos' (by omega), h⟩]
theorem ix_none {m : Nat} {x : Int32} (hm : m ≤ 2 ^ 31) (h : ix m x = none) {n : Nat} (hn : n < m) : x ≠ nI n := fun e => by
  rw [e, ix_nI hm hn] at h; cases h
theorem ix_neg {m : Nat} {x : Int32} (h : x < 0) : ix m x = none := by
  unfold ix; rw [if_neg (fun q => absurd q.1 (by rw [Int32.not_le]; exact h))]
theorem ix_ge {m n : Nat} (h : m ≤ n) (hn : n < 2 ^ 31) : ix m (nI n) = none := by
  unfold ix; rw [nI_clamp hn, if_neg (fun q => absurd q.2 (by omega))]
/-- which visited node an int is -/
def iv (w : Nat) (x : Int32) : Option Nat := match ix (w + 1) x with
  | some 0 => none
  | o => o
theorem iv_some {w : Nat} {x : Int32} {n : Nat} (h : iv w x = some n) : 1 ≤ n ∧ n ≤ w ∧ x = nI n := by
  unfold iv at h
  split at h
  · cases h
  · rename_i h0
    obtain ⟨h1, h2⟩ := ix_some h
    refine ⟨Nat.pos_of_ne_zero (fun e => ?_), by omega, h2⟩
    subst e
    exact h0 h
theorem iv_nI {w n : Nat} (hw : w ≤ 4) (h1 : 1 ≤ n) (h : n ≤ w) : iv w (nI n) = some n := by
  unfold iv
  rw [ix_nI (by omega) (by omega)]
  cases n with
  | zero => omega
  | succ n => rfl
theorem iv_neg {w : Nat} {x : Int32} (h : x < 0) : iv w x = none := by unfold iv; rw [ix_neg h]
theorem iv_0 {w : Nat} (hw : w ≤ 4) : iv w (nI 0) = none := by
  unfold iv; rw [ix_nI (by omega) (Nat.succ_pos w)]; rfl
theorem iv_ge {w n : Nat} (h : w < n) (hn : n < 2 ^ 31) : iv w (nI n) = none := by unfold iv; rw [ix_ge h hn]
/-- the cells of a node's dialogues, and their room -/
def nA (v : Nat) : Nat := if v = 0 then 47 else 50 + 4 * v
def nC (v : Nat) : Nat := if v = 0 then 4 else 2
theorem nA_pos {v : Nat} (h : 1 ≤ v) : nA v = 50 + 4 * v := by unfold nA; rw [if_neg (by omega)]
theorem nC_pos {v : Nat} (h : 1 ≤ v) : nC v = 2 := by unfold nC; rw [if_neg (by omega)]
theorem nC_le (v : Nat) : nC v ≤ 24 := by unfold nC; split <;> decide
theorem nA_in (v : Nat) : 47 ≤ nA v ∧ (v = 0 → nA v + 2 + nC v = 53) ∧ (1 ≤ v → 54 ≤ nA v) := by
  unfold nA nC; split <;> omega
theorem nA_apart {v u b : Nat} (h : v ≠ u) (h1 : nA v ≤ b) (h2 : b < nA v + 2 + nC v) : ¬ (nA u ≤ b ∧ b < nA u + 2 + nC u) := by
  unfold nA nC at *
  split at h1 <;> split <;> (try split at h2) <;> omega
theorem nA_not {v b : Nat} (h : b < 47 ∨ b = 53) : ¬ (nA v ≤ b ∧ b < nA v + 2 + nC v) := by
  unfold nA nC
  split <;> omega
/-- what never changes of the object: where its parts lie -/
def gX (h : zH) (w : Nat) : Prop := zK h 3 = 3 ∧ zI h 3 0 = nI w ∧ (zR h 3 2 = 4 ∧ zR h 3 3 = 5 ∧ zR h 3 4 = 42 ∧ zR h 3 5 = 43 ∧ zR h 3 6 = 6 ∧ zR h 3 7 = 10 ∧ zR h 3 8 = 12 ∧ zR h 3 9 = 15 ∧ zR h 3 10 = 41 ∧ zR h 3 11 = 44 ∧ zR h 3 12 = 47 ∧ zR h 3 13 = 53) ∧
  (zK h 4 = 1 ∧ zL h 4 = 4 ∧ zK h 5 = 1 ∧ zL h 5 = 4 ∧ zK h 42 = 2 ∧ zL h 42 = 4 * (w + 1) ∧ zK h 43 = 1 ∧ zL h 43 = 4 * (w + 1) ∧ zK h 41 = 17 ∧ zK h 53 = 16 ∧ zL h 53 = w + 1) ∧ ∀ v, v ≤ w → zR h 53 v = nA v
/-- the heap holds the state -/
def XS (h : zH) (w : Nat) (S : sS) : Prop := gX h w ∧ gT h ∧ gC h ∧ gQ h ∧ gN h w ∧ gP h ∧ gW h 15 19 18 17 24 ∧ (∀ v, v ≤ w → gW h (nA v) 15 14 13 (nC v)) ∧
  zI h 3 1 = sClk S ∧ (∀ s, s < 4 → zI h 4 s = sDg S s) ∧ (∀ s, s < 4 → zI h 5 s = sLo S s) ∧ (∀ k, k < 4 * (w + 1) → zI h 42 k = sHe S k) ∧ (∀ k, k < 4 * (w + 1) → zI h 43 k = sSt S k) ∧
  xN h w (sO S) (sU S) ∧ xT h (sT S) ∧ xC h (sC S) ∧ xQ h (sQ S) ∧ xW h 15 24 7 (sF S) ∧ ∀ v, v ≤ w → xW h (nA v) (nC v) 6 (sD S v) ∧ zI h (nA v) 2 = sL S v
theorem gX_same {A : Nat → Prop} {h h' : zH} {w : Nat} (s : zSame A h h') (h1 : zI h' 3 0 = zI h 3 0) (h2 : ∀ j, zR h' 3 j = zR h 3 j) (h3 : ∀ j, zR h' 53 j = zR h 53 j) (g : gX h w) : gX h' w := by
  obtain ⟨g1, g2, ⟨a1, a2, a3, a4, a5, a6, a7, a8, a9, a10, a11, a12⟩, ⟨b1, b2, b3, b4, b5, b6, b7, b8, b9, b10, b11⟩, g5⟩ := g
  refine ⟨(s.1 _).trans g1, h1.trans g2, ?_, ?_, fun v hv => (h3 v).trans (g5 v hv)⟩
  · simp only [h2]; exact ⟨a1, a2, a3, a4, a5, a6, a7, a8, a9, a10, a11, a12⟩
  · simp only [s.1, s.2.1]; exact ⟨b1, b2, b3, b4, b5, b6, b7, b8, b9, b10, b11⟩
theorem gP_same {A : Nat → Prop} {h h' : zH} (s : zSame A h h') (h1 : ¬ A 2) (g : gP h) : gP h' :=
  ⟨(s.1 _).trans g.1, (s.2.1 _).trans g.2.1, fun j hj => (s.2.2.2 2 h1 j).1.trans (g.2.2 j hj)⟩
end
section
/-! ===== a part of the heap moves: the state does ===== -/
theorem XS.F {h h' : zH} {w : Nat} {S : sS} {F : List (Nat → Int32)} (hw : w ≤ 4) (X : XS h w S) (s : zSame (fun q => 15 ≤ q ∧ q < 41) h h') (g : gW h' 15 19 18 17 24) (x : xW h' 15 24 7 F) : XS h' w (stF S F) := by
  obtain ⟨x1, x2, x3, x4, x5, x6, x7, x8, x9, x10, x11, x12, x13, x14, x15, x16, x17, x18, x19⟩ := X
  have n (b : Nat) (hb : b < 15 ∨ 41 ≤ b) : ¬ (15 ≤ b ∧ b < 41) := by omega
  refine ⟨gX_same s (s.2.2.2 3 (by omega) 0).1 (fun j => (s.2.2.2 3 (by omega) j).2) (fun j => (s.2.2.2 53 (by omega) j).2) x1, gT_same s (by omega) x2, gC_same s (by omega) x3, gQ_same s (by omega) x4, gN_same s (by omega) x5, gP_same s (by omega) x6, g,
    fun v hv => gW_same s (by have := (nA_in v).1; omega) (by have := (nA_in v).1; omega) (x8 v hv), (s.2.2.2 3 (by omega) 1).1.trans x9, fun k hk => (s.2.2.2 4 (by omega) k).1.trans (x10 k hk), fun k hk => (s.2.2.2 5 (by omega) k).1.trans (x11 k hk), fun k hk => (s.2.2.2 42 (by omega) k).1.trans (x12 k hk), fun k hk => (s.2.2.2 43 (by omega) k).1.trans (x13 k hk),
    xN_same s (by omega) (by omega) x14, xT_same s (by omega) (by omega) (by omega) (by omega) x15, xC_same s (by omega) (by omega) x16, xQ_same s (by omega) (by omega) (by omega) x17, x, fun v hv => ⟨xW_same s (fun b h1 h2 => by have := (nA_in v).1; omega) (x8 v hv) (x19 v hv).1, (s.2.2.2 (nA v) (by have := (nA_in v).1; omega) 2).1.trans (x19 v hv).2⟩⟩
theorem XS.D {h h' : zH} {w v : Nat} {S : sS} {F : List (Nat → Int32)} {n : Int32} (hw : w ≤ 4) (hv : v ≤ w) (X : XS h w S) (s : zSame (fun q => nA v ≤ q ∧ q < nA v + 2 + nC v) h h') (g : gW h' (nA v) 15 14 13 (nC v)) (x : xW h' (nA v) (nC v) 6 F) (hn : zI h' (nA v) 2 = n) : XS h' w (stL (stD S (updD (sD S) v F)) (upd (sL S) v n)) := by
  obtain ⟨x1, x2, x3, x4, x5, x6, x7, x8, x9, x10, x11, x12, x13, x14, x15, x16, x17, x18, x19⟩ := X
  have n1 := (nA_in v).1
  have nl (b : Nat) (hb : b < 47) : ¬ (fun q => nA v ≤ q ∧ q < nA v + 2 + nC v) b := fun q => nA_not (v := v) (Or.inl hb) q
  have n53 : ¬ (fun q => nA v ≤ q ∧ q < nA v + 2 + nC v) 53 := fun q => nA_not (v := v) (Or.inr rfl) q
  refine ⟨gX_same s (s.2.2.2 3 (nl 3 (by decide)) 0).1 (fun j => (s.2.2.2 3 (nl 3 (by decide)) j).2) (fun j => (s.2.2.2 53 n53 j).2) x1, gT_same s (nl _ (by decide)) x2, gC_same s (nl _ (by decide)) x3, gQ_same s (nl _ (by decide)) x4, gN_same s (nl _ (by decide)) x5, gP_same s (nl _ (by decide)) x6, gW_same s (nl _ (by decide)) (nl _ (by decide)) x7,
    fun u hu => ?_, (s.2.2.2 3 (nl _ (by decide)) 1).1.trans x9, fun k hk => (s.2.2.2 4 (nl _ (by decide)) k).1.trans (x10 k hk), fun k hk => (s.2.2.2 5 (nl _ (by decide)) k).1.trans (x11 k hk), fun k hk => (s.2.2.2 42 (nl _ (by decide)) k).1.trans (x12 k hk), fun k hk => (s.2.2.2 43 (nl _ (by decide)) k).1.trans (x13 k hk),
    xN_same s (nl _ (by decide)) (nl _ (by decide)) x14, xT_same s (nl _ (by decide)) (nl _ (by decide)) (nl _ (by decide)) (nl _ (by decide)) x15, xC_same s (nl _ (by decide)) (nl _ (by decide)) x16, xQ_same s (nl _ (by decide)) (nl _ (by decide)) (nl _ (by decide)) x17, xW_same s (fun b h1 h2 => nl b (by omega)) x7 x18, fun u hu => ?_⟩
  · by_cases e : u = v
    · subst e; exact g
    · exact gW_same s (fun q => nA_apart e (Nat.le_refl _) (by omega) q) (fun q => nA_apart e (by omega) (by omega) q) (x8 u hu)
  · by_cases e : u = v
    · subst e
      refine ⟨?_, ?_⟩
      · show xW h' (nA u) (nC u) 6 (updD (sD S) u F u)
        unfold updD; rw [if_pos rfl]; exact x
      · show zI h' (nA u) 2 = upd (sL S) u n u
        unfold upd; rw [if_pos rfl]; exact hn
    · refine ⟨?_, ?_⟩
      · show xW h' (nA u) (nC u) 6 (updD (sD S) v F u)
        unfold updD; rw [if_neg e]; exact xW_same s (fun b h1 h2 q => nA_apart e h1 h2 q) (x8 u hu) (x19 u hu).1
      · show zI h' (nA u) 2 = upd (sL S) v n u
        unfold upd; rw [if_neg e]; exact (s.2.2.2 (nA u) (fun q => nA_apart e (Nat.le_refl _) (by omega) q) 2).1.trans (x19 u hu).2
theorem XS.C {h h' : zH} {w : Nat} {S : sS} {C : List Int32} (hw : w ≤ 4) (X : XS h w S) (s : zSame (fun q => q = 10 ∨ q = 11) h h') (g : gC h') (x : xC h' C) : XS h' w (stC S C) := by
  obtain ⟨x1, x2, x3, x4, x5, x6, x7, x8, x9, x10, x11, x12, x13, x14, x15, x16, x17, x18, x19⟩ := X
  exact ⟨gX_same s (s.2.2.2 3 (by omega) 0).1 (fun j => (s.2.2.2 3 (by omega) j).2) (fun j => (s.2.2.2 53 (by omega) j).2) x1, gT_same s (by omega) x2, g, gQ_same s (by omega) x4, gN_same s (by omega) x5, gP_same s (by omega) x6, gW_same s (by omega) (by omega) x7,
    fun v hv => gW_same s (by have := (nA_in v).1; omega) (by have := (nA_in v).1; omega) (x8 v hv), (s.2.2.2 3 (by omega) 1).1.trans x9, fun k hk => (s.2.2.2 4 (by omega) k).1.trans (x10 k hk), fun k hk => (s.2.2.2 5 (by omega) k).1.trans (x11 k hk), fun k hk => (s.2.2.2 42 (by omega) k).1.trans (x12 k hk), fun k hk => (s.2.2.2 43 (by omega) k).1.trans (x13 k hk),
    xN_same s (by omega) (by omega) x14, xT_same s (by omega) (by omega) (by omega) (by omega) x15, x, xQ_same s (by omega) (by omega) (by omega) x17, xW_same s (fun b h1 h2 => by omega) x7 x18, fun v hv => ⟨xW_same s (fun b h1 h2 => by have := (nA_in v).1; omega) (x8 v hv) (x19 v hv).1, (s.2.2.2 (nA v) (by have := (nA_in v).1; omega) 2).1.trans (x19 v hv).2⟩⟩
theorem XS.T {h h' : zH} {w : Nat} {S : sS} {T : List (Nat → Int32)} (hw : w ≤ 4) (X : XS h w S) (s : zSame (fun q => 6 ≤ q ∧ q < 10) h h') (g : gT h') (x : xT h' T) : XS h' w (stT S T) := by
  obtain ⟨x1, x2, x3, x4, x5, x6, x7, x8, x9, x10, x11, x12, x13, x14, x15, x16, x17, x18, x19⟩ := X
  exact ⟨gX_same s (s.2.2.2 3 (by omega) 0).1 (fun j => (s.2.2.2 3 (by omega) j).2) (fun j => (s.2.2.2 53 (by omega) j).2) x1, g, gC_same s (by omega) x3, gQ_same s (by omega) x4, gN_same s (by omega) x5, gP_same s (by omega) x6, gW_same s (by omega) (by omega) x7,
    fun v hv => gW_same s (by have := (nA_in v).1; omega) (by have := (nA_in v).1; omega) (x8 v hv), (s.2.2.2 3 (by omega) 1).1.trans x9, fun k hk => (s.2.2.2 4 (by omega) k).1.trans (x10 k hk), fun k hk => (s.2.2.2 5 (by omega) k).1.trans (x11 k hk), fun k hk => (s.2.2.2 42 (by omega) k).1.trans (x12 k hk), fun k hk => (s.2.2.2 43 (by omega) k).1.trans (x13 k hk),
    xN_same s (by omega) (by omega) x14, x, xC_same s (by omega) (by omega) x16, xQ_same s (by omega) (by omega) (by omega) x17, xW_same s (fun b h1 h2 => by omega) x7 x18, fun v hv => ⟨xW_same s (fun b h1 h2 => by have := (nA_in v).1; omega) (x8 v hv) (x19 v hv).1, (s.2.2.2 (nA v) (by have := (nA_in v).1; omega) 2).1.trans (x19 v hv).2⟩⟩
theorem XS.Q {h h' : zH} {w : Nat} {S : sS} {Q : List (Int32 × Int32)} (hw : w ≤ 4) (X : XS h w S) (s : zSame (fun q => 12 ≤ q ∧ q < 15) h h') (hR : ∀ a j, zR h' a j = zR h a j) (x : xQ h' Q) : XS h' w (stQ S Q) := by
  obtain ⟨x1, x2, x3, x4, x5, x6, x7, x8, x9, x10, x11, x12, x13, x14, x15, x16, x17, x18, x19⟩ := X
  have g : gQ h' := ⟨(s.1 _).trans x4.1, (hR _ _).trans x4.2.1, (hR _ _).trans x4.2.2.1, (s.1 _).trans x4.2.2.2.1, (s.1 _).trans x4.2.2.2.2.1, (s.2.1 _).trans x4.2.2.2.2.2.1, (s.2.1 _).trans x4.2.2.2.2.2.2⟩
  exact ⟨gX_same s (s.2.2.2 3 (by omega) 0).1 (fun j => (s.2.2.2 3 (by omega) j).2) (fun j => (s.2.2.2 53 (by omega) j).2) x1, gT_same s (by omega) x2, gC_same s (by omega) x3, g, gN_same s (by omega) x5, gP_same s (by omega) x6, gW_same s (by omega) (by omega) x7,
    fun v hv => gW_same s (by have := (nA_in v).1; omega) (by have := (nA_in v).1; omega) (x8 v hv), (s.2.2.2 3 (by omega) 1).1.trans x9, fun k hk => (s.2.2.2 4 (by omega) k).1.trans (x10 k hk), fun k hk => (s.2.2.2 5 (by omega) k).1.trans (x11 k hk), fun k hk => (s.2.2.2 42 (by omega) k).1.trans (x12 k hk), fun k hk => (s.2.2.2 43 (by omega) k).1.trans (x13 k hk),
    xN_same s (by omega) (by omega) x14, xT_same s (by omega) (by omega) (by omega) (by omega) x15, xC_same s (by omega) (by omega) x16, x, xW_same s (fun b h1 h2 => by omega) x7 x18, fun v hv => ⟨xW_same s (fun b h1 h2 => by have := (nA_in v).1; omega) (x8 v hv) (x19 v hv).1, (s.2.2.2 (nA v) (by have := (nA_in v).1; omega) 2).1.trans (x19 v hv).2⟩⟩
theorem XS.N {h h' : zH} {w : Nat} {S : sS} {O U : Nat → Int32} (hw : w ≤ 4) (X : XS h w S) (s : zSame (fun q => q = 45 ∨ q = 46) h h') (x : xN h' w O U) : XS h' w (stU (stO S O) U) := by
  obtain ⟨x1, x2, x3, x4, x5, x6, x7, x8, x9, x10, x11, x12, x13, x14, x15, x16, x17, x18, x19⟩ := X
  exact ⟨gX_same s (s.2.2.2 3 (by omega) 0).1 (fun j => (s.2.2.2 3 (by omega) j).2) (fun j => (s.2.2.2 53 (by omega) j).2) x1, gT_same s (by omega) x2, gC_same s (by omega) x3, gQ_same s (by omega) x4, gN_same s (by omega) x5, gP_same s (by omega) x6, gW_same s (by omega) (by omega) x7,
    fun v hv => gW_same s (by have := nA_in v; omega) (by have := nA_in v; omega) (x8 v hv), (s.2.2.2 3 (by omega) 1).1.trans x9, fun k hk => (s.2.2.2 4 (by omega) k).1.trans (x10 k hk), fun k hk => (s.2.2.2 5 (by omega) k).1.trans (x11 k hk), fun k hk => (s.2.2.2 42 (by omega) k).1.trans (x12 k hk), fun k hk => (s.2.2.2 43 (by omega) k).1.trans (x13 k hk),
    x, xT_same s (by omega) (by omega) (by omega) (by omega) x15, xC_same s (by omega) (by omega) x16, xQ_same s (by omega) (by omega) (by omega) x17, xW_same s (fun b h1 h2 => by omega) x7 x18, fun v hv => ⟨xW_same s (fun b h1 h2 => by have := (nA_in v).1; omega) (x8 v hv) (x19 v hv).1, (s.2.2.2 (nA v) (by have := (nA_in v).1; omega) 2).1.trans (x19 v hv).2⟩⟩
/-- one int of the object's own cells is written -/
theorem XS.wI {h : zH} {w a k : Nat} {x : Int32} {S S' : sS} (hw : w ≤ 4) (X : XS h w S) (ha : a = 3 ∧ k = 1 ∨ a = 4 ∨ a = 5 ∨ a = 41 ∨ a = 42 ∨ a = 43) (e1 : zI (zwI h a k x) 3 1 = sClk S') (e2 : ∀ s, s < 4 → zI (zwI h a k x) 4 s = sDg S' s) (e3 : ∀ s, s < 4 → zI (zwI h a k x) 5 s = sLo S' s) (e4 : ∀ j, j < 4 * (w + 1) → zI (zwI h a k x) 42 j = sHe S' j) (e5 : ∀ j, j < 4 * (w + 1) → zI (zwI h a k x) 43 j = sSt S' j)
    (r1 : sO S' = sO S) (r2 : sU S' = sU S) (r3 : sT S' = sT S) (r4 : sC S' = sC S) (r5 : sQ S' = sQ S) (r6 : sF S' = sF S) (r7 : sD S' = sD S) (r8 : sL S' = sL S) : XS (zwI h a k x) w S' := by
  obtain ⟨x1, x2, x3, x4, x5, x6, x7, x8, x9, x10, x11, x12, x13, x14, x15, x16, x17, x18, x19⟩ := X
  have s : zSame (fun q => q = a) h (zwI h a k x) := zSame.wI rfl
  rw [← r1, ← r2] at x14
  rw [← r3] at x15
  rw [← r4] at x16
  rw [← r5] at x17
  rw [← r6] at x18
  rw [← r7, ← r8] at x19
  have h0 : zI (zwI h a k x) 3 0 = zI h 3 0 := by
    rw [zI_wI, if_neg (by omega)]
  exact ⟨gX_same s h0 (fun j => rfl) (fun j => rfl) x1, gT_same s (by omega) x2, gC_same s (by omega) x3, gQ_same s (by omega) x4, gN_same s (by omega) x5, gP_same s (by omega) x6, gW_same s (by omega) (by omega) x7,
    fun v hv => gW_same s (by have := (nA_in v).1; omega) (by have := (nA_in v).1; omega) (x8 v hv), e1, e2, e3, e4, e5,
    xN_same s (by omega) (by omega) x14, xT_same s (by omega) (by omega) (by omega) (by omega) x15, xC_same s (by omega) (by omega) x16, xQ_same s (by omega) (by omega) (by omega) x17, xW_same s (fun b h1 h2 => by omega) x7 x18, fun v hv => ⟨xW_same s (fun b h1 h2 => by have := (nA_in v).1; omega) (x8 v hv) (x19 v hv).1, (s.2.2.2 (nA v) (by have := (nA_in v).1; omega) 2).1.trans (x19 v hv).2⟩⟩
theorem XS.He {h : zH} {w k : Nat} {x : Int32} {S : sS} (hw : w ≤ 4) (X : XS h w S) : XS (zwI h 42 k x) w (stHe S (upd (sHe S) k x)) := by
  have X0 := X
  obtain ⟨x1, x2, x3, x4, x5, x6, x7, x8, x9, x10, x11, x12, x13, x14, x15, x16, x17, x18, x19⟩ := X
  refine XS.wI hw X0 (by omega) (by rw [zI_oa (by decide)]; exact x9) (fun s hs => by rw [zI_oa (by decide)]; exact x10 s hs) (fun s hs => by rw [zI_oa (by decide)]; exact x11 s hs) (fun j hj => ?_) (fun j hj => by rw [zI_oa (by decide)]; exact x13 j hj) rfl rfl rfl rfl rfl rfl rfl rfl
  show _ = upd (sHe S) k x j
  unfold upd
  by_cases e : j = k
  · rw [if_pos e, e, zI_at]
  · rw [if_neg e, zI_ok e]; exact x12 j hj
theorem XS.St {h : zH} {w k : Nat} {x : Int32} {S : sS} (hw : w ≤ 4) (X : XS h w S) : XS (zwI h 43 k x) w (stSt S (upd (sSt S) k x)) := by
  have X0 := X
  obtain ⟨x1, x2, x3, x4, x5, x6, x7, x8, x9, x10, x11, x12, x13, x14, x15, x16, x17, x18, x19⟩ := X
  refine XS.wI hw X0 (by omega) (by rw [zI_oa (by decide)]; exact x9) (fun s hs => by rw [zI_oa (by decide)]; exact x10 s hs) (fun s hs => by rw [zI_oa (by decide)]; exact x11 s hs) (fun j hj => by rw [zI_oa (by decide)]; exact x12 j hj) (fun j hj => ?_) rfl rfl rfl rfl rfl rfl rfl rfl
  show _ = upd (sSt S) k x j
  unfold upd
  by_cases e : j = k
  · rw [if_pos e, e, zI_at]
  · rw [if_neg e, zI_ok e]; exact x13 j hj
theorem XS.Dg {h : zH} {w k : Nat} {x : Int32} {S : sS} (hw : w ≤ 4) (X : XS h w S) : XS (zwI h 4 k x) w (stDg S (upd (sDg S) k x)) := by
  have X0 := X
  obtain ⟨x1, x2, x3, x4, x5, x6, x7, x8, x9, x10, x11, x12, x13, x14, x15, x16, x17, x18, x19⟩ := X
  refine XS.wI hw X0 (by omega) (by rw [zI_oa (by decide)]; exact x9) (fun j hj => ?_) (fun s hs => by rw [zI_oa (by decide)]; exact x11 s hs) (fun j hj => by rw [zI_oa (by decide)]; exact x12 j hj) (fun j hj => by rw [zI_oa (by decide)]; exact x13 j hj) rfl rfl rfl rfl rfl rfl rfl rfl
  show _ = upd (sDg S) k x j
  unfold upd
  by_cases e : j = k
  · rw [if_pos e, e, zI_at]
  · rw [if_neg e, zI_ok e]; exact x10 j hj
theorem XS.Lo {h : zH} {w k : Nat} {x : Int32} {S : sS} (hw : w ≤ 4) (X : XS h w S) : XS (zwI h 5 k x) w (stLo S (upd (sLo S) k x)) := by
  have X0 := X
  obtain ⟨x1, x2, x3, x4, x5, x6, x7, x8, x9, x10, x11, x12, x13, x14, x15, x16, x17, x18, x19⟩ := X
  refine XS.wI hw X0 (by omega) (by rw [zI_oa (by decide)]; exact x9) (fun s hs => by rw [zI_oa (by decide)]; exact x10 s hs) (fun j hj => ?_) (fun j hj => by rw [zI_oa (by decide)]; exact x12 j hj) (fun j hj => by rw [zI_oa (by decide)]; exact x13 j hj) rfl rfl rfl rfl rfl rfl rfl rfl
  show _ = upd (sLo S) k x j
  unfold upd
  by_cases e : j = k
  · rw [if_pos e, e, zI_at]
  · rw [if_neg e, zI_ok e]; exact x11 j hj
theorem XS.Clk {h : zH} {w : Nat} {x : Int32} {S : sS} (hw : w ≤ 4) (X : XS h w S) : XS (zwI h 3 1 x) w (stClk S x) := by
  have X0 := X
  obtain ⟨x1, x2, x3, x4, x5, x6, x7, x8, x9, x10, x11, x12, x13, x14, x15, x16, x17, x18, x19⟩ := X
  exact XS.wI hw X0 (by omega) (by rw [zI_at]; rfl) (fun s hs => by rw [zI_oa (by decide)]; exact x10 s hs) (fun j hj => by rw [zI_oa (by decide)]; exact x11 j hj) (fun j hj => by rw [zI_oa (by decide)]; exact x12 j hj) (fun j hj => by rw [zI_oa (by decide)]; exact x13 j hj) rfl rfl rfl rfl rfl rfl rfl rfl
/-- the arrived datagram's cell is nobody's part of the state -/
theorem XS.arr {h h' : zH} {w : Nat} {S : sS} (hw : w ≤ 4) (X : XS h w S) (s : zSame (fun q => q = 41) h h') : XS h' w S := by
  obtain ⟨x1, x2, x3, x4, x5, x6, x7, x8, x9, x10, x11, x12, x13, x14, x15, x16, x17, x18, x19⟩ := X
  exact ⟨gX_same s (s.2.2.2 3 (by omega) 0).1 (fun j => (s.2.2.2 3 (by omega) j).2) (fun j => (s.2.2.2 53 (by omega) j).2) x1, gT_same s (by omega) x2, gC_same s (by omega) x3, gQ_same s (by omega) x4, gN_same s (by omega) x5, gP_same s (by omega) x6, gW_same s (by omega) (by omega) x7,
    fun v hv => gW_same s (by have := (nA_in v).1; omega) (by have := (nA_in v).1; omega) (x8 v hv), (s.2.2.2 3 (by omega) 1).1.trans x9, fun k hk => (s.2.2.2 4 (by omega) k).1.trans (x10 k hk), fun k hk => (s.2.2.2 5 (by omega) k).1.trans (x11 k hk), fun k hk => (s.2.2.2 42 (by omega) k).1.trans (x12 k hk), fun k hk => (s.2.2.2 43 (by omega) k).1.trans (x13 k hk),
    xN_same s (by omega) (by omega) x14, xT_same s (by omega) (by omega) (by omega) (by omega) x15, xC_same s (by omega) (by omega) x16, xQ_same s (by omega) (by omega) (by omega) x17, xW_same s (fun b h1 h2 => by omega) x7 x18, fun v hv => ⟨xW_same s (fun b h1 h2 => by have := (nA_in v).1; omega) (x8 v hv) (x19 v hv).1, (s.2.2.2 (nA v) (by have := (nA_in v).1; omega) 2).1.trans (x19 v hv).2⟩⟩
end
section
/-! ===== what the calls do to the state, in small steps ===== -/
def xA (w : Nat) : Nat → Prop := fun q => 3 ≤ q ∧ q ≠ 41 ∧ q < 54 + 4 * w
def oSend (S : sS) (f : Nat → Int32) : sS := stF S (sSnd (sF S) f)
def oBegin (S : sS) (v : Nat) (kd ot su dl an : Int32) : sS := stL (stD S (updD (sD S) v (sD S v ++ [sRow [sL S v + 1, kd, ot, su, dl, an]]))) (upd (sL S) v (sL S v + 1))
def oEnd (S : sS) (v k : Nat) : sS := stD S (updD (sD S) v ((sD S v).eraseIdx k))
def oStand (S : sS) (k : Nat) (x : Int32) : sS := stSt S (upd (sSt S) k x)
def oHold (S : sS) (k : Nat) (x : Int32) : sS := stHe S (upd (sHe S) k x)
theorem upd_self {f : Nat → Int32} {k : Nat} : upd f k (f k) = f := by
  funext j; unfold upd; split
  · rename_i e; rw [e]
  · rfl
theorem nA_hi {w v : Nat} (hv : v ≤ w) : nA v + 2 + nC v ≤ 54 + 4 * w := by unfold nA nC; split <;> omega
theorem k71 {d : Nat} {h : zH} {w : Nat} {S : sS} {a b c e k m n : Int32} (hw : w ≤ 4) (X : XS h w S) : zD (d + 2) 71 [.inr 15, .inl a, .inl b, .inl c, .inl e, .inl k, .inl m, .inl n] h (fun v h' => v = none ∧ XS h' w (oSend S (sRow [a, b, c, e, k, m, n])) ∧ zSame (xA w) h h') :=
  zD.mono (fun v h' ⟨e1, g, x, s⟩ => ⟨e1, X.F hw s g x, s.wd (fun q hq => by unfold xA; omega)⟩) (c71 X.2.2.2.2.2.2.1 X.2.2.2.2.2.2.2.2.2.2.2.2.2.2.2.2.2.1)
theorem XS.gd {h : zH} {w : Nat} {S : sS} (X : XS h w S) {v : Nat} (hv : v ≤ w) : gW h (nA v) 15 14 13 (nC v) := X.2.2.2.2.2.2.2.1 v hv
theorem XS.xd {h : zH} {w : Nat} {S : sS} (X : XS h w S) {v : Nat} (hv : v ≤ w) : xW h (nA v) (nC v) 6 (sD S v) := (X.2.2.2.2.2.2.2.2.2.2.2.2.2.2.2.2.2.2 v hv).1
theorem XS.ld {h : zH} {w : Nat} {S : sS} (X : XS h w S) {v : Nat} (hv : v ≤ w) : zI h (nA v) 2 = sL S v := (X.2.2.2.2.2.2.2.2.2.2.2.2.2.2.2.2.2.2 v hv).2
theorem XS.gf {h : zH} {w : Nat} {S : sS} (X : XS h w S) : gW h 15 19 18 17 24 := X.2.2.2.2.2.2.1
theorem XS.xf {h : zH} {w : Nat} {S : sS} (X : XS h w S) : xW h 15 24 7 (sF S) := X.2.2.2.2.2.2.2.2.2.2.2.2.2.2.2.2.2.1
theorem XS.xq {h : zH} {w : Nat} {S : sS} (X : XS h w S) : xQ h (sQ S) := X.2.2.2.2.2.2.2.2.2.2.2.2.2.2.2.2.1
theorem XS.xc {h : zH} {w : Nat} {S : sS} (X : XS h w S) : xC h (sC S) := X.2.2.2.2.2.2.2.2.2.2.2.2.2.2.2.1
theorem XS.xt {h : zH} {w : Nat} {S : sS} (X : XS h w S) : xT h (sT S) := X.2.2.2.2.2.2.2.2.2.2.2.2.2.2.1
theorem XS.xn {h : zH} {w : Nat} {S : sS} (X : XS h w S) : xN h w (sO S) (sU S) := X.2.2.2.2.2.2.2.2.2.2.2.2.2.1
theorem XS.st {h : zH} {w : Nat} {S : sS} (X : XS h w S) {k : Nat} (hk : k < 4 * (w + 1)) : zI h 43 k = sSt S k := X.2.2.2.2.2.2.2.2.2.2.2.2.1 k hk
theorem XS.he {h : zH} {w : Nat} {S : sS} (X : XS h w S) {k : Nat} (hk : k < 4 * (w + 1)) : zI h 42 k = sHe S k := X.2.2.2.2.2.2.2.2.2.2.2.1 k hk
theorem XS.lo {h : zH} {w : Nat} {S : sS} (X : XS h w S) {k : Nat} (hk : k < 4) : zI h 5 k = sLo S k := X.2.2.2.2.2.2.2.2.2.2.1 k hk
theorem XS.dg {h : zH} {w : Nat} {S : sS} (X : XS h w S) {k : Nat} (hk : k < 4) : zI h 4 k = sDg S k := X.2.2.2.2.2.2.2.2.2.1 k hk
theorem XS.ck {h : zH} {w : Nat} {S : sS} (X : XS h w S) : zI h 3 1 = sClk S := X.2.2.2.2.2.2.2.2.1
theorem k60 {d : Nat} {h : zH} {w v : Nat} {S : sS} {kd ot su dl an : Int32} (hw : w ≤ 4) (hv : v ≤ w) (X : XS h w S) (hn : (sD S v).length < nC v) : zD (d + 1) 60 [.inr (nA v), .inl kd, .inl ot, .inl su, .inl dl, .inl an] h (fun r h' => r = some (.inl (sL S v + 1)) ∧ XS h' w (oBegin S v kd ot su dl an) ∧ zSame (xA w) h h') := by
  refine zD.mono ?_ (c60 (nC_le v) (X.gd hv) (X.xd hv) hn)
  rintro r h' ⟨e1, g, x, e2, s⟩
  rw [X.ld hv] at e1 x e2
  exact ⟨e1, X.D hw hv s g x e2, s.wd (fun q hq => by have := (nA_in v).1; have := nA_hi hv; unfold xA; omega)⟩
theorem k64 {d : Nat} {h : zH} {w v : Nat} {S : sS} {k : Int32} (hw : w ≤ 4) (hv : v ≤ w) (X : XS h w S) : zD (d + 1) 64 [.inr (nA v), .inl k] h (fun r h' => r = none ∧ XS h' w (if 0 ≤ k then oEnd S v k.toNatClampNeg else S) ∧ zSame (xA w) h h') := by
  refine zD.mono ?_ (c64 (nC_le v) (X.gd hv) (X.xd hv))
  rintro r h' ⟨e1, g, x, e2, s⟩
  rw [X.ld hv] at e2
  have h2 : nC v ≥ 2 := by unfold nC; split <;> decide
  have hs : zSame (fun q => nA v ≤ q ∧ q < nA v + 2 + nC v) h h' := s.wd (fun q hq => by omega)
  have Y := X.D hw hv hs g x e2
  rw [show upd (sL S) v (sL S v) = sL S from upd_self] at Y
  refine ⟨e1, ?_, hs.wd (fun q hq => by have := (nA_in v).1; have := nA_hi hv; unfold xA; omega)⟩
  split at Y
  · rename_i hk; rw [if_pos hk]; exact Y
  · rename_i hk; rw [if_neg hk]
    have e : updD (sD S) v (sD S v) = sD S := by
      funext j; unfold updD; split
      · rename_i e; rw [e]
      · rfl
    rw [e] at Y
    exact Y
theorem k45 {d : Nat} {h : zH} {w : Nat} {S : sS} {p : Int32} (hw : w ≤ 4) (X : XS h w S) : zD (d + 3) 45 [.inr 10, .inl p] h (fun v h' => v = none ∧ XS h' w (stC S (sAdd (sC S) p)) ∧ zSame (xA w) h h') :=
  zD.mono (fun r h' ⟨e1, g, x, s⟩ => ⟨e1, X.C hw s g x, s.wd (fun q hq => by unfold xA; omega)⟩) (c45 X.2.2.1 X.xc)
theorem k46 {d : Nat} {h : zH} {w : Nat} {S : sS} {p : Int32} (hw : w ≤ 4) (X : XS h w S) : zD (d + 2) 46 [.inr 10, .inl p] h (fun v h' => v = none ∧ XS h' w (stC S (sDrop (sC S) p)) ∧ zSame (xA w) h h') :=
  zD.mono (fun r h' ⟨e1, g, x, s⟩ => ⟨e1, X.C hw s g x, s.wd (fun q hq => by unfold xA; omega)⟩) (c46 X.2.2.1 X.xc)
theorem k49 {d : Nat} {h : zH} {w : Nat} {S : sS} {n : Int32} (hw : w ≤ 4) (X : XS h w S) : zD (d + 1) 49 [.inr 12, .inl n] h (fun v h' => v = none ∧ XS h' w (stQ S (sQ S ++ [(n, -6)])) ∧ zSame (xA w) h h') :=
  zD.mono (fun r h' ⟨e1, x, e2, s⟩ => ⟨e1, X.Q hw s e2 x, s.wd (fun q hq => by unfold xA; omega)⟩) (c49 X.2.2.2.1 X.xq)
theorem k50 {d : Nat} {h : zH} {w : Nat} {S : sS} {n u : Int32} (hw : w ≤ 4) (X : XS h w S) (ok : okQ (sQ S)) : zD (d + 2) 50 [.inr 12, .inl n, .inl u] h (fun v h' => v = none ∧ XS h' w (stQ S (sSet (sQ S) n u)) ∧ zSame (xA w) h h') :=
  zD.mono (fun r h' ⟨e1, x, e2, s⟩ => ⟨e1, X.Q hw s e2 x, s.wd (fun q hq => by unfold xA; omega)⟩) (c50 X.2.2.2.1 X.xq ok)
theorem k54 {d : Nat} {h : zH} {w n : Nat} {S : sS} {s u : Int32} (hw : w ≤ 4) (hn : n ≤ w) (X : XS h w S) : zD (d + 1) 54 [.inr 44, .inl (nI n), .inl s, .inl u] h (fun v h' => v = some (.inl (sAlR (sO S) n)) ∧ XS h' w (stU (stO S (sUpK (sO S) n (sAlK (sO S) n) s)) (sUpK (sU S) n (sAlK (sO S) n) u)) ∧ zSame (xA w) h h') :=
  zD.mono (fun r h' ⟨e1, x, e2, s⟩ => ⟨e1, X.N hw s x, s.wd (fun q hq => by unfold xA; omega)⟩) (c54 hw hn X.2.2.2.2.1 X.xn)
theorem k55 {d : Nat} {h : zH} {w n k : Nat} {S : sS} (hw : w ≤ 4) (hn : n ≤ w) (hk : k < 2) (X : XS h w S) : zD (d + 1) 55 [.inr 44, .inl (nI n), .inl (nI k)] h (fun v h' => v = some (.inl (sO S (2 * n + k))) ∧ XS h' w (stU (stO S (upd (sO S) (2 * n + k) (-1))) (sU S)) ∧ zSame (xA w) h h') :=
  zD.mono (fun r h' ⟨e1, x, e2, s⟩ => ⟨e1, X.N hw s x, s.wd (fun q hq => by unfold xA; omega)⟩) (c55 hw hn hk X.2.2.2.2.1 X.xn)
theorem k56 {d : Nat} {h : zH} {w : Nat} {S : sS} {t : Int32} (hw : w ≤ 4) (X : XS h w S) : zD (d + 1) 56 [.inr 44, .inl t] h (fun v h' => v = none ∧ XS h' w (stU (stO S (fun k => if sU S k = t then -1 else sO S k)) (sU S)) ∧ zSame (xA w) h h') :=
  zD.mono (fun r h' ⟨e1, x, e2, s⟩ => ⟨e1, X.N hw s x, s.wd (fun q hq => by unfold xA; omega)⟩) (c56 hw X.2.2.2.2.1 X.xn)
theorem k38 {d : Nat} {h : zH} {w : Nat} {S : sS} {a b y : Int32} (hw : w ≤ 4) (hy : y = 0 ∨ y = 1) (X : XS h w S) : zD (d + 2) 38 [.inr 6, .inl a, .inl b, .inl y] h (fun v h' => v = some (.inl (sPutR (sT S) (sRow [a, b, y]))) ∧ XS h' w (stT S (sPut (sT S) (sRow [a, b, y]))) ∧ zSame (xA w) h h') :=
  zD.mono (fun r h' ⟨e1, g, x, s⟩ => ⟨e1, X.T hw s g x, s.wd (fun q hq => by unfold xA; omega)⟩) (c38 hy X.2.1 X.xt)
theorem k73 {d : Nat} {h : zH} {w n : Nat} {S : sS} (hw : w ≤ 4) (X : XS h w S) (hn : n < (sF S).length) : zD (d + 1) 73 [.inr 15, .inl (nI n)] h (fun v h' => v = none ∧ XS h' w (stF S ((sF S).eraseIdx n)) ∧ zSame (fun q => q = 15 ∨ q = 16) h h') :=
  zD.mono (fun r h' ⟨e1, g, x, s⟩ => ⟨e1, X.F hw (s.wd (fun q hq => by omega)) g x, s⟩) (c73 X.gf X.xf hn)
theorem k72 {d : Nat} {h : zH} {w n : Nat} {S : sS} {f : Nat → Int32} (hw : w ≤ 4) (X : XS h w S) (hf : (sF S)[n]? = some f) (hn : (sF S).length < 24) : zD (d + 2) 72 [.inr 15, .inl (nI n)] h (fun v h' => v = none ∧ XS h' w (stF S (sF S ++ [f])) ∧ zSame (xA w) h h') :=
  zD.mono (fun r h' ⟨e1, g, x, s⟩ => ⟨e1, X.F hw s g x, s.wd (fun q hq => by unfold xA; omega)⟩) (c72 X.gf X.xf hf hn)
/-! the object's own small questions -/
theorem c21 {d : Nat} {h : zH} {x : Int32} : zD (d + 1) 21 [.inl x] h (fun v h' => v = some (.inl (if (ix 4 x).isSome then 1 else 0)) ∧ h = h') := by
  refine zD_of rfl (r21_0 ⟨fun q => ⟨Or.inl rfl, by rw [ix_neg q]; rfl, rfl⟩, fun q => ?_⟩)
  obtain ⟨n, hn, rfl⟩ := nI_of q
  refine ⟨fun q => ⟨Or.inl rfl, ?_, rfl⟩, fun q => ⟨Or.inr rfl, ?_, rfl⟩⟩
  · have q : nI 4 ≤ nI n := q
    rw [nI_leI (by decide) hn] at q
    rw [ix_ge q hn]; rfl
  · have q : ¬ nI 4 ≤ nI n := q
    rw [nI_leI (by decide) hn] at q
    rw [ix_nI (by decide) (by omega)]; rfl
theorem c20 {d : Nat} {h : zH} {w : Nat} {S : sS} {x : Int32} (hw : w ≤ 4) (X : XS h w S) : zD (d + 1) 20 [.inr 3, .inl x] h (fun v h' => v = some (.inl (if (iv w x).isSome then 1 else 0)) ∧ h = h') := by
  obtain ⟨g1, g2, -⟩ := X.1
  refine zD_of rfl (r20_0 ⟨fun q => ⟨Or.inl rfl, ?_, rfl⟩, fun q => ?_⟩)
  · by_cases hm : x < 0
    · rw [iv_neg hm]; rfl
    · obtain ⟨n, hn, rfl⟩ := nI_of hm
      have q : nI n ≤ nI 0 := q
      rw [nI_leI hn (by decide)] at q
      rw [show n = 0 by omega, iv_0 hw]; rfl
  · have hm : ¬ x < 0 := fun e => q (by rw [Int32.le_iff_toInt_le]; rw [Int32.lt_iff_toInt_lt] at e; omega)
    obtain ⟨n, hn, rfl⟩ := nI_of hm
    have q : ¬ nI n ≤ nI 0 := q
    rw [nI_leI hn (by decide)] at q
    simp only [g1, g2, true_and, nI_ltI (show w < 2 ^ 31 by omega) hn]
    refine ⟨fun q2 => ⟨Or.inl trivial, ?_, trivial⟩, fun q2 => ⟨Or.inr trivial, ?_, trivial⟩⟩
    · rw [iv_ge q2 hn]; rfl
    · rw [iv_nI hw (by omega) (by omega)]; rfl
theorem c19 {d : Nat} {h : zH} {w : Nat} {S : sS} {x : Int32} (hw : w ≤ 4) (X : XS h w S) : zD (d + 1) 19 [.inr 3, .inl x] h (fun v h' => v = some (.inl (if (ix (w + 1) x).isSome then 1 else 0)) ∧ h = h') := by
  obtain ⟨g1, g2, -⟩ := X.1
  refine zD_of rfl (r19_0 ⟨fun q => ⟨Or.inl rfl, by rw [ix_neg q]; rfl, rfl⟩, fun q => ?_⟩)
  obtain ⟨n, hn, rfl⟩ := nI_of q
  simp only [g1, g2, true_and, nI_ltI (show w < 2 ^ 31 by omega) hn]
  refine ⟨fun q2 => ⟨Or.inl trivial, ?_, trivial⟩, fun q2 => ⟨Or.inr trivial, ?_, trivial⟩⟩
  · rw [ix_ge (by omega) hn]; rfl
  · rw [ix_nI (by omega) (by omega)]; rfl
theorem c22 {d : Nat} {h : zH} {a b : Int32} : zD (d + 1) 22 [.inl a, .inl b] h (fun v h' => v = some (.inl (4 * a + b)) ∧ h = h') := zD_of rfl (r22_0 ⟨rfl, rfl⟩)
theorem e4x (a b : Nat) : (4 : Int32) * nI a + nI b = nI (4 * a + b) := by rw [show (4 : Int32) = nI 4 from rfl, pk_mul, nI_add]
theorem is1 {α : Type} {o : Option α} (h : ¬ (if o.isSome then (1 : Int32) else 0) = 0) : ∃ x, o = some x := by
  cases o with
  | none => exact absurd rfl h
  | some x => exact ⟨x, rfl⟩
theorem is0 {α : Type} {o : Option α} (h : (if o.isSome then (1 : Int32) else 0) = 0) : o = none := by
  cases o with
  | none => rfl
  | some x => exact absurd (show (1 : Int32) = 0 from h) (by decide)
end
section
/-! ===== the object's own methods: what arrives ===== -/
theorem XS.all {h : zH} {w : Nat} {S : sS} (X : XS h w S) : zK h 3 = 3 ∧ zI h 3 0 = nI w ∧ (zR h 3 2 = 4 ∧ zR h 3 3 = 5 ∧ zR h 3 4 = 42 ∧ zR h 3 5 = 43 ∧ zR h 3 6 = 6 ∧ zR h 3 7 = 10 ∧ zR h 3 8 = 12 ∧ zR h 3 9 = 15 ∧ zR h 3 10 = 41 ∧ zR h 3 11 = 44 ∧ zR h 3 12 = 47 ∧ zR h 3 13 = 53) ∧
    (zK h 4 = 1 ∧ zL h 4 = 4 ∧ zK h 5 = 1 ∧ zL h 5 = 4 ∧ zK h 42 = 2 ∧ zL h 42 = 4 * (w + 1) ∧ zK h 43 = 1 ∧ zL h 43 = 4 * (w + 1) ∧ zK h 41 = 17 ∧ zK h 53 = 16 ∧ zL h 53 = w + 1) ∧ (∀ v, v ≤ w → zR h 53 v = nA v) ∧ zK h 6 = 5 ∧ zK h 10 = 7 ∧ zK h 12 = 9 ∧ zK h 44 = 11 ∧ zI h 3 1 = sClk S ∧ (zK h 15 = 19 ∧ zR h 15 0 = 16 ∧ zK h 16 = 18 ∧ zL h 16 = 24) ∧ zK h 47 = 15 ∧ zR h 47 0 = 48 ∧ zK h 48 = 14 ∧ zL h 48 = 4 := by
  obtain ⟨g1, g2, g3, g4, g5⟩ := X.1
  have f := X.gf
  have d := X.gd (Nat.zero_le w)
  exact ⟨g1, g2, g3, g4, g5, X.2.1.1, X.2.2.1.1, X.2.2.2.1.1, X.2.2.2.2.1.1, X.ck, ⟨f.1, f.2.1, f.2.2.1, f.2.2.2.1⟩, d.1, d.2.1, d.2.2.1, d.2.2.2.1⟩
theorem sIx_if {α β : Type} {P : α → Bool} {L : List α} (hl : L.length < 2 ^ 31) (A : Nat → β) (B : β) : (if 0 ≤ sIx P L 0 then A (sIx P L 0).toNatClampNeg else B) = match sFx P L 0 with
    | some k => A k
    | none => B := by
  cases hf : sFx P L 0 with
  | none =>
    have : sIx P L 0 = -1 := (sIx_neg hl).mpr hf
    rw [this, if_neg (by decide)]
  | some k =>
    obtain ⟨x, hx, -⟩ := sFx_some hf
    have hk := lt_at hx
    rw [sIx_pos hf, if_pos (nI_pos' (by omega)), nI_clamp (by omega)]
theorem XS.dl {h : zH} {w : Nat} {S : sS} (X : XS h w S) {v : Nat} (hv : v ≤ w) : (sD S v).length ≤ nC v := (X.xd hv).1
theorem XS.dl2 {h : zH} {w : Nat} {S : sS} (X : XS h w S) {v : Nat} (hv : v ≤ w) : (sD S v).length < 2 ^ 31 := by
  have := X.dl hv; have := nC_le v; omega
theorem zA41 {w : Nat} : ¬ xA w 41 := by unfold xA; omega
theorem s41 {w : Nat} {h h' : zH} {f : Nat → Int32} (s : zSame (xA w) h h') (hf : ∀ i, i < 7 → zI h 41 i = f i) : ∀ i, i < 7 → zI h' 41 i = f i := fun i hi => (s.2.2.2 41 zA41 i).1.trans (hf i hi)
abbrev sEls (S : sS) (sn : Nat) (v : Int32) : Prop := ¬ sLo S sn = 0 ∧ ¬ sLo S sn = v
theorem k25 {d : Nat} {h : zH} {w sn : Nat} {S : sS} {v : Int32} (hs : sn < 4) (X : XS h w S) : zD (d + 1) 25 [.inr 3, .inl (nI sn), .inl v] h (fun r h' => r = some (.inl (if sEls S sn v then 1 else 0)) ∧ h = h') := by
  obtain ⟨g1, g2, ⟨a1, a2, a3, a4, a5, a6, a7, a8, a9, a10, a11, a12⟩, ⟨b1, b2, b3, b4, b5, b6, b7, b8, b9, b10, b11⟩, g5, t1, c1, q1, n1, ck, ⟨f1, f2, f3, f4⟩, ⟨d1, d2, d3, d4⟩⟩ := X.all
  refine zD_of rfl (r25_0 ?_)
  simp only [g1, g2, a1, a2, a3, a4, a5, a6, a7, a8, a9, a10, a11, a12, b1, b2, b3, b4, b5, b6, b7, b8, b9, b10, b11, t1, c1, q1, n1, ck, f1, f2, f3, f4, d1, d2, d3, d4, true_and, true_or, or_true, nI_clamp (show sn < 2 ^ 31 by omega), X.lo hs]
  refine ⟨vp_in_nI hs (by decide), fun q => ⟨by rw [if_neg (fun z => z.1 q)], trivial⟩, fun q => ⟨vp_in_nI hs (by decide), fun q2 => ⟨by rw [if_neg (fun z => z.2 q2)], trivial⟩, fun q2 => ⟨by rw [if_pos ⟨q, q2⟩], trivial⟩⟩⟩
abbrev sMay (S : sS) (sn : Nat) (s v : Int32) : Prop := ¬ sEls S sn v ∨ (4 * sLo S sn + s) ∈ sC S ∨ ¬ (sC S).length = 6
theorem k26 {d : Nat} {h : zH} {w sn : Nat} {S : sS} {v : Int32} (hs : sn < 4) (X : XS h w S) : zD (d + 3) 26 [.inr 3, .inl (nI sn), .inl v] h (fun r h' => r = some (.inl (if sMay S sn (nI sn) v then 1 else 0)) ∧ h = h') := by
  obtain ⟨g1, g2, ⟨a1, a2, a3, a4, a5, a6, a7, a8, a9, a10, a11, a12⟩, ⟨b1, b2, b3, b4, b5, b6, b7, b8, b9, b10, b11⟩, g5, t1, c1, q1, n1, ck, ⟨f1, f2, f3, f4⟩, ⟨d1, d2, d3, d4⟩⟩ := X.all
  refine zD_of rfl (r26_0 ⟨g1, _, k25 hs X, ?_⟩)
  rintro r _ ⟨rfl, rfl⟩
  refine r26_6 ⟨fun q => ?_, fun q => ?_⟩
  · have he : ¬ sEls S sn v := fun e => by rw [if_pos e] at q; exact absurd q (by decide)
    exact ⟨Or.inr rfl, by rw [if_pos (Or.inl he)], rfl⟩
  have he : sEls S sn v := Classical.byContradiction fun e => q (by rw [if_neg e])
  simp only [g1, g2, a1, a2, a3, a4, a5, a6, a7, a8, a9, a10, a11, a12, b1, b2, b3, b4, b5, b6, b7, b8, b9, b10, b11, t1, c1, q1, n1, ck, f1, f2, f3, f4, d1, d2, d3, d4, true_and, true_or, or_true, nI_clamp (show sn < 2 ^ 31 by omega), X.lo hs]
  refine ⟨vp_in_nI hs (by decide), _, c22, ?_⟩
  rintro r _ ⟨rfl, rfl⟩
  refine r26_23 ⟨c1, _, c43 X.2.2.1 X.xc, ?_⟩
  rintro r _ ⟨rfl, rfl⟩
  refine r26_26 ⟨fun q => ?_, fun q => ?_⟩
  · have hm : (4 * sLo S sn + nI sn) ∈ sC S := Classical.byContradiction fun e => q (by rw [if_neg e])
    exact ⟨Or.inr rfl, by rw [if_pos (Or.inr (Or.inl hm))], rfl⟩
  have hm : ¬ (4 * sLo S sn + nI sn) ∈ sC S := fun e => by rw [if_pos e] at q; exact absurd q (by decide)
  simp only [g1, g2, a1, a2, a3, a4, a5, a6, a7, a8, a9, a10, a11, a12, b1, b2, b3, b4, b5, b6, b7, b8, b9, b10, b11, t1, c1, q1, n1, ck, f1, f2, f3, f4, d1, d2, d3, d4, true_and, true_or, or_true]
  refine ⟨_, c42 X.2.2.1 X.xc, ?_⟩
  rintro r _ ⟨rfl, rfl⟩
  refine r26_36 ⟨fun q => ?_, fun q => ?_⟩
  · have hf : (sC S).length = 6 := Classical.byContradiction fun e => q (by rw [if_neg e])
    exact ⟨Or.inl rfl, by rw [if_neg (fun z => by rcases z with z | z | z; exact z he; exact hm z; exact z hf)], rfl⟩
  · have hf : ¬ (sC S).length = 6 := fun e => by rw [if_pos e] at q; exact absurd q (by decide)
    exact ⟨Or.inr rfl, by rw [if_pos (Or.inr (Or.inr hf))], rfl⟩
def oMv1 (S : sS) (sn : Nat) (s v : Int32) : sS := if sEls S sn v then stC S (sAdd (sC S) (4 * sLo S sn + s)) else S
def oMv2 (S : sS) (s v : Int32) : sS := stC S (sDrop (sC S) (4 * v + s))
def oMv3 (S : sS) (s v : Int32) : sS := match sFx (pFind 3 v s) (sD S 0) 0 with
  | some k => oEnd S 0 k
  | none => S
def oMv4 (S : sS) (sn : Nat) (v : Int32) : sS := stLo S (upd (sLo S) sn v)
def oMove (S : sS) (sn : Nat) (s v : Int32) : sS := oMv4 (oMv3 (oMv2 (oMv1 S sn s v) s v) s v) sn v
theorem k27 {d : Nat} {h : zH} {w sn : Nat} {S : sS} {v : Int32} (hw : w ≤ 4) (hs : sn < 4) (X : XS h w S) : zD (d + 4) 27 [.inr 3, .inl (nI sn), .inl v] h (fun r h' => r = none ∧ XS h' w (oMove S sn (nI sn) v) ∧ zSame (xA w) h h') := by
  have tail : ∀ (h1 : zH), XS h1 w (oMv1 S sn (nI sn) v) → zSame (xA w) h h1 → zWp zm27 (zD (d + 3)) (fun r h' => r = none ∧ XS h' w (oMove S sn (nI sn) v) ∧ zSame (xA w) h h') 0 0 26 [some (.inr 3), some (.inl (nI sn)), some (.inl v)] [] h1 := by
    intro h1 X1 s1
    obtain ⟨g1, g2, ⟨a1, a2, a3, a4, a5, a6, a7, a8, a9, a10, a11, a12⟩, ⟨b1, b2, b3, b4, b5, b6, b7, b8, b9, b10, b11⟩, g5, t1, c1, q1, n1, ck, ⟨f1, f2, f3, f4⟩, ⟨d1, d2, d3, d4⟩⟩ := X1.all
    refine r27_26 ⟨g1, _, c22, ?_⟩
    rintro r _ ⟨rfl, rfl⟩
    simp only [a6]
    refine r27_35 ⟨c1, _, k46 hw X1, ?_⟩
    rintro r h2 ⟨rfl, X2, s2⟩
    refine r27_38 ?_
    have h0 := Nat.zero_le w
    have g2' := X2.all
    have e12 : zR h2 3 12 = 47 := g2'.2.2.1.2.2.2.2.2.2.2.2.2.2.1
    have k47 : zK h2 47 = 15 := (X2.gd h0).1
    simp only [e12, k47, g2'.1, true_and]
    refine ⟨_, c62 (nC_le 0) (X2.gd h0) (X2.xd h0), ?_⟩
    rintro r _ ⟨rfl, rfl⟩
    refine r27_52 ⟨k47, _, k64 hw h0 X2, ?_⟩
    rintro r h3 ⟨rfl, X3, s3⟩
    rw [sIx_if (X2.dl2 h0) (fun k => oEnd (stC (oMv1 S sn (nI sn) v) (sDrop (sC (oMv1 S sn (nI sn) v)) (4 * v + nI sn))) 0 k)] at X3
    have X3 : XS h3 w (oMv3 (oMv2 (oMv1 S sn (nI sn) v) (nI sn) v) (nI sn) v) := X3
    obtain ⟨g1, g2, ⟨a1, a2, a3, a4, a5, a6, a7, a8, a9, a10, a11, a12⟩, ⟨b1, b2, b3, b4, b5, b6, b7, b8, b9, b10, b11⟩, g5, t1, c1, q1, n1, ck, ⟨f1, f2, f3, f4⟩, ⟨d1, d2, d3, d4⟩⟩ := X3.all
    refine r27_55 ?_
    simp only [g1, g2, a1, a2, a3, a4, a5, a6, a7, a8, a9, a10, a11, a12, b1, b2, b3, b4, b5, b6, b7, b8, b9, b10, b11, t1, c1, q1, n1, ck, f1, f2, f3, f4, d1, d2, d3, d4, true_and, true_or, or_true, forall_eq, nI_clamp (show sn < 2 ^ 31 by omega)]
    exact ⟨vp_in_nI hs (by decide), X3.Lo hw, ((s1.tr s2).tr s3).tr (zSame.wI (by unfold xA; omega))⟩
  obtain ⟨g1, g2, ⟨a1, a2, a3, a4, a5, a6, a7, a8, a9, a10, a11, a12⟩, ⟨b1, b2, b3, b4, b5, b6, b7, b8, b9, b10, b11⟩, g5, t1, c1, q1, n1, ck, ⟨f1, f2, f3, f4⟩, ⟨d1, d2, d3, d4⟩⟩ := X.all
  refine zD_of rfl (r27_0 ⟨g1, _, k25 hs X, ?_⟩)
  rintro r _ ⟨rfl, rfl⟩
  refine r27_6 ⟨fun q => ?_, fun q => ?_⟩
  · have he : ¬ sEls S sn v := fun e => by rw [if_pos e] at q; exact absurd q (by decide)
    exact tail h (by unfold oMv1; rw [if_neg he]; exact X) zSame.rf
  have he : sEls S sn v := Classical.byContradiction fun e => q (by rw [if_neg e])
  simp only [g1, g2, a1, a2, a3, a4, a5, a6, a7, a8, a9, a10, a11, a12, b1, b2, b3, b4, b5, b6, b7, b8, b9, b10, b11, t1, c1, q1, n1, ck, f1, f2, f3, f4, d1, d2, d3, d4, true_and, true_or, or_true, nI_clamp (show sn < 2 ^ 31 by omega), X.lo hs]
  refine ⟨vp_in_nI hs (by decide), _, c22, ?_⟩
  rintro r _ ⟨rfl, rfl⟩
  refine r27_23 ⟨c1, _, k45 hw X, ?_⟩
  rintro r h1 ⟨rfl, X1, s1⟩
  exact tail h1 (by unfold oMv1; rw [if_pos he]; exact X1) s1
def oAbort (S : sS) (f : Nat → Int32) : sS := oSend S (sRow [f 1, f 0, 40, 0, 0, f 4, 0])
theorem k33 {d : Nat} {h : zH} {w : Nat} {S : sS} {f : Nat → Int32} (hw : w ≤ 4) (X : XS h w S) (hf : ∀ i, i < 7 → zI h 41 i = f i) : zD (d + 3) 33 [.inr 3, .inr 41] h (fun r h' => r = none ∧ XS h' w (oAbort S f) ∧ zSame (xA w) h h') := by
  obtain ⟨g1, g2, ⟨a1, a2, a3, a4, a5, a6, a7, a8, a9, a10, a11, a12⟩, ⟨b1, b2, b3, b4, b5, b6, b7, b8, b9, b10, b11⟩, g5, t1, c1, q1, n1, ck, ⟨f1, f2, f3, f4⟩, ⟨d1, d2, d3, d4⟩⟩ := X.all
  refine zD_of rfl (r33_0 ?_)
  simp only [g1, g2, a1, a2, a3, a4, a5, a6, a7, a8, a9, a10, a11, a12, b1, b2, b3, b4, b5, b6, b7, b8, b9, b10, b11, t1, c1, q1, n1, ck, f1, f2, f3, f4, d1, d2, d3, d4, true_and, true_or, or_true, hf 0 (by decide), hf 1 (by decide), hf 4 (by decide)]
  refine ⟨_, k71 hw X, ?_⟩
  rintro r h1 ⟨rfl, X1, s1⟩
  exact r33_24 ⟨rfl, X1, s1⟩
def oUpd (S : sS) (sn : Nat) (f : Nat → Int32) : sS := if (sFx (pUpd (f 0) (f 4)) (sD S 0) 0).isSome then S else if (sD S 0).length = 4 ∨ ¬ sMay S sn (f 3) (f 0) then oAbort S f else
  oSend (oBegin (oMove S sn (f 3) (f 0)) 0 2 (f 0) (f 3) (sClk S + 6) (f 4)) (sRow [0, f 0, 22, f 3, sL S 0 + 1, f 4, 0])
theorem oMove_len {S : sS} {sn : Nat} {s v : Int32} : (sD (oMove S sn s v) 0).length ≤ (sD S 0).length ∧ sL (oMove S sn s v) = sL S ∧ sClk (oMove S sn s v) = sClk S := by
  have e1 : sD (oMv2 (oMv1 S sn s v) s v) 0 = sD S 0 ∧ sL (oMv2 (oMv1 S sn s v) s v) = sL S ∧ sClk (oMv2 (oMv1 S sn s v) s v) = sClk S := by
    unfold oMv1; split <;> exact ⟨rfl, rfl, rfl⟩
  have e3 : ∀ S2 : sS, (sD (oMv3 S2 s v) 0).length ≤ (sD S2 0).length ∧ sL (oMv3 S2 s v) = sL S2 ∧ sClk (oMv3 S2 s v) = sClk S2 := by
    intro S2
    unfold oMv3
    split
    · rename_i k hk
      refine ⟨?_, rfl, rfl⟩
      show (updD (sD S2) 0 ((sD S2 0).eraseIdx k) 0).length ≤ _
      unfold updD; rw [if_pos rfl]
      exact List.length_eraseIdx_le _ _
    · exact ⟨Nat.le_refl _, rfl, rfl⟩
  have := e3 (oMv2 (oMv1 S sn s v) s v)
  rw [e1.1, e1.2.1, e1.2.2] at this
  exact this
theorem k24 {d : Nat} {h : zH} {w sn : Nat} {S : sS} {f : Nat → Int32} (hw : w ≤ 4) (hs : sn < 4) (X : XS h w S) (hf : ∀ i, i < 7 → zI h 41 i = f i) (hfs : f 3 = nI sn) : zD (d + 5) 24 [.inr 3, .inr 41] h (fun r h' => r = none ∧ XS h' w (oUpd S sn f) ∧ zSame (xA w) h h') := by
  have h0 := Nat.zero_le w
  obtain ⟨g1, g2, ⟨a1, a2, a3, a4, a5, a6, a7, a8, a9, a10, a11, a12⟩, ⟨b1, b2, b3, b4, b5, b6, b7, b8, b9, b10, b11⟩, g5, t1, c1, q1, n1, ck, ⟨f1, f2, f3, f4⟩, ⟨d1, d2, d3, d4⟩⟩ := X.all
  refine zD_of rfl (r24_0 ?_)
  simp only [g1, g2, a1, a2, a3, a4, a5, a6, a7, a8, a9, a10, a11, a12, b1, b2, b3, b4, b5, b6, b7, b8, b9, b10, b11, t1, c1, q1, n1, ck, f1, f2, f3, f4, d1, d2, d3, d4, true_and, true_or, or_true, hf 0 (by decide), hf 4 (by decide), hf 3 (by decide)]
  refine ⟨_, c63 (nC_le 0) (X.gd h0) (X.xd h0), ?_⟩
  rintro r _ ⟨rfl, rfl⟩
  refine r24_22 ⟨fun q => ?_, fun q => ?_⟩
  rotate_left
  · have hn : ¬ sFx (pUpd (f 0) (f 4)) (sD S 0) 0 = none := fun e => q ((sIx_neg (X.dl2 h0)).mpr e)
    obtain ⟨k, hk⟩ := Option.ne_none_iff_exists'.mp hn
    exact ⟨rfl, by unfold oUpd; rw [hk, if_pos (show (some k).isSome = true from rfl)]; exact X, zSame.rf⟩
  have hn := (sIx_neg (X.dl2 h0)).mp q
  simp only [g1, g2, a1, a2, a3, a4, a5, a6, a7, a8, a9, a10, a11, a12, b1, b2, b3, b4, b5, b6, b7, b8, b9, b10, b11, t1, c1, q1, n1, ck, f1, f2, f3, f4, d1, d2, d3, d4, true_and, true_or, or_true]
  refine ⟨_, c59 (nC_le 0) (X.gd h0) (X.xd h0), ?_⟩
  rintro r _ ⟨rfl, rfl⟩
  have hab : (sD S 0).length = 4 ∨ ¬ sMay S sn (f 3) (f 0) → zD (d + 4) 33 [.inr 3, .inr 41] h (fun r h' => r = none ∧ XS h' w (oUpd S sn f) ∧ zSame (xA w) h h') := by
    intro hc
    unfold oUpd
    rw [hn, if_neg (by decide), if_pos hc]
    exact k33 hw X hf
  refine r24_34 ⟨fun q2 => ?_, fun q2 => ?_⟩
  · have hl : (sD S 0).length = 4 := Classical.byContradiction fun e => q2 (by rw [show nC 0 = 4 from rfl, if_neg e])
    refine ⟨g1, _, hab (Or.inl hl), ?_⟩
    rintro r h1 ⟨rfl, X1, s1⟩
    exact r24_51 ⟨rfl, X1, s1⟩
  have hl : ¬ (sD S 0).length = 4 := fun e => by rw [show nC 0 = 4 from rfl, if_pos e] at q2; exact absurd q2 (by decide)
  rw [hfs]
  refine ⟨g1, _, k26 hs X, ?_⟩
  rintro r _ ⟨rfl, rfl⟩
  refine r24_43 ⟨fun q3 => ?_, fun q3 => ?_⟩
  rotate_left
  · have hm : ¬ sMay S sn (nI sn) (f 0) := fun e => by rw [if_pos e] at q3; exact absurd q3 (by decide)
    refine ⟨g1, _, hab (Or.inr (by rw [hfs]; exact hm)), ?_⟩
    rintro r h1 ⟨rfl, X1, s1⟩
    exact r24_51 ⟨rfl, X1, s1⟩
  have hm : sMay S sn (nI sn) (f 0) := Classical.byContradiction fun e => q3 (by rw [if_neg e])
  refine ⟨g1, _, k27 hw hs X, ?_⟩
  rintro r h1 ⟨rfl, X1, s1⟩
  have hf1 := s41 s1 hf
  obtain ⟨m1, m2, m3⟩ := oMove_len (S := S) (sn := sn) (s := nI sn) (v := f 0)
  obtain ⟨g1, g2, ⟨a1, a2, a3, a4, a5, a6, a7, a8, a9, a10, a11, a12⟩, ⟨b1, b2, b3, b4, b5, b6, b7, b8, b9, b10, b11⟩, g5, t1, c1, q1, n1, ck, ⟨f1, f2, f3, f4⟩, ⟨d1, d2, d3, d4⟩⟩ := X1.all
  rw [m3] at ck
  refine r24_58 ?_
  simp only [g1, g2, a1, a2, a3, a4, a5, a6, a7, a8, a9, a10, a11, a12, b1, b2, b3, b4, b5, b6, b7, b8, b9, b10, b11, t1, c1, q1, n1, ck, f1, f2, f3, f4, d1, d2, d3, d4, true_and, true_or, or_true, hf1 4 (by decide)]
  have hl4 := X.dl h0
  rw [show nC 0 = 4 from rfl] at hl4
  refine ⟨_, k60 hw h0 X1 (by rw [show nC 0 = 4 from rfl]; omega), ?_⟩
  rintro r h2 ⟨rfl, X2, s2⟩
  have hf2 := s41 s2 hf1
  obtain ⟨g1, g2, ⟨a1, a2, a3, a4, a5, a6, a7, a8, a9, a10, a11, a12⟩, ⟨b1, b2, b3, b4, b5, b6, b7, b8, b9, b10, b11⟩, g5, t1, c1, q1, n1, ck, ⟨f1, f2, f3, f4⟩, ⟨d1, d2, d3, d4⟩⟩ := X2.all
  refine r24_79 ?_
  simp only [g1, g2, a1, a2, a3, a4, a5, a6, a7, a8, a9, a10, a11, a12, b1, b2, b3, b4, b5, b6, b7, b8, b9, b10, b11, t1, c1, q1, n1, ck, f1, f2, f3, f4, d1, d2, d3, d4, true_and, true_or, or_true, hf2 4 (by decide)]
  refine ⟨_, k71 hw X2, ?_⟩
  rintro r h3 ⟨rfl, X3, s3⟩
  refine r24_100 ⟨rfl, ?_, (s1.tr s2).tr s3⟩
  unfold oUpd
  rw [hn, if_neg (by decide), if_neg (by rw [hfs]; exact fun z => z.elim hl (fun z => z hm)), hfs]
  rw [m2] at X3
  exact X3
end
section
/-! ===== what arrives, the rest of it ===== -/
theorem XS.dn {h : zH} {w : Nat} {S : sS} (X : XS h w S) {v : Nat} (hv : v ≤ w) : zK h (nA v) = 15 ∧ zR h (nA v) 0 = nA v + 1 ∧ zK h (nA v + 1) = 14 ∧ zL h (nA v + 1) = nC v := ⟨(X.gd hv).1, (X.gd hv).2.1, (X.gd hv).2.2.1, (X.gd hv).2.2.2.1⟩
def oEndR (S : sS) (v k sn : Nat) (how : Int32) : sS := oEnd (oStand S (4 * v + sn) how) v k
theorem k32 {d : Nat} {h : zH} {w v k sn : Nat} {S : sS} {g : Nat → Int32} {how : Int32} (hw : w ≤ 4) (hv : v ≤ w) (hk : (sD S v)[k]? = some g) (hs : sn < 4) (hg : g 3 = nI sn) (X : XS h w S) : zD (d + 2) 32 [.inr 3, .inl (nI v), .inl (nI k), .inl how] h (fun r h' => r = none ∧ XS h' w (oEndR S v k sn how) ∧ zSame (xA w) h h') := by
  obtain ⟨g1, g2, ⟨a1, a2, a3, a4, a5, a6, a7, a8, a9, a10, a11, a12⟩, ⟨b1, b2, b3, b4, b5, b6, b7, b8, b9, b10, b11⟩, g5, t1, c1, q1, n1, ck, ⟨f1, f2, f3, f4⟩, ⟨d1, d2, d3, d4⟩⟩ := X.all
  obtain ⟨e1, e2, e3, e4⟩ := X.dn hv
  have hkl := lt_at hk
  have hl := X.dl hv
  have hc := nC_le v
  have er := (X.gd hv).row (show k < nC v by omega)
  have ex := (X.xd hv).2.2 k g hk 3 (by decide)
  refine zD_of rfl (r32_0 ?_)
  simp only [g1, g2, a1, a2, a3, a4, a5, a6, a7, a8, a9, a10, a11, a12, b1, b2, b3, b4, b5, b6, b7, b8, b9, b10, b11, t1, c1, q1, n1, ck, f1, f2, f3, f4, d1, d2, d3, d4, true_and, true_or, or_true, nI_clamp (show v < 2 ^ 31 by omega), nI_clamp (show k < 2 ^ 31 by omega), g5 v hv, e1, e2, e3, e4, er, ex, hg]
  refine ⟨vp_in_nI (by omega) (by omega), vp_in_nI (by omega) (by omega), _, c22, ?_⟩
  rintro r _ ⟨rfl, rfl⟩
  rw [e4x v sn]
  refine r32_22 ?_
  simp only [zK_wI, zL_wI, zR_wI, g1, g2, a1, a2, a3, a4, a5, a6, a7, a8, a9, a10, a11, a12, b1, b2, b3, b4, b5, b6, b7, b8, b9, b10, b11, t1, c1, q1, n1, ck, f1, f2, f3, f4, d1, d2, d3, d4, true_and, true_or, or_true, forall_eq, nI_clamp (show 4 * v + sn < 2 ^ 31 by omega), nI_clamp (show v < 2 ^ 31 by omega), g5 v hv, e1]
  refine ⟨vp_in_nI (by omega) (by omega), vp_in_nI (by omega) (by omega), _, k64 hw hv (X.St hw), ?_⟩
  rintro r h2 ⟨rfl, X2, s2⟩
  rw [if_pos (nI_pos' (by omega)), nI_clamp (by omega)] at X2
  exact r32_34 ⟨rfl, X2, (zSame.wI (by unfold xA; omega)).tr s2⟩
def oDead (S : sS) (v k : Nat) (g : Nat → Int32) (x : Int32) : sS := stD S (updD (sD S) v ((sD S v).set k (upd g 4 x)))
theorem XS.dead {h : zH} {w v k : Nat} {S : sS} {g : Nat → Int32} {x : Int32} (hw : w ≤ 4) (hv : v ≤ w) (hk : (sD S v)[k]? = some g) (X : XS h w S) : XS (zwI h (zR h (nA v + 1) k) 4 x) w (oDead S v k g x) ∧ zSame (xA w) h (zwI h (zR h (nA v + 1) k) 4 x) := by
  have hkl := lt_at hk
  have hl := X.dl hv
  have hin := (X.gd hv).2.2.2.2.2.1 k (by omega)
  have hne := (X.gd hv).ne (show k < nC v by omega)
  have hs : zSame (fun q => nA v ≤ q ∧ q < nA v + 2 + nC v) h (zwI h (zR h (nA v + 1) k) 4 x) := zSame.wI (by omega)
  have Y := X.D (n := sL S v) (F := (sD S v).set k (upd g 4 x)) hw hv hs (X.gd hv) ?_ (by rw [zI_oa (fun e => hne e.symm)]; exact X.ld hv)
  · rw [show upd (sL S) v (sL S v) = sL S from upd_self] at Y
    exact ⟨Y, hs.wd (fun q hq => by have := (nA_in v).1; have := nA_hi hv; unfold xA; omega)⟩
  · refine ⟨by rw [List.length_set]; exact hl, by rw [List.length_set, zI_oa (fun e => hne e.symm)]; exact (X.xd hv).2.1, fun j f hf i hi => ?_⟩
    show zI (zwI h (zR h (nA v + 1) k) 4 x) (zR h (nA v + 1) j) i = f i
    by_cases e : j = k
    · subst e
      rw [List.getElem?_set_self hkl] at hf
      cases hf
      unfold upd
      by_cases e4' : i = 4
      · rw [if_pos e4', e4', zI_at]
      · rw [if_neg e4', zI_ok e4']; exact (X.xd hv).2.2 j g hk i hi
    · rw [List.getElem?_set_ne (fun z => e z.symm)] at hf
      have hj := lt_at hf
      rw [zI_oa (fun z => e ((X.gd hv).2.2.2.2.2.2 _ _ (by omega) (by omega) z))]
      exact (X.xd hv).2.2 j f hf i hi
def pNum (n : Int32) : (Nat → Int32) → Bool := fun f => decide (f 0 = n)
def oIns (S : sS) (rn sn : Nat) (f : Nat → Int32) : sS := match sFx (pNum (f 5)) (sD S rn) 0 with
  | none => oAbort S f
  | some k => if rn = 0 then oSend (oEnd S 0 k) (sRow [0, f 0, 31, f 3, f 5, f 4, 0]) else
    match (sD S rn)[k]? with
    | some g => oSend (oDead (oHold S (4 * rn + sn) 1) rn k g (sClk S + 10)) (sRow [f 1, 0, 22, f 3, f 5, f 4, 0])
    | none => S
theorem k28 {d : Nat} {h : zH} {w rn sn : Nat} {S : sS} {f : Nat → Int32} (hw : w ≤ 4) (hr : rn ≤ w) (hs : sn < 4) (X : XS h w S) (hf : ∀ i, i < 7 → zI h 41 i = f i) (hfr : f 1 = nI rn) (hfs : f 3 = nI sn) : zD (d + 4) 28 [.inr 3, .inr 41] h (fun r h' => r = none ∧ XS h' w (oIns S rn sn f) ∧ zSame (xA w) h h') := by
  have h0 := Nat.zero_le w
  have hl := X.dl hr
  have hc := nC_le rn
  obtain ⟨g1, g2, ⟨a1, a2, a3, a4, a5, a6, a7, a8, a9, a10, a11, a12⟩, ⟨b1, b2, b3, b4, b5, b6, b7, b8, b9, b10, b11⟩, g5, t1, c1, q1, n1, ck, ⟨f1, f2, f3, f4⟩, ⟨d1, d2, d3, d4⟩⟩ := X.all
  obtain ⟨e1, e2, e3, e4⟩ := X.dn hr
  refine zD_of rfl (r28_0 ?_)
  simp only [g1, g2, a1, a2, a3, a4, a5, a6, a7, a8, a9, a10, a11, a12, b1, b2, b3, b4, b5, b6, b7, b8, b9, b10, b11, t1, c1, q1, n1, ck, f1, f2, f3, f4, d1, d2, d3, d4, true_and, true_or, or_true, hf 1 (by decide), hf 5 (by decide), hfr, nI_clamp (show rn < 2 ^ 31 by omega), g5 rn hr, e1]
  refine ⟨vp_in_nI (by omega) (by omega), _, c61 (nC_le rn) (X.gd hr) (X.xd hr), ?_⟩
  rintro r _ ⟨rfl, rfl⟩
  refine r28_16 ⟨fun q => ?_, fun q => ?_⟩
  rotate_left
  · have hn : sFx (pNum (f 5)) (sD S rn) 0 = none := (sIx_neg (X.dl2 hr)).mp q
    refine ⟨g1, _, k33 hw X hf, ?_⟩
    rintro r h1 ⟨rfl, X1, s1⟩
    refine r28_27 (r28_143 ⟨rfl, ?_, s1⟩)
    unfold oIns; rw [hn]; exact X1
  have hn : ¬ sFx (pNum (f 5)) (sD S rn) 0 = none := fun e => q ((sIx_neg (X.dl2 hr)).mpr e)
  obtain ⟨k, hk⟩ := Option.ne_none_iff_exists'.mp hn
  obtain ⟨g, hg, -⟩ := sFx_some hk
  have hkl := lt_at hg
  rw [show sIx (fun f_1 => decide (f_1 0 = f 5)) (sD S rn) 0 = nI k from sIx_pos hk]
  simp only [g1, g2, a1, a2, a3, a4, a5, a6, a7, a8, a9, a10, a11, a12, b1, b2, b3, b4, b5, b6, b7, b8, b9, b10, b11, t1, c1, q1, n1, ck, f1, f2, f3, f4, d1, d2, d3, d4, true_and, true_or, or_true, hf 1 (by decide), hf 3 (by decide), hfr, hfs]
  refine ⟨fun q2 => ?_, fun q2 => ?_⟩
  · have hr0 : ¬ rn = 0 := fun e => q2 (by rw [e]; rfl)
    refine ⟨_, c22, ?_⟩
    rintro r _ ⟨rfl, rfl⟩
    rw [e4x rn sn]
    have X1 := X.He (k := 4 * rn + sn) (x := 1) hw
    have f41 : ∀ i, i < 7 → zI (zwI h 42 (4 * rn + sn) 1) 41 i = f i := fun i hi => by rw [zI_oa (by decide)]; exact hf i hi
    have hg1 : (sD (oHold S (4 * rn + sn) 1) rn)[k]? = some g := hg
    obtain ⟨X2, s2⟩ := XS.dead (x := sClk S + 10) hw hr hg1 X1
    have er := (X.gd hr).row (show k < nC rn by omega)
    have ne41 : (41 : Nat) ≠ zR h (nA rn + 1) k := by have := (X.gd hr).2.2.2.2.2.1 k (by omega); have := (nA_in rn).1; omega
    have f41b : ∀ i, i < 7 → zI (zwI (zwI h 42 (4 * rn + sn) 1) (zR h (nA rn + 1) k) 4 (sClk S + 10)) 41 i = f i := fun i hi => by rw [zI_oa ne41]; exact f41 i hi
    have ckb : zI (zwI h 42 (4 * rn + sn) 1) 3 1 = sClk S := by rw [zI_oa (by decide)]; exact ck
    refine r28_90 ?_
    simp only [zK_wI, zL_wI, zR_wI, g1, g2, a1, a2, a3, a4, a5, a6, a7, a8, a9, a10, a11, a12, b1, b2, b3, b4, b5, b6, b7, b8, b9, b10, b11, t1, c1, q1, n1, ck, f1, f2, f3, f4, d1, d2, d3, d4, true_and, true_or, or_true, forall_eq, show vp_nar FieldType.boolean 1 = 1 from rfl, nI_clamp (show 4 * rn + sn < 2 ^ 31 by omega), nI_clamp (show rn < 2 ^ 31 by omega), nI_clamp (show k < 2 ^ 31 by omega), f41 1 (by decide), hfr, g5 rn hr, e1, e2, e3, e4, er, ckb, f41b 1 (by decide), f41b 3 (by decide), f41b 4 (by decide), f41b 5 (by decide)]
    refine ⟨vp_in_nI (by omega) (by omega), vp_in_nI (by omega) (by omega), vp_in_nI (by omega) (by omega), _, k71 hw X2, ?_⟩
    rintro r h3 ⟨rfl, X3, s3⟩
    refine r28_143 ⟨rfl, ?_, ((zSame.wI (by unfold xA; omega)).tr s2).tr s3⟩
    unfold oIns
    rw [hk]
    show XS h3 w (if _ then _ else _)
    rw [if_neg hr0, hg, hfr]
    exact X3
  · have hr0 : rn = 0 := (nI_eq (by omega) (by decide)).mp (show nI rn = nI 0 from q2)
    subst hr0
    refine ⟨_, k64 hw h0 X, ?_⟩
    rintro r h1 ⟨rfl, X1, s1⟩
    rw [if_pos (nI_pos' (by omega)), nI_clamp (by omega)] at X1
    have hf1 := s41 s1 hf
    obtain ⟨g1, g2, ⟨a1, a2, a3, a4, a5, a6, a7, a8, a9, a10, a11, a12⟩, ⟨b1, b2, b3, b4, b5, b6, b7, b8, b9, b10, b11⟩, g5, t1, c1, q1, n1, ck, ⟨f1, f2, f3, f4⟩, ⟨d1, d2, d3, d4⟩⟩ := X1.all
    refine r28_45 ?_
    simp only [g1, g2, a1, a2, a3, a4, a5, a6, a7, a8, a9, a10, a11, a12, b1, b2, b3, b4, b5, b6, b7, b8, b9, b10, b11, t1, c1, q1, n1, ck, f1, f2, f3, f4, d1, d2, d3, d4, true_and, true_or, or_true, hf1 0 (by decide), hf1 3 (by decide), hf1 4 (by decide), hf1 5 (by decide)]
    refine ⟨_, k71 hw X1, ?_⟩
    rintro r h2 ⟨rfl, X2, s2⟩
    refine r28_72 (r28_143 ⟨rfl, ?_, s1.tr s2⟩)
    unfold oIns
    rw [hk]
    exact X2
def oCan (S : sS) (rn sn : Nat) (f : Nat → Int32) : sS := oSend (match sFx (pFind 1 0 (f 3)) (sD S rn) 0 with
  | some k => oEndR (oHold S (4 * rn + sn) 0) rn k sn 3
  | none => oHold S (4 * rn + sn) 0) (sRow [f 1, 0, 33, f 3, 0, f 4, 0])
theorem k29 {d : Nat} {h : zH} {w rn sn : Nat} {S : sS} {f : Nat → Int32} (hw : w ≤ 4) (hr : rn ≤ w) (hs : sn < 4) (X : XS h w S) (hf : ∀ i, i < 7 → zI h 41 i = f i) (hfr : f 1 = nI rn) (hfs : f 3 = nI sn) : zD (d + 3) 29 [.inr 3, .inr 41] h (fun r h' => r = none ∧ XS h' w (oCan S rn sn f) ∧ zSame (xA w) h h') := by
  have hl := X.dl hr
  have hc := nC_le rn
  have tail : ∀ (h1 : zH) (S1 : sS) (o : Int32), XS h1 w S1 → zSame (xA w) h h1 → oCan S rn sn f = oSend S1 (sRow [f 1, 0, 33, f 3, 0, f 4, 0]) → zWp zm29 (zD (d + 2)) (fun r h' => r = none ∧ XS h' w (oCan S rn sn f) ∧ zSame (xA w) h h') 0 0 47 [some (.inr 3), some (.inr 41), some (.inl (nI rn)), some (.inl o)] [] h1 := by
    intro h1 S1 o X1 s1 e
    have hf1 := s41 s1 hf
    obtain ⟨g1, g2, ⟨a1, a2, a3, a4, a5, a6, a7, a8, a9, a10, a11, a12⟩, ⟨b1, b2, b3, b4, b5, b6, b7, b8, b9, b10, b11⟩, g5, t1, c1, q1, n1, ck, ⟨f1, f2, f3, f4⟩, ⟨d1, d2, d3, d4⟩⟩ := X1.all
    refine r29_47 ?_
    simp only [g1, g2, a1, a2, a3, a4, a5, a6, a7, a8, a9, a10, a11, a12, b1, b2, b3, b4, b5, b6, b7, b8, b9, b10, b11, t1, c1, q1, n1, ck, f1, f2, f3, f4, d1, d2, d3, d4, true_and, true_or, or_true, hf1 3 (by decide), hf1 4 (by decide)]
    refine ⟨_, k71 hw X1, ?_⟩
    rintro r h2 ⟨rfl, X2, s2⟩
    refine r29_68 ⟨rfl, ?_, s1.tr s2⟩
    rw [e, hfr]; exact X2
  obtain ⟨g1, g2, ⟨a1, a2, a3, a4, a5, a6, a7, a8, a9, a10, a11, a12⟩, ⟨b1, b2, b3, b4, b5, b6, b7, b8, b9, b10, b11⟩, g5, t1, c1, q1, n1, ck, ⟨f1, f2, f3, f4⟩, ⟨d1, d2, d3, d4⟩⟩ := X.all
  obtain ⟨e1, e2, e3, e4⟩ := X.dn hr
  refine zD_of rfl (r29_0 ?_)
  simp only [g1, g2, a1, a2, a3, a4, a5, a6, a7, a8, a9, a10, a11, a12, b1, b2, b3, b4, b5, b6, b7, b8, b9, b10, b11, t1, c1, q1, n1, ck, f1, f2, f3, f4, d1, d2, d3, d4, true_and, true_or, or_true, hf 1 (by decide), hf 3 (by decide), hfr, hfs]
  refine ⟨_, c22, ?_⟩
  rintro r _ ⟨rfl, rfl⟩
  rw [e4x rn sn]
  have X1 := X.He (k := 4 * rn + sn) (x := 0) hw
  have s1 : zSame (xA w) h (zwI h 42 (4 * rn + sn) 0) := zSame.wI (by unfold xA; omega)
  have f41 := s41 s1 hf
  refine r29_17 ?_
  simp only [zK_wI, zL_wI, zR_wI, g1, g2, a1, a2, a3, a4, a5, a6, a7, a8, a9, a10, a11, a12, b1, b2, b3, b4, b5, b6, b7, b8, b9, b10, b11, t1, c1, q1, n1, ck, f1, f2, f3, f4, d1, d2, d3, d4, true_and, true_or, or_true, forall_eq, show vp_nar FieldType.boolean 0 = 0 from rfl, nI_clamp (show 4 * rn + sn < 2 ^ 31 by omega), nI_clamp (show rn < 2 ^ 31 by omega), g5 rn hr, e1, f41 3 (by decide)]
  refine ⟨vp_in_nI (by omega) (by omega), vp_in_nI (by omega) (by omega), _, c62 (nC_le rn) (X1.gd hr) (X1.xd hr), ?_⟩
  rintro r _ ⟨rfl, rfl⟩
  refine r29_34 ⟨fun q => ?_, fun q => ?_⟩
  · have hn : sFx (pFind 1 0 (f 3)) (sD S rn) 0 = none := (sIx_neg (X1.dl2 hr)).mp q
    exact tail _ _ _ X1 s1 (by unfold oCan; rw [hn]; rfl)
  have hn : ¬ sFx (pFind 1 0 (f 3)) (sD S rn) 0 = none := fun e => q ((sIx_neg (X1.dl2 hr)).mpr e)
  obtain ⟨k, hk⟩ := Option.ne_none_iff_exists'.mp hn
  obtain ⟨g, hg, hp, -⟩ := sFx_some hk
  have hkl := lt_at hg
  have hg3 : g 3 = nI sn := by rw [← hfs]; exact (of_decide_eq_true hp).2.2
  rw [show sIx (pFind 1 0 (f 3)) (sD (stHe S (upd (sHe S) (4 * rn + sn) 0)) rn) 0 = nI k from sIx_pos hk]
  refine ⟨g1, _, k32 hw hr (S := stHe S (upd (sHe S) (4 * rn + sn) 0)) hg hs hg3 X1, ?_⟩
  rintro r h2 ⟨rfl, X2, s2⟩
  exact tail h2 _ _ X2 (s1.tr s2) (by unfold oCan; rw [hk]; rfl)
def oPro (S : sS) (rn sn : Nat) (f : Nat → Int32) : sS := if sHe S (4 * rn + sn) = 0 then oSend S (sRow [f 1, 0, 34, f 3, 0, f 4, -1]) else
  oSend (stU (stO S (sUpK (sO S) rn (sAlK (sO S) rn) (f 3))) (sUpK (sU S) rn (sAlK (sO S) rn) (sClk S + 8))) (sRow [f 1, 0, 34, f 3, 0, f 4, sAlR (sO S) rn])
theorem k30 {d : Nat} {h : zH} {w rn sn : Nat} {S : sS} {f : Nat → Int32} (hw : w ≤ 4) (hr : rn ≤ w) (hs : sn < 4) (X : XS h w S) (hf : ∀ i, i < 7 → zI h 41 i = f i) (hfr : f 1 = nI rn) (hfs : f 3 = nI sn) : zD (d + 3) 30 [.inr 3, .inr 41] h (fun r h' => r = none ∧ XS h' w (oPro S rn sn f) ∧ zSame (xA w) h h') := by
  obtain ⟨g1, g2, ⟨a1, a2, a3, a4, a5, a6, a7, a8, a9, a10, a11, a12⟩, ⟨b1, b2, b3, b4, b5, b6, b7, b8, b9, b10, b11⟩, g5, t1, c1, q1, n1, ck, ⟨f1, f2, f3, f4⟩, ⟨d1, d2, d3, d4⟩⟩ := X.all
  refine zD_of rfl (r30_0 ?_)
  simp only [g1, g2, a1, a2, a3, a4, a5, a6, a7, a8, a9, a10, a11, a12, b1, b2, b3, b4, b5, b6, b7, b8, b9, b10, b11, t1, c1, q1, n1, ck, f1, f2, f3, f4, d1, d2, d3, d4, true_and, true_or, or_true, hf 1 (by decide), hf 3 (by decide), hfr, hfs]
  refine ⟨_, c22, ?_⟩
  rintro r _ ⟨rfl, rfl⟩
  rw [e4x rn sn]
  refine r30_19 ?_
  simp only [g1, g2, a1, a2, a3, a4, a5, a6, a7, a8, a9, a10, a11, a12, b1, b2, b3, b4, b5, b6, b7, b8, b9, b10, b11, t1, c1, q1, n1, ck, f1, f2, f3, f4, d1, d2, d3, d4, true_and, true_or, or_true, nI_clamp (show 4 * rn + sn < 2 ^ 31 by omega), X.he (show 4 * rn + sn < 4 * (w + 1) by omega), hf 3 (by decide), hf 4 (by decide)]
  refine ⟨vp_in_nI (by omega) (by omega), fun q => ⟨_, k71 hw X, ?_⟩, fun q => ⟨_, k54 hw hr X, ?_⟩⟩
  · rintro r h1 ⟨rfl, X1, s1⟩
    refine r30_64 ⟨rfl, ?_, s1⟩
    unfold oPro; rw [if_pos q, hfr]; exact X1
  · rintro r h1 ⟨rfl, X1, s1⟩
    have hf1 := s41 s1 hf
    obtain ⟨g1, g2, ⟨a1, a2, a3, a4, a5, a6, a7, a8, a9, a10, a11, a12⟩, ⟨b1, b2, b3, b4, b5, b6, b7, b8, b9, b10, b11⟩, g5, t1, c1, q1, n1, ck, ⟨f1, f2, f3, f4⟩, ⟨d1, d2, d3, d4⟩⟩ := X1.all
    refine r30_42 ?_
    simp only [g1, g2, a1, a2, a3, a4, a5, a6, a7, a8, a9, a10, a11, a12, b1, b2, b3, b4, b5, b6, b7, b8, b9, b10, b11, t1, c1, q1, n1, ck, f1, f2, f3, f4, d1, d2, d3, d4, true_and, true_or, or_true, hf1 3 (by decide), hf1 4 (by decide)]
    refine ⟨_, k71 hw X1, ?_⟩
    rintro r h2 ⟨rfl, X2, s2⟩
    refine r30_64 ⟨rfl, ?_, s1.tr s2⟩
    unfold oPro; rw [if_neg q, hfr]; exact X2
/-- every open dialogue is about a subscriber -/
def okD (w : Nat) (S : sS) : Prop := ∀ v, v ≤ w → ∀ g ∈ sD S v, ∃ sn : Nat, sn < 4 ∧ g 3 = nI sn
def oLst (S : sS) (rn : Nat) (f : Nat → Int32) : sS := match sFx (pNum (f 5)) (sD S rn) 0 with
  | none => S
  | some k => match (sD S rn)[k]? with
    | none => S
    | some g => if rn = 0 then oEnd (if f 2 = 33 then stC S (sDrop (sC S) (4 * g 2 + g 3)) else if f 2 = 34 then stQ S (sSet (sQ S) (f 5) (f 6)) else S) 0 k
      else oEndR S rn k (g 3).toNatClampNeg (if f 2 = 31 then 2 else 3)
theorem k31 {d : Nat} {h : zH} {w rn : Nat} {S : sS} {f : Nat → Int32} (hw : w ≤ 4) (hr : rn ≤ w) (X : XS h w S) (ok : okD w S) (oq : okQ (sQ S)) (hf : ∀ i, i < 7 → zI h 41 i = f i) (hfr : f 1 = nI rn) : zD (d + 3) 31 [.inr 3, .inr 41] h (fun r h' => r = none ∧ XS h' w (oLst S rn f) ∧ zSame (xA w) h h') := by
  have h0 := Nat.zero_le w
  have hl := X.dl hr
  have hc := nC_le rn
  obtain ⟨g1, g2, ⟨a1, a2, a3, a4, a5, a6, a7, a8, a9, a10, a11, a12⟩, ⟨b1, b2, b3, b4, b5, b6, b7, b8, b9, b10, b11⟩, g5, t1, c1, q1, n1, ck, ⟨f1, f2, f3, f4⟩, ⟨d1, d2, d3, d4⟩⟩ := X.all
  obtain ⟨e1, e2, e3, e4⟩ := X.dn hr
  refine zD_of rfl (r31_0 ?_)
  simp only [g1, g2, a1, a2, a3, a4, a5, a6, a7, a8, a9, a10, a11, a12, b1, b2, b3, b4, b5, b6, b7, b8, b9, b10, b11, t1, c1, q1, n1, ck, f1, f2, f3, f4, d1, d2, d3, d4, true_and, true_or, or_true, hf 1 (by decide), hf 5 (by decide), hfr, nI_clamp (show rn < 2 ^ 31 by omega), g5 rn hr, e1]
  refine ⟨vp_in_nI (by omega) (by omega), _, c61 (nC_le rn) (X.gd hr) (X.xd hr), ?_⟩
  rintro r _ ⟨rfl, rfl⟩
  refine r31_16 ⟨fun q => ?_, fun q => ?_⟩
  rotate_left
  · have hn : sFx (pNum (f 5)) (sD S rn) 0 = none := (sIx_neg (X.dl2 hr)).mp q
    exact ⟨rfl, by unfold oLst; rw [hn]; exact X, zSame.rf⟩
  have hn : ¬ sFx (pNum (f 5)) (sD S rn) 0 = none := fun e => q ((sIx_neg (X.dl2 hr)).mpr e)
  obtain ⟨k, hk⟩ := Option.ne_none_iff_exists'.mp hn
  obtain ⟨g, hg, -⟩ := sFx_some hk
  have hkl := lt_at hg
  obtain ⟨sn, hsn, hg3⟩ := ok rn hr g (List.mem_of_getElem? hg)
  have eL : oLst S rn f = if rn = 0 then oEnd (if f 2 = 33 then stC S (sDrop (sC S) (4 * g 2 + g 3)) else if f 2 = 34 then stQ S (sSet (sQ S) (f 5) (f 6)) else S) 0 k else oEndR S rn k (g 3).toNatClampNeg (if f 2 = 31 then 2 else 3) := by
    unfold oLst; rw [hk]; show (match (sD S rn)[k]? with | none => S | some g => _) = _; rw [hg]
  rw [show sIx (fun f_1 => decide (f_1 0 = f 5)) (sD S rn) 0 = nI k from sIx_pos hk]
  simp only [g1, g2, a1, a2, a3, a4, a5, a6, a7, a8, a9, a10, a11, a12, b1, b2, b3, b4, b5, b6, b7, b8, b9, b10, b11, t1, c1, q1, n1, ck, f1, f2, f3, f4, d1, d2, d3, d4, true_and, true_or, or_true, hf 1 (by decide), hf 2 (by decide), hf 5 (by decide), hf 6 (by decide), hfr]
  refine ⟨fun q2 => ?_, fun q2 => ?_⟩
  · have hr0 : rn = 0 := (nI_eq (by omega) (by decide)).mp (show nI rn = nI 0 from q2)
    subst hr0
    have tail : ∀ (h1 : zH) (S1 : sS), XS h1 w S1 → zSame (xA w) h h1 → oEnd S1 0 k = oLst S 0 f → zWp zm31 (zD (d + 2)) (fun r h' => r = none ∧ XS h' w (oLst S 0 f) ∧ zSame (xA w) h h') 0 0 124 [some (.inr 3), some (.inr 41), some (.inl (nI k))] [] h1 := by
      intro h1 S1 X1 s1 e
      obtain ⟨g1, g2, ⟨a1, a2, a3, a4, a5, a6, a7, a8, a9, a10, a11, a12⟩, ⟨b1, b2, b3, b4, b5, b6, b7, b8, b9, b10, b11⟩, g5, t1, c1, q1, n1, ck, ⟨f1, f2, f3, f4⟩, ⟨d1, d2, d3, d4⟩⟩ := X1.all
      refine r31_124 ?_
      simp only [g1, g2, a1, a2, a3, a4, a5, a6, a7, a8, a9, a10, a11, a12, b1, b2, b3, b4, b5, b6, b7, b8, b9, b10, b11, t1, c1, q1, n1, ck, f1, f2, f3, f4, d1, d2, d3, d4, true_and, true_or, or_true]
      refine ⟨_, k64 hw h0 X1, ?_⟩
      rintro r h2 ⟨rfl, X2, s2⟩
      rw [if_pos (nI_pos' (by omega)), nI_clamp (by omega), e] at X2
      exact r31_132 ⟨rfl, X2, s1.tr s2⟩
    rw [if_pos rfl] at eL
    have er : zK h (zR h 48 k) = 13 := (X.gd h0).row (show k < nC 0 by omega)
    have ex2 : zI h (zR h 48 k) 2 = g 2 := (X.xd h0).2.2 k g hg 2 (by decide)
    have ex3 : zI h (zR h 48 k) 3 = g 3 := (X.xd h0).2.2 k g hg 3 (by decide)
    have hk4 : k < 4 := by rw [show nC 0 = 4 from rfl] at hl; omega
    refine ⟨fun q3 => ⟨fun q4 => ?_, fun q4 => ?_⟩, fun q3 => ?_⟩
    · exact tail h S X zSame.rf (by rw [eL, if_neg q3, if_neg q4])
    · refine ⟨_, k50 hw X oq, ?_⟩
      rintro r h1 ⟨rfl, X1, s1⟩
      exact tail h1 _ X1 s1 (by rw [eL, if_neg q3, if_pos q4])
    · simp only [nI_clamp (show k < 2 ^ 31 by omega), er, ex2, ex3, true_and]
      refine ⟨vp_in_nI hk4 (by decide), vp_in_nI hk4 (by decide), _, c22, ?_⟩
      rintro r _ ⟨rfl, rfl⟩
      refine r31_94 ⟨c1, _, k46 hw X, ?_⟩
      rintro r h1 ⟨rfl, X1, s1⟩
      exact r31_97 (tail h1 _ X1 s1 (by rw [eL, if_pos q3]))
  · have hr0 : ¬ rn = 0 := fun e => q2 (by rw [e]; rfl)
    rw [if_neg hr0, hg3, nI_clamp (by omega)] at eL
    refine ⟨fun q3 => ⟨_, k32 hw hr hg hsn hg3 X, ?_⟩, fun q3 => ⟨_, k32 hw hr hg hsn hg3 X, ?_⟩⟩
    · rintro r h1 ⟨rfl, X1, s1⟩
      exact r31_53 ⟨rfl, by rw [eL, if_neg q3]; exact X1, s1⟩
    · rintro r h1 ⟨rfl, X1, s1⟩
      exact r31_53 ⟨rfl, by rw [eL, if_pos q3]; exact X1, s1⟩
end
section
/-! ===== the public calls ===== -/
def xB (w : Nat) : Nat → Prop := fun q => 3 ≤ q ∧ q < 54 + 4 * w
theorem xAB {w : Nat} {h h' : zH} (s : zSame (xA w) h h') : zSame (xB w) h h' := s.wd (fun q hq => ⟨hq.1, hq.2.2⟩)
def oRecv (S : sS) (f : Nat → Int32) : sS := if f 2 = 11 then oUpd S (f 3).toNatClampNeg f else if f 2 = 13 then oCan S (f 1).toNatClampNeg (f 3).toNatClampNeg f else if f 2 = 14 then oPro S (f 1).toNatClampNeg (f 3).toNatClampNeg f else if f 2 = 22 then oIns S (f 1).toNatClampNeg (f 3).toNatClampNeg f else oLst S (f 1).toNatClampNeg f
theorem t11 {x : Int32} {n : Nat} (hn : n < 2 ^ 31) : x.toInt = (n : Int) ↔ x = nI n := ⟨i32_of hn, fun e => by rw [e, nI_toInt hn]⟩
theorem k23 {d : Nat} {h : zH} {w rn sn : Nat} {S : sS} {f : Nat → Int32} (hw : w ≤ 4) (hr : rn ≤ w) (hs : sn < 4) (X : XS h w S) (ok : okD w S) (oq : okQ (sQ S)) (hf : ∀ i, i < 7 → zI h 41 i = f i) (hfr : f 1 = nI rn) (hfs : f 3 = nI sn) : zD (d + 6) 23 [.inr 3, .inr 41] h (fun r h' => r = none ∧ XS h' w (oRecv S f) ∧ zSame (xA w) h h') := by
  have er : (f 1).toNatClampNeg = rn := by rw [hfr, nI_clamp (by omega)]
  have es : (f 3).toNatClampNeg = sn := by rw [hfs, nI_clamp (by omega)]
  have eR : oRecv S f = if f 2 = 11 then oUpd S sn f else if f 2 = 13 then oCan S rn sn f else if f 2 = 14 then oPro S rn sn f else if f 2 = 22 then oIns S rn sn f else oLst S rn f := by unfold oRecv; rw [er, es]
  rw [eR]
  obtain ⟨g1, g2, ⟨a1, a2, a3, a4, a5, a6, a7, a8, a9, a10, a11, a12⟩, ⟨b1, b2, b3, b4, b5, b6, b7, b8, b9, b10, b11⟩, g5, t1, c1, q1, n1, ck, ⟨f1, f2, f3, f4⟩, ⟨d1, d2, d3, d4⟩⟩ := X.all
  refine zD_of rfl (r23_0 ?_)
  simp only [g1, g2, a1, a2, a3, a4, a5, a6, a7, a8, a9, a10, a11, a12, b1, b2, b3, b4, b5, b6, b7, b8, b9, b10, b11, t1, c1, q1, n1, ck, f1, f2, f3, f4, d1, d2, d3, d4, true_and, true_or, or_true, hf 2 (by decide)]
  have n11 : (f 2).toInt = 11 ↔ f 2 = 11 := t11 (n := 11) (by decide)
  have n13 : (f 2).toInt = 13 ↔ f 2 = 13 := t11 (n := 13) (by decide)
  have n14 : (f 2).toInt = 14 ↔ f 2 = 14 := t11 (n := 14) (by decide)
  have n22 : (f 2).toInt = 22 ↔ f 2 = 22 := t11 (n := 22) (by decide)
  simp only [n11, n13, n14, n22]
  refine ⟨fun q => ⟨_, k24 hw hs X hf hfs, ?_⟩, fun q => ⟨fun q2 => ⟨_, k29 hw hr hs X hf hfr hfs, ?_⟩, fun q2 => ⟨fun q3 => ⟨_, k30 hw hr hs X hf hfr hfs, ?_⟩, fun q3 => ⟨fun q4 => ⟨_, k28 hw hr hs X hf hfr hfs, ?_⟩, fun q4 => ⟨_, k31 hw hr X ok oq hf hfr, ?_⟩⟩⟩⟩⟩
  · rintro r h1 ⟨rfl, X1, s1⟩
    exact r23_53 (r23_85 ⟨rfl, by rw [if_pos q]; exact X1, s1⟩)
  · rintro r h1 ⟨rfl, X1, s1⟩
    exact r23_61 (r23_85 ⟨rfl, by rw [if_neg q, if_pos q2]; exact X1, s1⟩)
  · rintro r h1 ⟨rfl, X1, s1⟩
    exact r23_69 (r23_85 ⟨rfl, by rw [if_neg q, if_neg q2, if_pos q3]; exact X1, s1⟩)
  · rintro r h1 ⟨rfl, X1, s1⟩
    exact r23_77 (r23_85 ⟨rfl, by rw [if_neg q, if_neg q2, if_neg q3, if_pos q4]; exact X1, s1⟩)
  · rintro r h1 ⟨rfl, X1, s1⟩
    exact r23_85 ⟨rfl, by rw [if_neg q, if_neg q2, if_neg q3, if_neg q4]; exact X1, s1⟩
theorem XS.fl {h : zH} {w : Nat} {S : sS} (X : XS h w S) : (sF S).length ≤ 24 := X.xf.1
/-- which place of a list an int is, and what stands there -/
def lx {α : Type} (L : List α) (i : Int32) : Option (Nat × α) := match ix L.length i with
  | some k => (L[k]?).map (fun x => (k, x))
  | none => none
theorem lx_some {α : Type} {L : List α} {i : Int32} {k : Nat} {x : α} (h : lx L i = some (k, x)) : i = nI k ∧ L[k]? = some x := by
  unfold lx at h
  cases hi : ix L.length i with
  | none => rw [hi] at h; cases h
  | some j =>
    rw [hi] at h
    obtain ⟨hj, e⟩ := ix_some hi
    obtain ⟨y, hy⟩ := at_lt hj
    have h : (L[j]?).map (fun x => (j, x)) = some (k, x) := h
    rw [hy] at h
    cases h
    exact ⟨e, hy⟩
theorem lx_none {α : Type} {L : List α} {i : Int32} (h : lx L i = none) : ix L.length i = none := by
  unfold lx at h
  cases hi : ix L.length i with
  | none => rfl
  | some j =>
    rw [hi] at h
    obtain ⟨hj, e⟩ := ix_some hi
    obtain ⟨y, hy⟩ := at_lt hj
    have h : (L[j]?).map (fun x => (j, x)) = none := h
    rw [hy] at h
    cases h
theorem lx_nI {α : Type} {L : List α} {k : Nat} {x : α} (hl : L.length ≤ 2 ^ 31) (h : L[k]? = some x) : lx L (nI k) = some (k, x) := by
  unfold lx
  rw [ix_nI hl (lt_at h)]
  show (L[k]?).map _ = _
  rw [h]; rfl
theorem c69x {d : Nat} {h : zH} {F : List (Nat → Int32)} {i : Int32} (g : gW h 15 19 18 17 24) (x : xW h 15 24 7 F) : zD (d + 1) 69 [.inr 15, .inl i] h (fun v h' => v = some (.inl (if (lx F i).isSome then 1 else 0)) ∧ h = h') := by
  refine zD.mono ?_ (c69 g x)
  rintro v h' ⟨rfl, e⟩
  refine ⟨?_, e⟩
  congr 2
  have hl := x.1
  cases hx : lx F i with
  | none =>
    have hn := lx_none hx
    rw [if_neg (fun z => ?_)]; rfl
    obtain ⟨n, hn2, rfl⟩ := nI_of (by rw [Int32.not_lt]; exact z.1)
    rw [nI_clamp hn2] at z
    exact ix_none (by omega) hn z.2 rfl
  | some p =>
    obtain ⟨k, y⟩ := p
    obtain ⟨rfl, hy⟩ := lx_some hx
    have := lt_at hy
    rw [if_pos ⟨nI_pos' (by omega), by rw [nI_clamp (by omega)]; exact this⟩]; rfl
def oDeliver (S : sS) (i : Int32) : Int32 × sS := match lx (sF S) i with
  | some (k, f) => (f 2, oRecv (stF S ((sF S).eraseIdx k)) f)
  | none => (-9, S)
/-- every datagram has a receiver and is about a subscriber -/
def okF (w : Nat) (S : sS) : Prop := ∀ f ∈ sF S, (∃ rn : Nat, rn ≤ w ∧ f 1 = nI rn) ∧ ∃ sn : Nat, sn < 4 ∧ f 3 = nI sn
theorem k6 {d : Nat} {h : zH} {w : Nat} {S : sS} {i : Int32} (hw : w ≤ 4) (X : XS h w S) (ok : okD w S) (oq : okQ (sQ S)) (of : okF w S) : zD (d + 7) 6 [.inr 3, .inl i] h (fun r h' => r = some (.inl (oDeliver S i).1) ∧ XS h' w (oDeliver S i).2 ∧ zSame (xB w) h h') := by
  have hl := X.fl
  obtain ⟨g1, g2, ⟨a1, a2, a3, a4, a5, a6, a7, a8, a9, a10, a11, a12⟩, ⟨b1, b2, b3, b4, b5, b6, b7, b8, b9, b10, b11⟩, g5, t1, c1, q1, n1, ck, ⟨f1, f2, f3, f4⟩, ⟨d1, d2, d3, d4⟩⟩ := X.all
  refine zD_of rfl (r6_0 ?_)
  simp only [g1, g2, a1, a2, a3, a4, a5, a6, a7, a8, a9, a10, a11, a12, b1, b2, b3, b4, b5, b6, b7, b8, b9, b10, b11, t1, c1, q1, n1, ck, f1, f2, f3, f4, d1, d2, d3, d4, true_and, true_or, or_true]
  refine ⟨_, c69x X.gf X.xf, ?_⟩
  rintro r _ ⟨rfl, rfl⟩
  refine r6_8 ⟨fun q => ?_, fun q => ?_⟩
  rotate_left
  · have hn := is0 q
    unfold oDeliver; rw [hn]
    exact ⟨rfl, X, zSame.rf⟩
  obtain ⟨⟨k, f⟩, hx⟩ := is1 q
  obtain ⟨rfl, hf⟩ := lx_some hx
  have hk := lt_at hf
  have er : zK h (zR h 16 k) = 17 := X.gf.row (show k < 24 by omega)
  have ein := X.gf.2.2.2.2.2.1 k (by omega)
  have ein2 : 17 ≤ zR h 16 k ∧ zR h 16 k < 41 := ein
  have ne41 : zR h 16 k ≠ 41 := by omega
  have exf : ∀ j, j < 7 → zI h (zR h 16 k) j = f j := X.xf.2.2 k f hf
  unfold oDeliver; rw [hx]
  simp only [g1, g2, a1, a2, a3, a4, a5, a6, a7, a8, a9, a10, a11, a12, b1, b2, b3, b4, b5, b6, b7, b8, b9, b10, b11, t1, c1, q1, n1, ck, f1, f2, f3, f4, d1, d2, d3, d4, true_and, true_or, or_true, nI_clamp (show k < 2 ^ 31 by omega)]
  refine ⟨vp_in_nI (by omega) (by omega), _, c66 b9 er ne41, ?_⟩
  rintro r h1 ⟨rfl, y1, y2, y3, s1⟩
  have X1 := X.arr hw s1
  have hf1 : ∀ j, j < 7 → zI h1 41 j = f j := fun j hj => (y1 j hj).trans (exf j hj)
  obtain ⟨g1, g2, ⟨a1, a2, a3, a4, a5, a6, a7, a8, a9, a10, a11, a12⟩, ⟨b1, b2, b3, b4, b5, b6, b7, b8, b9, b10, b11⟩, g5, t1, c1, q1, n1, ck, ⟨f1, f2, f3, f4⟩, ⟨d1, d2, d3, d4⟩⟩ := X1.all
  refine r6_30 ?_
  simp only [g1, g2, a1, a2, a3, a4, a5, a6, a7, a8, a9, a10, a11, a12, b1, b2, b3, b4, b5, b6, b7, b8, b9, b10, b11, t1, c1, q1, n1, ck, f1, f2, f3, f4, d1, d2, d3, d4, true_and, true_or, or_true]
  refine ⟨_, k73 hw X1 hk, ?_⟩
  rintro r h2 ⟨rfl, X2, s2⟩
  have hf2 : ∀ j, j < 7 → zI h2 41 j = f j := fun j hj => (s2.2.2.2 41 (by omega) j).1.trans (hf1 j hj)
  obtain ⟨⟨rn, hr, hfr⟩, sn, hs, hfs⟩ := of f (List.mem_of_getElem? hf)
  obtain ⟨g1, g2, ⟨a1, a2, a3, a4, a5, a6, a7, a8, a9, a10, a11, a12⟩, ⟨b1, b2, b3, b4, b5, b6, b7, b8, b9, b10, b11⟩, g5, t1, c1, q1, n1, ck, ⟨f1, f2, f3, f4⟩, ⟨d1, d2, d3, d4⟩⟩ := X2.all
  refine r6_38 ?_
  simp only [g1, g2, a1, a2, a3, a4, a5, a6, a7, a8, a9, a10, a11, a12, b1, b2, b3, b4, b5, b6, b7, b8, b9, b10, b11, t1, c1, q1, n1, ck, f1, f2, f3, f4, d1, d2, d3, d4, true_and, true_or, or_true]
  refine ⟨_, k23 hw hr hs X2 ok oq hf2 hfr hfs, ?_⟩
  rintro r h3 ⟨rfl, X3, s3⟩
  have hf3 := s41 s3 hf2
  obtain ⟨g1, g2, ⟨a1, a2, a3, a4, a5, a6, a7, a8, a9, a10, a11, a12⟩, ⟨b1, b2, b3, b4, b5, b6, b7, b8, b9, b10, b11⟩, g5, t1, c1, q1, n1, ck, ⟨f1, f2, f3, f4⟩, ⟨d1, d2, d3, d4⟩⟩ := X3.all
  refine r6_46 ?_
  simp only [g1, g2, a1, a2, a3, a4, a5, a6, a7, a8, a9, a10, a11, a12, b1, b2, b3, b4, b5, b6, b7, b8, b9, b10, b11, t1, c1, q1, n1, ck, f1, f2, f3, f4, d1, d2, d3, d4, true_and, true_or, or_true, hf3 2 (by decide)]
  exact ⟨X3, ((s1.wd (fun q hq => by subst hq; unfold xB; omega)).tr (s2.wd (fun q hq => by unfold xB; omega))).tr (xAB s3)⟩
def oLose (S : sS) (i : Int32) : Int32 × sS := match lx (sF S) i with
  | some (k, _) => (1, stF S ((sF S).eraseIdx k))
  | none => (0, S)
theorem k7 {d : Nat} {h : zH} {w : Nat} {S : sS} {i : Int32} (hw : w ≤ 4) (X : XS h w S) : zD (d + 2) 7 [.inr 3, .inl i] h (fun r h' => r = some (.inl (oLose S i).1) ∧ XS h' w (oLose S i).2 ∧ zSame (xB w) h h') := by
  obtain ⟨g1, g2, ⟨a1, a2, a3, a4, a5, a6, a7, a8, a9, a10, a11, a12⟩, ⟨b1, b2, b3, b4, b5, b6, b7, b8, b9, b10, b11⟩, g5, t1, c1, q1, n1, ck, ⟨f1, f2, f3, f4⟩, ⟨d1, d2, d3, d4⟩⟩ := X.all
  refine zD_of rfl (r7_0 ?_)
  simp only [g1, g2, a1, a2, a3, a4, a5, a6, a7, a8, a9, a10, a11, a12, b1, b2, b3, b4, b5, b6, b7, b8, b9, b10, b11, t1, c1, q1, n1, ck, f1, f2, f3, f4, d1, d2, d3, d4, true_and, true_or, or_true]
  refine ⟨_, c69x X.gf X.xf, ?_⟩
  rintro r _ ⟨rfl, rfl⟩
  refine r7_8 ⟨fun q => ?_, fun q => ?_⟩
  rotate_left
  · unfold oLose; rw [is0 q]; exact ⟨Or.inl rfl, rfl, X, zSame.rf⟩
  obtain ⟨⟨k, f⟩, hx⟩ := is1 q
  obtain ⟨rfl, hf⟩ := lx_some hx
  unfold oLose; rw [hx]
  simp only [g1, g2, a1, a2, a3, a4, a5, a6, a7, a8, a9, a10, a11, a12, b1, b2, b3, b4, b5, b6, b7, b8, b9, b10, b11, t1, c1, q1, n1, ck, f1, f2, f3, f4, d1, d2, d3, d4, true_and, true_or, or_true]
  refine ⟨_, k73 hw X (lt_at hf), ?_⟩
  rintro r h2 ⟨rfl, X2, s2⟩
  exact r7_21 ⟨Or.inr rfl, rfl, X2, s2.wd (fun q hq => by unfold xB; omega)⟩
def oCopy (S : sS) (i : Int32) : Int32 × sS := match lx (sF S) i with
  | some (_, f) => if (sF S).length = 24 then (0, S) else (1, stF S (sF S ++ [f]))
  | none => (0, S)
theorem k8 {d : Nat} {h : zH} {w : Nat} {S : sS} {i : Int32} (hw : w ≤ 4) (X : XS h w S) : zD (d + 3) 8 [.inr 3, .inl i] h (fun r h' => r = some (.inl (oCopy S i).1) ∧ XS h' w (oCopy S i).2 ∧ zSame (xB w) h h') := by
  have hl := X.fl
  obtain ⟨g1, g2, ⟨a1, a2, a3, a4, a5, a6, a7, a8, a9, a10, a11, a12⟩, ⟨b1, b2, b3, b4, b5, b6, b7, b8, b9, b10, b11⟩, g5, t1, c1, q1, n1, ck, ⟨f1, f2, f3, f4⟩, ⟨d1, d2, d3, d4⟩⟩ := X.all
  refine zD_of rfl (r8_0 ?_)
  simp only [g1, g2, a1, a2, a3, a4, a5, a6, a7, a8, a9, a10, a11, a12, b1, b2, b3, b4, b5, b6, b7, b8, b9, b10, b11, t1, c1, q1, n1, ck, f1, f2, f3, f4, d1, d2, d3, d4, true_and, true_or, or_true]
  refine ⟨_, c69x X.gf X.xf, ?_⟩
  rintro r _ ⟨rfl, rfl⟩
  refine r8_8 ⟨fun q => ?_, fun q => ?_⟩
  · unfold oCopy; rw [is0 q]; exact ⟨Or.inl rfl, rfl, X, zSame.rf⟩
  obtain ⟨⟨k, f⟩, hx⟩ := is1 q
  obtain ⟨rfl, hf⟩ := lx_some hx
  unfold oCopy; rw [hx]
  simp only [g1, g2, a1, a2, a3, a4, a5, a6, a7, a8, a9, a10, a11, a12, b1, b2, b3, b4, b5, b6, b7, b8, b9, b10, b11, t1, c1, q1, n1, ck, f1, f2, f3, f4, d1, d2, d3, d4, true_and, true_or, or_true]
  refine ⟨_, c70 X.gf X.xf, ?_⟩
  rintro r _ ⟨rfl, rfl⟩
  refine r8_18 ⟨fun q => ?_, fun q => ?_⟩
  · have h24 : ¬ (sF S).length = 24 := fun e => by rw [if_pos e] at q; exact absurd q (by decide)
    rw [if_neg h24]
    simp only [g1, g2, a1, a2, a3, a4, a5, a6, a7, a8, a9, a10, a11, a12, b1, b2, b3, b4, b5, b6, b7, b8, b9, b10, b11, t1, c1, q1, n1, ck, f1, f2, f3, f4, d1, d2, d3, d4, true_and, true_or, or_true]
    refine ⟨_, k72 hw X hf (by omega), ?_⟩
    rintro r h2 ⟨rfl, X2, s2⟩
    exact r8_31 ⟨Or.inr rfl, rfl, X2, xAB s2⟩
  · have h24 : (sF S).length = 24 := Classical.byContradiction fun e => q (by rw [if_neg e])
    rw [if_pos h24]
    exact ⟨Or.inl rfl, rfl, X, zSame.rf⟩
theorem k9 {d : Nat} {h : zH} {w : Nat} {S : sS} (X : XS h w S) : zD (d + 1) 9 [.inr 3] h (fun r h' => r = some (.inl (nI (sF S).length)) ∧ XS h' w S ∧ zSame (xB w) h h') := by
  obtain ⟨g1, g2, ⟨a1, a2, a3, a4, a5, a6, a7, a8, a9, a10, a11, a12⟩, ⟨b1, b2, b3, b4, b5, b6, b7, b8, b9, b10, b11⟩, g5, t1, c1, q1, n1, ck, ⟨f1, f2, f3, f4⟩, ⟨d1, d2, d3, d4⟩⟩ := X.all
  refine zD_of rfl (r9_0 ?_)
  simp only [g1, g2, a1, a2, a3, a4, a5, a6, a7, a8, a9, a10, a11, a12, b1, b2, b3, b4, b5, b6, b7, b8, b9, b10, b11, t1, c1, q1, n1, ck, f1, f2, f3, f4, d1, d2, d3, d4, true_and, true_or, or_true, X.xf.2.1]
  exact ⟨X, zSame.rf⟩
def oDgram (S : sS) (i j : Int32) : Int32 := match lx (sF S) i with
  | some (_, f) => sPart f j
  | none => -9
theorem sPart_eq {f g : Nat → Int32} {j : Int32} (h : ∀ i, i < 7 → f i = g i) : sPart f j = sPart g j := by
  unfold sPart; rw [h 0 (by decide), h 1 (by decide), h 2 (by decide), h 3 (by decide), h 4 (by decide), h 5 (by decide), h 6 (by decide)]
theorem k10 {d : Nat} {h : zH} {w : Nat} {S : sS} {i j : Int32} (X : XS h w S) : zD (d + 2) 10 [.inr 3, .inl i, .inl j] h (fun r h' => r = some (.inl (oDgram S i j)) ∧ XS h' w S ∧ zSame (xB w) h h') := by
  have hl := X.fl
  obtain ⟨g1, g2, ⟨a1, a2, a3, a4, a5, a6, a7, a8, a9, a10, a11, a12⟩, ⟨b1, b2, b3, b4, b5, b6, b7, b8, b9, b10, b11⟩, g5, t1, c1, q1, n1, ck, ⟨f1, f2, f3, f4⟩, ⟨d1, d2, d3, d4⟩⟩ := X.all
  refine zD_of rfl (r10_0 ?_)
  simp only [g1, g2, a1, a2, a3, a4, a5, a6, a7, a8, a9, a10, a11, a12, b1, b2, b3, b4, b5, b6, b7, b8, b9, b10, b11, t1, c1, q1, n1, ck, f1, f2, f3, f4, d1, d2, d3, d4, true_and, true_or, or_true]
  refine ⟨_, c69x X.gf X.xf, ?_⟩
  rintro r _ ⟨rfl, rfl⟩
  refine r10_8 ⟨fun q => ?_, fun q => ?_⟩
  · unfold oDgram; rw [is0 q]; exact ⟨rfl, X, zSame.rf⟩
  obtain ⟨⟨k, f⟩, hx⟩ := is1 q
  obtain ⟨rfl, hf⟩ := lx_some hx
  have hk := lt_at hf
  have er : zK h (zR h 16 k) = 17 := X.gf.row (show k < 24 by omega)
  have exf : ∀ j, j < 7 → zI h (zR h 16 k) j = f j := X.xf.2.2 k f hf
  unfold oDgram; rw [hx]
  simp only [g1, g2, a1, a2, a3, a4, a5, a6, a7, a8, a9, a10, a11, a12, b1, b2, b3, b4, b5, b6, b7, b8, b9, b10, b11, t1, c1, q1, n1, ck, f1, f2, f3, f4, d1, d2, d3, d4, true_and, true_or, or_true, nI_clamp (show k < 2 ^ 31 by omega), er]
  refine ⟨vp_in_nI (by omega) (by omega), _, c67 er, ?_⟩
  rintro r _ ⟨rfl, rfl⟩
  exact r10_24 ⟨by rw [sPart_eq exf], X, zSame.rf⟩
def oHolds (w : Nat) (S : sS) (v s : Int32) : Int32 := match iv w v, ix 4 s with
  | some a, some b => if sHe S (4 * a + b) = 0 then 0 else 1
  | _, _ => 0
theorem k12 {d : Nat} {h : zH} {w : Nat} {S : sS} {v s : Int32} (hw : w ≤ 4) (X : XS h w S) : zD (d + 2) 12 [.inr 3, .inl v, .inl s] h (fun r h' => r = some (.inl (oHolds w S v s)) ∧ XS h' w S ∧ zSame (xB w) h h') := by
  obtain ⟨g1, g2, ⟨a1, a2, a3, a4, a5, a6, a7, a8, a9, a10, a11, a12⟩, ⟨b1, b2, b3, b4, b5, b6, b7, b8, b9, b10, b11⟩, g5, t1, c1, q1, n1, ck, ⟨f1, f2, f3, f4⟩, ⟨d1, d2, d3, d4⟩⟩ := X.all
  refine zD_of rfl (r12_0 ⟨g1, _, c20 hw X, ?_⟩)
  rintro r _ ⟨rfl, rfl⟩
  refine r12_5 ⟨fun q => ?_, fun q => ⟨_, c21, ?_⟩⟩
  · unfold oHolds; rw [is0 q]; exact ⟨Or.inl rfl, rfl, X, zSame.rf⟩
  obtain ⟨a, ha⟩ := is1 q
  obtain ⟨a1', a2', rfl⟩ := iv_some ha
  rintro r _ ⟨rfl, rfl⟩
  refine r12_12 ⟨fun q => ?_, fun q => ?_⟩
  · unfold oHolds; rw [ha, is0 q]; exact ⟨Or.inl rfl, rfl, X, zSame.rf⟩
  obtain ⟨b, hb⟩ := is1 q
  obtain ⟨hb4, rfl⟩ := ix_some hb
  simp only [g1, g2, a1, a2, a3, a4, a5, a6, a7, a8, a9, a10, a11, a12, b1, b2, b3, b4, b5, b6, b7, b8, b9, b10, b11, t1, c1, q1, n1, ck, f1, f2, f3, f4, d1, d2, d3, d4, true_and, true_or, or_true]
  refine ⟨_, c22, ?_⟩
  rintro r _ ⟨rfl, rfl⟩
  rw [e4x a b]
  refine r12_24 ?_
  simp only [g1, g2, a1, a2, a3, a4, a5, a6, a7, a8, a9, a10, a11, a12, b1, b2, b3, b4, b5, b6, b7, b8, b9, b10, b11, t1, c1, q1, n1, ck, f1, f2, f3, f4, d1, d2, d3, d4, true_and, true_or, or_true, nI_clamp (show 4 * a + b < 2 ^ 31 by omega), X.he (show 4 * a + b < 4 * (w + 1) by omega)]
  unfold oHolds; rw [ha, hb]
  exact ⟨vp_in_nI (by omega) (by omega), fun q => ⟨by show _ = some (Sum.inl (if _ then _ else _)); rw [if_pos q], X, zSame.rf⟩, fun q => ⟨by show _ = some (Sum.inl (if _ then _ else _)); rw [if_neg q], X, zSame.rf⟩⟩
def oLoc (S : sS) (s : Int32) : Int32 := match ix 4 s with
  | some b => sLo S b
  | none => -9
theorem k13 {d : Nat} {h : zH} {w : Nat} {S : sS} {s : Int32} (X : XS h w S) : zD (d + 2) 13 [.inr 3, .inl s] h (fun r h' => r = some (.inl (oLoc S s)) ∧ XS h' w S ∧ zSame (xB w) h h') := by
  obtain ⟨g1, g2, ⟨a1, a2, a3, a4, a5, a6, a7, a8, a9, a10, a11, a12⟩, ⟨b1, b2, b3, b4, b5, b6, b7, b8, b9, b10, b11⟩, g5, t1, c1, q1, n1, ck, ⟨f1, f2, f3, f4⟩, ⟨d1, d2, d3, d4⟩⟩ := X.all
  refine zD_of rfl (r13_0 ⟨_, c21, ?_⟩)
  rintro r _ ⟨rfl, rfl⟩
  refine r13_4 ⟨fun q => ?_, fun q => ?_⟩
  · unfold oLoc; rw [is0 q]; exact ⟨rfl, X, zSame.rf⟩
  obtain ⟨b, hb⟩ := is1 q
  obtain ⟨hb4, rfl⟩ := ix_some hb
  unfold oLoc; rw [hb]
  simp only [g1, g2, a1, a2, a3, a4, a5, a6, a7, a8, a9, a10, a11, a12, b1, b2, b3, b4, b5, b6, b7, b8, b9, b10, b11, t1, c1, q1, n1, ck, f1, f2, f3, f4, d1, d2, d3, d4, true_and, true_or, or_true, nI_clamp (show b < 2 ^ 31 by omega), X.lo hb4]
  exact ⟨vp_in_nI (by omega) (by omega), X, zSame.rf⟩
def oReg (w : Nat) (S : sS) (v s : Int32) : Int32 := match iv w v, ix 4 s with
  | some a, some b => sSt S (4 * a + b)
  | _, _ => -9
theorem k14 {d : Nat} {h : zH} {w : Nat} {S : sS} {v s : Int32} (hw : w ≤ 4) (X : XS h w S) : zD (d + 2) 14 [.inr 3, .inl v, .inl s] h (fun r h' => r = some (.inl (oReg w S v s)) ∧ XS h' w S ∧ zSame (xB w) h h') := by
  obtain ⟨g1, g2, ⟨a1, a2, a3, a4, a5, a6, a7, a8, a9, a10, a11, a12⟩, ⟨b1, b2, b3, b4, b5, b6, b7, b8, b9, b10, b11⟩, g5, t1, c1, q1, n1, ck, ⟨f1, f2, f3, f4⟩, ⟨d1, d2, d3, d4⟩⟩ := X.all
  refine zD_of rfl (r14_0 ⟨g1, _, c20 hw X, ?_⟩)
  rintro r _ ⟨rfl, rfl⟩
  refine r14_5 ⟨fun q => ?_, fun q => ⟨_, c21, ?_⟩⟩
  · unfold oReg; rw [is0 q]; exact ⟨rfl, X, zSame.rf⟩
  obtain ⟨a, ha⟩ := is1 q
  obtain ⟨a1', a2', rfl⟩ := iv_some ha
  rintro r _ ⟨rfl, rfl⟩
  refine r14_12 ⟨fun q => ?_, fun q => ?_⟩
  · unfold oReg; rw [ha, is0 q]; exact ⟨rfl, X, zSame.rf⟩
  obtain ⟨b, hb⟩ := is1 q
  obtain ⟨hb4, rfl⟩ := ix_some hb
  simp only [g1, g2, a1, a2, a3, a4, a5, a6, a7, a8, a9, a10, a11, a12, b1, b2, b3, b4, b5, b6, b7, b8, b9, b10, b11, t1, c1, q1, n1, ck, f1, f2, f3, f4, d1, d2, d3, d4, true_and, true_or, or_true]
  refine ⟨_, c22, ?_⟩
  rintro r _ ⟨rfl, rfl⟩
  rw [e4x a b]
  refine r14_24 ?_
  simp only [g1, g2, a1, a2, a3, a4, a5, a6, a7, a8, a9, a10, a11, a12, b1, b2, b3, b4, b5, b6, b7, b8, b9, b10, b11, t1, c1, q1, n1, ck, f1, f2, f3, f4, d1, d2, d3, d4, true_and, true_or, or_true, nI_clamp (show 4 * a + b < 2 ^ 31 by omega), X.st (show 4 * a + b < 4 * (w + 1) by omega)]
  unfold oReg; rw [ha, hb]
  exact ⟨vp_in_nI (by omega) (by omega), rfl, X, zSame.rf⟩
def oDlgs (w : Nat) (S : sS) (v : Int32) : Int32 := match ix (w + 1) v with
  | some a => nI (sD S a).length
  | none => -9
theorem k15 {d : Nat} {h : zH} {w : Nat} {S : sS} {v : Int32} (hw : w ≤ 4) (X : XS h w S) : zD (d + 2) 15 [.inr 3, .inl v] h (fun r h' => r = some (.inl (oDlgs w S v)) ∧ XS h' w S ∧ zSame (xB w) h h') := by
  obtain ⟨g1, g2, ⟨a1, a2, a3, a4, a5, a6, a7, a8, a9, a10, a11, a12⟩, ⟨b1, b2, b3, b4, b5, b6, b7, b8, b9, b10, b11⟩, g5, t1, c1, q1, n1, ck, ⟨f1, f2, f3, f4⟩, ⟨d1, d2, d3, d4⟩⟩ := X.all
  refine zD_of rfl (r15_0 ⟨g1, _, c19 hw X, ?_⟩)
  rintro r _ ⟨rfl, rfl⟩
  refine r15_5 ⟨fun q => ?_, fun q => ?_⟩
  · unfold oDlgs; rw [is0 q]; exact ⟨rfl, X, zSame.rf⟩
  obtain ⟨a, ha⟩ := is1 q
  obtain ⟨ha1, rfl⟩ := ix_some ha
  unfold oDlgs; rw [ha]
  simp only [g1, g2, a1, a2, a3, a4, a5, a6, a7, a8, a9, a10, a11, a12, b1, b2, b3, b4, b5, b6, b7, b8, b9, b10, b11, t1, c1, q1, n1, ck, f1, f2, f3, f4, d1, d2, d3, d4, true_and, true_or, or_true, nI_clamp (show a < 2 ^ 31 by omega), g5 a (by omega), (X.dn (show a ≤ w by omega)).1, (X.xd (show a ≤ w by omega)).2.1]
  exact ⟨vp_in_nI (by omega) (by omega), X, zSame.rf⟩
def oDlg (w : Nat) (S : sS) (v k : Int32) : Int32 := match ix (w + 1) v with
  | some a => match lx (sD S a) k with
    | some (_, g) => g 0
    | none => -9
  | none => -9
theorem k16 {d : Nat} {h : zH} {w : Nat} {S : sS} {v k : Int32} (hw : w ≤ 4) (X : XS h w S) : zD (d + 2) 16 [.inr 3, .inl v, .inl k] h (fun r h' => r = some (.inl (oDlg w S v k)) ∧ XS h' w S ∧ zSame (xB w) h h') := by
  obtain ⟨g1, g2, ⟨a1, a2, a3, a4, a5, a6, a7, a8, a9, a10, a11, a12⟩, ⟨b1, b2, b3, b4, b5, b6, b7, b8, b9, b10, b11⟩, g5, t1, c1, q1, n1, ck, ⟨f1, f2, f3, f4⟩, ⟨d1, d2, d3, d4⟩⟩ := X.all
  refine zD_of rfl (r16_0 ⟨g1, _, c19 hw X, ?_⟩)
  rintro r _ ⟨rfl, rfl⟩
  refine r16_5 ⟨fun q => ?_, fun q => ?_⟩
  · unfold oDlg; rw [is0 q]; exact ⟨rfl, X, zSame.rf⟩
  obtain ⟨a, ha⟩ := is1 q
  obtain ⟨ha1, rfl⟩ := ix_some ha
  have haw : a ≤ w := by omega
  have hl := X.dl haw
  have hc := nC_le a
  unfold oDlg; rw [ha]
  refine ⟨fun q2 => ?_, fun q2 => ?_⟩
  · show some _ = some (Sum.inl (match lx (sD S a) k with | some (_, g) => g 0 | none => -9)) ∧ _
    unfold lx; rw [ix_neg q2]; exact ⟨rfl, X, zSame.rf⟩
  obtain ⟨n, hn, rfl⟩ := nI_of q2
  obtain ⟨e1, e2, e3, e4⟩ := X.dn haw
  simp only [g1, g2, a1, a2, a3, a4, a5, a6, a7, a8, a9, a10, a11, a12, b1, b2, b3, b4, b5, b6, b7, b8, b9, b10, b11, t1, c1, q1, n1, ck, f1, f2, f3, f4, d1, d2, d3, d4, true_and, true_or, or_true, nI_clamp (show a < 2 ^ 31 by omega), nI_clamp hn, g5 a haw, e1, e2, e3, e4, (X.xd haw).2.1, nI_ltI hn (show (sD S a).length < 2 ^ 31 by omega)]
  refine ⟨vp_in_nI (by omega) (by omega), fun q3 => ⟨vp_in_nI (by omega) (by omega), vp_in_nI (by omega) (by omega), (X.gd haw).row (by omega), ?_, X, zSame.rf⟩, fun q3 => ⟨?_, X, zSame.rf⟩⟩
  · obtain ⟨g, hg⟩ := at_lt q3
    rw [lx_nI (by omega) hg, (X.xd haw).2.2 n g hg 0 (by decide)]
  · have : lx (sD S a) (nI n) = none := by unfold lx; rw [ix_ge (by omega) hn]
    rw [this]
def oCanc (S : sS) (k : Int32) : Int32 := match lx (sC S) k with
  | some (_, c) => c
  | none => -1
theorem k17 {d : Nat} {h : zH} {w : Nat} {S : sS} {k : Int32} (X : XS h w S) : zD (d + 2) 17 [.inr 3, .inl k] h (fun r h' => r = some (.inl (oCanc S k)) ∧ XS h' w S ∧ zSame (xB w) h h') := by
  obtain ⟨g1, g2, ⟨a1, a2, a3, a4, a5, a6, a7, a8, a9, a10, a11, a12⟩, ⟨b1, b2, b3, b4, b5, b6, b7, b8, b9, b10, b11⟩, g5, t1, c1, q1, n1, ck, ⟨f1, f2, f3, f4⟩, ⟨d1, d2, d3, d4⟩⟩ := X.all
  refine zD_of rfl (r17_0 ?_)
  simp only [g1, g2, a1, a2, a3, a4, a5, a6, a7, a8, a9, a10, a11, a12, b1, b2, b3, b4, b5, b6, b7, b8, b9, b10, b11, t1, c1, q1, n1, ck, f1, f2, f3, f4, d1, d2, d3, d4, true_and, true_or, or_true]
  refine ⟨_, c44 X.2.2.1 X.xc, ?_⟩
  rintro r _ ⟨rfl, rfl⟩
  refine r17_8 ⟨?_, X, zSame.rf⟩
  congr 2
  have hl := X.xc.1
  unfold oCanc
  by_cases q : 0 ≤ k
  · obtain ⟨n, hn, rfl⟩ := nI_of (by rw [Int32.not_lt]; exact q)
    rw [if_pos q, nI_clamp hn]
    by_cases hc : n < (sC S).length
    · obtain ⟨c, hcc⟩ := at_lt hc
      rw [lx_nI (by omega) hcc, hcc]; rfl
    · have : lx (sC S) (nI n) = none := by unfold lx; rw [ix_ge (by omega) hn]
      rw [this, List.getElem?_eq_none (by omega)]; rfl
  · rw [if_neg q]
    have : lx (sC S) k = none := by unfold lx; rw [ix_neg (by rw [← Int32.not_le]; exact q)]
    rw [this]
def oCall (w : Nat) (S : sS) (r : Int32) : Int32 × sS := match iv w (r / 100), ix 2 (r - r / 100 * 100) with
  | some a, some b => (sO S (2 * a + b), stU (stO S (upd (sO S) (2 * a + b) (-1))) (sU S))
  | _, _ => (-9, S)
theorem k18 {d : Nat} {h : zH} {w : Nat} {S : sS} {r : Int32} (hw : w ≤ 4) (X : XS h w S) : zD (d + 2) 18 [.inr 3, .inl r] h (fun v h' => v = some (.inl (oCall w S r).1) ∧ XS h' w (oCall w S r).2 ∧ zSame (xB w) h h') := by
  obtain ⟨g1, g2, ⟨a1, a2, a3, a4, a5, a6, a7, a8, a9, a10, a11, a12⟩, ⟨b1, b2, b3, b4, b5, b6, b7, b8, b9, b10, b11⟩, g5, t1, c1, q1, n1, ck, ⟨f1, f2, f3, f4⟩, ⟨d1, d2, d3, d4⟩⟩ := X.all
  refine zD_of rfl (r18_0 ⟨by decide, by decide, g1, _, c20 hw X, ?_⟩)
  rintro v _ ⟨rfl, rfl⟩
  refine r18_15 ⟨fun q => ?_, fun q => ?_⟩
  · unfold oCall; rw [is0 q]; exact ⟨rfl, X, zSame.rf⟩
  obtain ⟨a, ha⟩ := is1 q
  obtain ⟨a1', a2', e⟩ := iv_some ha
  unfold oCall; rw [ha]
  refine ⟨fun q2 => ?_, fun q2 => ?_⟩
  · rw [ix_neg q2]; exact ⟨rfl, X, zSame.rf⟩
  obtain ⟨b, hb, e2⟩ := nI_of q2
  rw [e2, e]
  refine ⟨fun q3 => ?_, fun q3 => ?_⟩
  · have hb2 : b < 2 := (nI_ltI hb (by decide)).mp (show nI b < nI 2 from q3)
    rw [ix_nI (by decide) hb2]
    simp only [g1, g2, a1, a2, a3, a4, a5, a6, a7, a8, a9, a10, a11, a12, b1, b2, b3, b4, b5, b6, b7, b8, b9, b10, b11, t1, c1, q1, n1, ck, f1, f2, f3, f4, d1, d2, d3, d4, true_and, true_or, or_true]
    refine ⟨_, k55 hw (by omega) hb2 X, ?_⟩
    rintro v h1 ⟨rfl, X1, s1⟩
    exact r18_39 ⟨rfl, X1, xAB s1⟩
  · have hb2 : ¬ b < 2 := fun z => q3 (show nI b < nI 2 from (nI_ltI hb (by decide)).mpr z)
    rw [ix_ge (by omega) hb]
    exact ⟨rfl, X, zSame.rf⟩
end
section
/-! ===== the public calls: digits, title, appear, ask, answer, tick ===== -/
def oDigits (S : sS) (s n : Int32) : Int32 × sS := match ix 4 s, ix 100000 n with
  | some a, some _ => (1, stDg S (upd (sDg S) a n))
  | _, _ => (0, S)
theorem k1 {d : Nat} {h : zH} {w : Nat} {S : sS} {s n : Int32} (hw : w ≤ 4) (X : XS h w S) : zD (d + 2) 1 [.inr 3, .inl s, .inl n] h (fun r h' => r = some (.inl (oDigits S s n).1) ∧ XS h' w (oDigits S s n).2 ∧ zSame (xB w) h h') := by
  obtain ⟨g1, g2, ⟨a1, a2, a3, a4, a5, a6, a7, a8, a9, a10, a11, a12⟩, ⟨b1, b2, b3, b4, b5, b6, b7, b8, b9, b10, b11⟩, g5, t1, c1, q1, n1, ck, ⟨f1, f2, f3, f4⟩, ⟨d1, d2, d3, d4⟩⟩ := X.all
  obtain ⟨p1, p2, p3⟩ := X.2.2.2.2.2.1
  refine zD_of rfl (r1_0 ⟨_, c21, ?_⟩)
  rintro r _ ⟨rfl, rfl⟩
  refine r1_4 ⟨fun q => ?_, fun q => ?_⟩
  · unfold oDigits; rw [is0 q]; exact ⟨Or.inl rfl, rfl, X, zSame.rf⟩
  obtain ⟨a, ha⟩ := is1 q
  obtain ⟨ha4, rfl⟩ := ix_some ha
  unfold oDigits; rw [ha]
  refine ⟨fun q2 => ?_, fun q2 => ?_⟩
  · rw [ix_neg q2]; exact ⟨Or.inl rfl, rfl, X, zSame.rf⟩
  obtain ⟨m, hm, rfl⟩ := nI_of q2
  have h5 : zI h 2 (5 : Int32).toNatClampNeg = nI 100000 := p3 5 (by decide)
  simp only [g1, g2, a1, a2, a3, a4, a5, a6, a7, a8, a9, a10, a11, a12, b1, b2, b3, b4, b5, b6, b7, b8, b9, b10, b11, t1, c1, q1, n1, ck, f1, f2, f3, f4, d1, d2, d3, d4, true_and, true_or, or_true, p1, p2, h5, forall_eq, nI_clamp (show a < 2 ^ 31 by omega), nI_ltI hm (show 100000 < 2 ^ 31 by decide)]
  refine ⟨vp_in_nI (n := 5) (by decide) (by decide), fun q3 => ?_, fun q3 => ?_⟩
  · rw [ix_nI (by decide) q3]
    exact ⟨vp_in_nI (by omega) (by omega), rfl, X.Dg hw, zSame.wI (by unfold xB; omega)⟩
  · rw [ix_ge (by omega) hm]
    exact ⟨rfl, X, zSame.rf⟩
def oTitle (S : sS) (f c y : Int32) : Int32 × sS := match ix 6 c with
  | none => (0, S)
  | some n => match ix (10 ^ n) f with
    | none => (0, S)
    | some _ => (sPutR (sT S) (sRow [f, c, y]), stT S (sPut (sT S) (sRow [f, c, y])))
theorem sPutR01 {T : List (Nat → Int32)} {f : Nat → Int32} : sPutR T f = 0 ∨ sPutR T f = 1 := by
  unfold sPutR; split
  · exact Or.inr rfl
  · split
    · exact Or.inl rfl
    · exact Or.inr rfl
theorem k2 {d : Nat} {h : zH} {w : Nat} {S : sS} {f c y : Int32} (hw : w ≤ 4) (hy : y = 0 ∨ y = 1) (X : XS h w S) : zD (d + 3) 2 [.inr 3, .inl f, .inl c, .inl y] h (fun r h' => r = some (.inl (oTitle S f c y).1) ∧ XS h' w (oTitle S f c y).2 ∧ zSame (xB w) h h') := by
  obtain ⟨g1, g2, ⟨a1, a2, a3, a4, a5, a6, a7, a8, a9, a10, a11, a12⟩, ⟨b1, b2, b3, b4, b5, b6, b7, b8, b9, b10, b11⟩, g5, t1, c1, q1, n1, ck, ⟨f1, f2, f3, f4⟩, ⟨d1, d2, d3, d4⟩⟩ := X.all
  obtain ⟨p1, p2, p3⟩ := X.2.2.2.2.2.1
  refine zD_of rfl (r2_0 ⟨fun q => ?_, fun q => ?_⟩)
  · have e : oTitle S f c y = (0, S) := by unfold oTitle; rw [ix_neg q]
    rw [e]; exact ⟨Or.inl rfl, rfl, X, zSame.rf⟩
  obtain ⟨n, hn, rfl⟩ := nI_of q
  refine ⟨fun q2 => ?_, fun q2 => ?_⟩
  · have q2 : 5 < n := (nI_ltI (by decide) hn).mp (show nI 5 < nI n from q2)
    have e : oTitle S f (nI n) y = (0, S) := by unfold oTitle; rw [ix_ge (by omega) hn]
    rw [e]; exact ⟨Or.inl rfl, rfl, X, zSame.rf⟩
  have q2 : n < 6 := by
    have : ¬ 5 < n := fun z => q2 (show nI 5 < nI n from (nI_ltI (by decide) hn).mpr z)
    omega
  have eT : oTitle S f (nI n) y = match ix (10 ^ n) f with
      | none => (0, S)
      | some _ => (sPutR (sT S) (sRow [f, nI n, y]), stT S (sPut (sT S) (sRow [f, nI n, y]))) := by
    unfold oTitle; rw [ix_nI (by decide) q2]
  rw [eT]
  refine ⟨fun q3 => ?_, fun q3 => ?_⟩
  · rw [ix_neg q3]; exact ⟨Or.inl rfl, rfl, X, zSame.rf⟩
  obtain ⟨m, hm, rfl⟩ := nI_of q3
  have hp : 10 ^ n < 2 ^ 31 := Nat.lt_of_le_of_lt (Nat.pow_le_pow_right (by decide) (show n ≤ 5 by omega)) (by decide)
  simp only [g1, g2, a1, a2, a3, a4, a5, a6, a7, a8, a9, a10, a11, a12, b1, b2, b3, b4, b5, b6, b7, b8, b9, b10, b11, t1, c1, q1, n1, ck, f1, f2, f3, f4, d1, d2, d3, d4, true_and, true_or, or_true, p1, p2, nI_clamp (show n < 2 ^ 31 by omega), p3 n q2, nI_ltI hm hp]
  refine ⟨vp_in_nI q2 (by decide), fun q4 => ?_, fun q4 => ?_⟩
  · rw [ix_nI (by omega) q4]
    refine ⟨_, k38 hw hy X, ?_⟩
    rintro r h1 ⟨rfl, X1, s1⟩
    exact r2_34 ⟨sPutR01, rfl, X1, xAB s1⟩
  · rw [ix_ge (by omega) hm]
    exact ⟨rfl, X, zSame.rf⟩
def oAppear (w : Nat) (S : sS) (v s : Int32) : Int32 × sS := match iv w v, ix 4 s with
  | some a, some b => if (sD S a).length = 2 ∨ (sFx (pFind 1 0 s) (sD S a) 0).isSome then (-8, S) else if sReach (sDg S b) (sT S) (-1) 0 = 0 then (-7, S) else
    (sL S a + 1, oSend (oStand (oBegin S a 1 0 s (sClk S + 10) 0) (4 * a + b) 1) (sRow [v, 0, 11, s, sL S a + 1, 0, 0]))
  | _, _ => (-9, S)
theorem k3 {d : Nat} {h : zH} {w : Nat} {S : sS} {v s : Int32} (hw : w ≤ 4) (X : XS h w S) (ot : okT (sT S)) : zD (d + 3) 3 [.inr 3, .inl v, .inl s] h (fun r h' => r = some (.inl (oAppear w S v s).1) ∧ XS h' w (oAppear w S v s).2 ∧ zSame (xB w) h h') := by
  obtain ⟨g1, g2, ⟨a1, a2, a3, a4, a5, a6, a7, a8, a9, a10, a11, a12⟩, ⟨b1, b2, b3, b4, b5, b6, b7, b8, b9, b10, b11⟩, g5, t1, c1, q1, n1, ck, ⟨f1, f2, f3, f4⟩, ⟨d1, d2, d3, d4⟩⟩ := X.all
  refine zD_of rfl (r3_0 ⟨g1, _, c20 hw X, ?_⟩)
  rintro r _ ⟨rfl, rfl⟩
  refine r3_5 ⟨fun q => ?_, fun q => ⟨_, c21, ?_⟩⟩
  · unfold oAppear; rw [is0 q]; exact ⟨rfl, X, zSame.rf⟩
  obtain ⟨a, ha⟩ := is1 q
  obtain ⟨ha1, haw, rfl⟩ := iv_some ha
  rintro r _ ⟨rfl, rfl⟩
  refine r3_12 ⟨fun q => ?_, fun q => ?_⟩
  rotate_left
  · unfold oAppear; rw [ha, is0 q]; exact ⟨rfl, X, zSame.rf⟩
  obtain ⟨b, hb⟩ := is1 q
  obtain ⟨hb4, rfl⟩ := ix_some hb
  obtain ⟨e1, e2, e3, e4⟩ := X.dn haw
  have hl := X.dl haw
  have hc2 := nC_pos ha1
  unfold oAppear; rw [ha, hb]
  show (_ ∧ _ ∧ _ ∧ _ ∧ ∃ Q, _)
  simp only [g1, g2, a1, a2, a3, a4, a5, a6, a7, a8, a9, a10, a11, a12, b1, b2, b3, b4, b5, b6, b7, b8, b9, b10, b11, t1, c1, q1, n1, ck, f1, f2, f3, f4, d1, d2, d3, d4, true_and, true_or, or_true, nI_clamp (show a < 2 ^ 31 by omega), g5 a haw, e1]
  refine ⟨vp_in_nI (by omega) (by omega), _, c59 (nC_le a) (X.gd haw) (X.xd haw), ?_⟩
  rintro r _ ⟨rfl, rfl⟩
  rw [hc2]
  refine r3_29 ⟨fun q => ?_, fun q => ?_⟩
  · have h2 : (sD S a).length = 2 := Classical.byContradiction fun e => q (by rw [if_neg e])
    rw [if_pos (Or.inl h2)]
    exact ⟨rfl, X, zSame.rf⟩
  have h2 : ¬ (sD S a).length = 2 := fun e => by rw [if_pos e] at q; exact absurd q (by decide)
  refine ⟨e1, _, c62 (nC_le a) (X.gd haw) (X.xd haw), ?_⟩
  rintro r _ ⟨rfl, rfl⟩
  refine r3_39 ⟨fun q => ?_, fun q => ?_⟩
  rotate_left
  · have hn : ¬ sFx (pFind 1 0 (nI b)) (sD S a) 0 = none := fun e => q ((sIx_neg (X.dl2 haw)).mpr e)
    obtain ⟨k, hk⟩ := Option.ne_none_iff_exists'.mp hn
    rw [if_pos (Or.inr (by rw [hk]; rfl))]
    exact ⟨rfl, X, zSame.rf⟩
  have hn : sFx (pFind 1 0 (nI b)) (sD S a) 0 = none := (sIx_neg (X.dl2 haw)).mp q
  rw [if_neg (fun z => z.elim h2 (fun z => by rw [hn] at z; cases z))]
  simp only [g1, g2, a1, a2, a3, a4, a5, a6, a7, a8, a9, a10, a11, a12, b1, b2, b3, b4, b5, b6, b7, b8, b9, b10, b11, t1, c1, q1, n1, ck, f1, f2, f3, f4, d1, d2, d3, d4, true_and, true_or, or_true, nI_clamp (show b < 2 ^ 31 by omega), X.dg hb4]
  refine ⟨vp_in_nI (by omega) (by omega), _, c40 X.2.1 X.2.2.2.2.2.1 X.xt ot, ?_⟩
  rintro r _ ⟨rfl, rfl⟩
  refine r3_59 ⟨fun q => ?_, fun q => ?_⟩
  rotate_left
  · rw [if_pos q]; exact ⟨rfl, X, zSame.rf⟩
  rw [if_neg q]
  simp only [g1, g2, a1, a2, a3, a4, a5, a6, a7, a8, a9, a10, a11, a12, b1, b2, b3, b4, b5, b6, b7, b8, b9, b10, b11, t1, c1, q1, n1, ck, f1, f2, f3, f4, d1, d2, d3, d4, true_and, true_or, or_true, e1]
  refine ⟨_, k60 hw haw X (by rw [hc2]; omega), ?_⟩
  rintro r h1 ⟨rfl, X1, s1⟩
  obtain ⟨g1, g2, ⟨a1, a2, a3, a4, a5, a6, a7, a8, a9, a10, a11, a12⟩, ⟨b1, b2, b3, b4, b5, b6, b7, b8, b9, b10, b11⟩, g5, t1, c1, q1, n1, ck, ⟨f1, f2, f3, f4⟩, ⟨d1, d2, d3, d4⟩⟩ := X1.all
  refine r3_80 ⟨g1, _, c22, ?_⟩
  rintro r _ ⟨rfl, rfl⟩
  rw [e4x a b]
  have X2 := X1.St (k := 4 * a + b) (x := 1) hw
  refine r3_91 ?_
  simp only [zK_wI, zL_wI, zR_wI, g1, g2, a1, a2, a3, a4, a5, a6, a7, a8, a9, a10, a11, a12, b1, b2, b3, b4, b5, b6, b7, b8, b9, b10, b11, t1, c1, q1, n1, ck, f1, f2, f3, f4, d1, d2, d3, d4, true_and, true_or, or_true, forall_eq, nI_clamp (show 4 * a + b < 2 ^ 31 by omega)]
  refine ⟨vp_in_nI (by omega) (by omega), _, k71 hw X2, ?_⟩
  rintro r h3 ⟨rfl, X3, s3⟩
  exact r3_109 ⟨rfl, X3, xAB ((s1.tr (zSame.wI (by unfold xA; omega))).tr s3)⟩
def oAsk (S : sS) (s : Int32) : Int32 × sS := match ix 4 s with
  | none => (-9, S)
  | some b => if sLo S b = 0 then (-7, S) else if (sD S 0).length = 4 then (-8, S) else
    (sL S 0 + 1, oSend (stQ (oBegin S 0 4 (sLo S b) s (sClk S + 6) 0) (sQ S ++ [(sL S 0 + 1, -6)])) (sRow [0, sLo S b, 14, s, sL S 0 + 1, 0, 0]))
theorem k4 {d : Nat} {h : zH} {w : Nat} {S : sS} {s : Int32} (hw : w ≤ 4) (X : XS h w S) : zD (d + 3) 4 [.inr 3, .inl s] h (fun r h' => r = some (.inl (oAsk S s).1) ∧ XS h' w (oAsk S s).2 ∧ zSame (xB w) h h') := by
  have h0 := Nat.zero_le w
  have hl : (sD S 0).length ≤ 4 := X.dl h0
  obtain ⟨g1, g2, ⟨a1, a2, a3, a4, a5, a6, a7, a8, a9, a10, a11, a12⟩, ⟨b1, b2, b3, b4, b5, b6, b7, b8, b9, b10, b11⟩, g5, t1, c1, q1, n1, ck, ⟨f1, f2, f3, f4⟩, ⟨d1, d2, d3, d4⟩⟩ := X.all
  refine zD_of rfl (r4_0 ⟨_, c21, ?_⟩)
  rintro r _ ⟨rfl, rfl⟩
  refine r4_4 ⟨fun q => ?_, fun q => ?_⟩
  rotate_left
  · unfold oAsk; rw [is0 q]; exact ⟨rfl, X, zSame.rf⟩
  obtain ⟨b, hb⟩ := is1 q
  obtain ⟨hb4, rfl⟩ := ix_some hb
  unfold oAsk; rw [hb]
  simp only [g1, g2, a1, a2, a3, a4, a5, a6, a7, a8, a9, a10, a11, a12, b1, b2, b3, b4, b5, b6, b7, b8, b9, b10, b11, t1, c1, q1, n1, ck, f1, f2, f3, f4, d1, d2, d3, d4, true_and, true_or, or_true, nI_clamp (show b < 2 ^ 31 by omega), X.lo hb4]
  refine ⟨vp_in_nI (by omega) (by omega), fun q => ?_, fun q => ?_⟩
  rotate_left
  · rw [if_pos q]; exact ⟨rfl, X, zSame.rf⟩
  rw [if_neg q]
  refine ⟨_, c59 (nC_le 0) (X.gd h0) (X.xd h0), ?_⟩
  rintro r _ ⟨rfl, rfl⟩
  refine r4_31 ⟨fun q2 => ?_, fun q2 => ?_⟩
  rotate_left
  · have h4 : (sD S 0).length = 4 := Classical.byContradiction fun e => q2 (by rw [show nC 0 = 4 from rfl, if_neg e])
    rw [if_pos h4]; exact ⟨rfl, X, zSame.rf⟩
  have h4 : ¬ (sD S 0).length = 4 := fun e => by rw [show nC 0 = 4 from rfl, if_pos e] at q2; exact absurd q2 (by decide)
  rw [if_neg h4]
  simp only [g1, g2, a1, a2, a3, a4, a5, a6, a7, a8, a9, a10, a11, a12, b1, b2, b3, b4, b5, b6, b7, b8, b9, b10, b11, t1, c1, q1, n1, ck, f1, f2, f3, f4, d1, d2, d3, d4, true_and, true_or, or_true]
  refine ⟨_, k60 hw h0 X (by rw [show nC 0 = 4 from rfl]; omega), ?_⟩
  rintro r h1 ⟨rfl, X1, s1⟩
  obtain ⟨g1, g2, ⟨a1, a2, a3, a4, a5, a6, a7, a8, a9, a10, a11, a12⟩, ⟨b1, b2, b3, b4, b5, b6, b7, b8, b9, b10, b11⟩, g5, t1, c1, q1, n1, ck, ⟨f1, f2, f3, f4⟩, ⟨d1, d2, d3, d4⟩⟩ := X1.all
  refine r4_55 ?_
  simp only [g1, g2, a1, a2, a3, a4, a5, a6, a7, a8, a9, a10, a11, a12, b1, b2, b3, b4, b5, b6, b7, b8, b9, b10, b11, t1, c1, q1, n1, ck, f1, f2, f3, f4, d1, d2, d3, d4, true_and, true_or, or_true]
  refine ⟨_, k49 hw X1, ?_⟩
  rintro r h2 ⟨rfl, X2, s2⟩
  obtain ⟨g1, g2, ⟨a1, a2, a3, a4, a5, a6, a7, a8, a9, a10, a11, a12⟩, ⟨b1, b2, b3, b4, b5, b6, b7, b8, b9, b10, b11⟩, g5, t1, c1, q1, n1, ck, ⟨f1, f2, f3, f4⟩, ⟨d1, d2, d3, d4⟩⟩ := X2.all
  refine r4_64 ?_
  simp only [g1, g2, a1, a2, a3, a4, a5, a6, a7, a8, a9, a10, a11, a12, b1, b2, b3, b4, b5, b6, b7, b8, b9, b10, b11, t1, c1, q1, n1, ck, f1, f2, f3, f4, d1, d2, d3, d4, true_and, true_or, or_true]
  refine ⟨_, k71 hw X2, ?_⟩
  rintro r h3 ⟨rfl, X3, s3⟩
  exact r4_79 ⟨rfl, X3, xAB ((s1.tr s2).tr s3)⟩
theorem k5 {d : Nat} {h : zH} {w : Nat} {S : sS} {n : Int32} (X : XS h w S) (oq : okQ (sQ S)) : zD (d + 3) 5 [.inr 3, .inl n] h (fun r h' => (∃ x, r = some (.inl x) ∧ pAns (sQ S) n x) ∧ XS h' w S ∧ zSame (xB w) h h') := by
  obtain ⟨g1, g2, ⟨a1, a2, a3, a4, a5, a6, a7, a8, a9, a10, a11, a12⟩, ⟨b1, b2, b3, b4, b5, b6, b7, b8, b9, b10, b11⟩, g5, t1, c1, q1, n1, ck, ⟨f1, f2, f3, f4⟩, ⟨d1, d2, d3, d4⟩⟩ := X.all
  refine zD_of rfl (r5_0 ?_)
  simp only [g1, g2, a1, a2, a3, a4, a5, a6, a7, a8, a9, a10, a11, a12, b1, b2, b3, b4, b5, b6, b7, b8, b9, b10, b11, t1, c1, q1, n1, ck, f1, f2, f3, f4, d1, d2, d3, d4, true_and, true_or, or_true]
  refine ⟨_, c51 X.2.2.2.1 X.xq oq, ?_⟩
  rintro r _ ⟨⟨x, rfl, hx⟩, rfl⟩
  exact r5_8 ⟨⟨x, rfl, hx⟩, X, zSame.rf⟩
/-! a tick -/
def oGvA (S : sS) (g : Nat → Int32) : sS := if g 1 = 2 then oSend S (sRow [0, g 2, 40, 0, g 0, g 5, 0]) else if g 1 = 4 then stQ S (sSet (sQ S) (g 0) (-3)) else S
def oGive (S : sS) (v k : Nat) (g : Nat → Int32) : sS := if v = 0 then oEnd (oGvA S g) 0 k else oEndR S v k (g 3).toNatClampNeg 3
theorem k35 {d : Nat} {h : zH} {w v k : Nat} {S : sS} {g : Nat → Int32} (hw : w ≤ 4) (hv : v ≤ w) (X : XS h w S) (ok : okD w S) (oq : okQ (sQ S)) (hg : (sD S v)[k]? = some g) : zD (d + 3) 35 [.inr 3, .inl (nI v), .inl (nI k)] h (fun r h' => r = none ∧ XS h' w (oGive S v k g) ∧ zSame (xA w) h h') := by
  have h0 := Nat.zero_le w
  have hl := X.dl hv
  have hc := nC_le v
  have hkl := lt_at hg
  obtain ⟨g1, g2, ⟨a1, a2, a3, a4, a5, a6, a7, a8, a9, a10, a11, a12⟩, ⟨b1, b2, b3, b4, b5, b6, b7, b8, b9, b10, b11⟩, g5, t1, c1, q1, n1, ck, ⟨f1, f2, f3, f4⟩, ⟨d1, d2, d3, d4⟩⟩ := X.all
  refine zD_of rfl (r35_0 ⟨fun q => ?_, fun q => ?_⟩)
  rotate_left
  · have hv0 : ¬ v = 0 := fun e => q (by rw [e]; rfl)
    obtain ⟨sn, hsn, hg3⟩ := ok v hv g (List.mem_of_getElem? hg)
    refine ⟨g1, _, k32 hw hv hg hsn hg3 X, ?_⟩
    rintro r h1 ⟨rfl, X1, s1⟩
    refine r35_11 ⟨rfl, ?_, s1⟩
    unfold oGive; rw [if_neg hv0, hg3, nI_clamp (by omega)]; exact X1
  have hv0 : v = 0 := (nI_eq (by omega) (by decide)).mp (show nI v = nI 0 from q)
  subst hv0
  have tail : ∀ (h1 : zH) (o : Nat), XS h1 w (oGvA S g) → zSame (xA w) h h1 → zWp zm35 (zD (d + 2)) (fun r h' => r = none ∧ XS h' w (oGive S 0 k g) ∧ zSame (xA w) h h') 0 0 78 [some (.inr 3), some (.inl (nI 0)), some (.inl (nI k)), some (.inr o)] [] h1 := by
    intro h1 o X1 s1
    obtain ⟨g1, g2, ⟨a1, a2, a3, a4, a5, a6, a7, a8, a9, a10, a11, a12⟩, ⟨b1, b2, b3, b4, b5, b6, b7, b8, b9, b10, b11⟩, g5, t1, c1, q1, n1, ck, ⟨f1, f2, f3, f4⟩, ⟨d1, d2, d3, d4⟩⟩ := X1.all
    refine r35_78 ?_
    simp only [g1, g2, a1, a2, a3, a4, a5, a6, a7, a8, a9, a10, a11, a12, b1, b2, b3, b4, b5, b6, b7, b8, b9, b10, b11, t1, c1, q1, n1, ck, f1, f2, f3, f4, d1, d2, d3, d4, true_and, true_or, or_true]
    refine ⟨_, k64 hw h0 X1, ?_⟩
    rintro r h2 ⟨rfl, X2, s2⟩
    rw [if_pos (nI_pos' (by omega)), nI_clamp (by omega)] at X2
    exact r35_86 ⟨rfl, by unfold oGive; rw [if_pos rfl]; exact X2, s1.tr s2⟩
  have er : zK h (zR h 48 k) = 13 := (X.gd h0).row (show k < nC 0 by omega)
  have ex : ∀ i, i < 6 → zI h (zR h 48 k) i = g i := (X.xd h0).2.2 k g hg
  have hk4 : k < 4 := by rw [show nC 0 = 4 from rfl] at hl; omega
  simp only [g1, g2, a1, a2, a3, a4, a5, a6, a7, a8, a9, a10, a11, a12, b1, b2, b3, b4, b5, b6, b7, b8, b9, b10, b11, t1, c1, q1, n1, ck, f1, f2, f3, f4, d1, d2, d3, d4, true_and, true_or, or_true, nI_clamp (show k < 2 ^ 31 by omega), er, ex 0 (by decide), ex 1 (by decide), ex 2 (by decide), ex 5 (by decide)]
  refine ⟨vp_in_nI hk4 (by decide), fun q2 => ⟨fun q3 => ?_, fun q3 => ⟨_, k50 hw X oq, ?_⟩⟩, fun q2 => ⟨_, k71 hw X, ?_⟩⟩
  · exact tail h _ (by unfold oGvA; rw [if_neg q2, if_neg q3]; exact X) zSame.rf
  · rintro r h1 ⟨rfl, X1, s1⟩
    exact tail h1 _ (by unfold oGvA; rw [if_neg q2, if_pos q3]; exact X1) s1
  · rintro r h1 ⟨rfl, X1, s1⟩
    exact r35_54 (tail h1 _ (by unfold oGvA; rw [if_pos q2]; exact X1) s1)
theorem updD_at {f : Nat → List (Nat → Int32)} {k : Nat} {x : List (Nat → Int32)} : updD f k x k = x := by unfold updD; rw [if_pos rfl]
theorem updD_ne {f : Nat → List (Nat → Int32)} {k j : Nat} {x : List (Nat → Int32)} (e : j ≠ k) : updD f k x j = f j := by unfold updD; rw [if_neg e]
theorem oGvA_D {S : sS} {g : Nat → Int32} : sD (oGvA S g) = sD S ∧ sClk (oGvA S g) = sClk S := by
  unfold oGvA; split
  · exact ⟨rfl, rfl⟩
  · split <;> exact ⟨rfl, rfl⟩
theorem oGive_D {S : sS} {v k : Nat} {g : Nat → Int32} : sD (oGive S v k g) = updD (sD S) v ((sD S v).eraseIdx k) ∧ sClk (oGive S v k g) = sClk S := by
  unfold oGive; split
  · rename_i e; subst e
    have := oGvA_D (S := S) (g := g)
    refine ⟨?_, this.2⟩
    show updD (sD (oGvA S g)) 0 ((sD (oGvA S g) 0).eraseIdx k) = _
    rw [this.1]
  · exact ⟨rfl, rfl⟩
theorem okQ_set {Q : List (Int32 × Int32)} {n u : Int32} (oq : okQ Q) : okQ (sSet Q n u) := by
  refine ⟨fun q hq => ?_, fun i j p q hp hq e => ?_⟩
  · obtain ⟨x, hx, rfl⟩ := List.mem_map.mp hq
    have := oq.1 x hx
    split
    · exact this
    · exact this
  · obtain ⟨p', hp', rfl⟩ := sSet_at hp
    obtain ⟨q', hq', rfl⟩ := sSet_at hq
    refine oq.2 i j p' q' hp' hq' ?_
    have a1 : (if p'.1 = n then (p'.1, u) else p').1 = p'.1 := by split <;> rfl
    have a2 : (if q'.1 = n then (q'.1, u) else q').1 = q'.1 := by split <;> rfl
    rw [a1, a2] at e; exact e
theorem oGive_Q {S : sS} {v k : Nat} {g : Nat → Int32} (oq : okQ (sQ S)) : okQ (sQ (oGive S v k g)) := by
  have h1 : okQ (sQ (oGvA S g)) := by
    unfold oGvA; split
    · exact oq
    · split
      · exact okQ_set oq
      · exact oq
  unfold oGive; split
  · exact h1
  · exact oq
theorem okD_er {w v k : Nat} {S S' : sS} (e : sD S' = updD (sD S) v ((sD S v).eraseIdx k)) (ok : okD w S) : okD w S' := by
  intro u hu g hg
  rw [e] at hg
  by_cases eq : u = v
  · subst eq
    rw [updD_at] at hg
    exact ok u hu g (List.mem_of_mem_eraseIdx hg)
  · rw [updD_ne eq] at hg; exact ok u hu g hg
def oDue (v : Nat) : Nat → Nat → sS → sS
  | 0, _, S => S
  | n + 1, k, S => match (sD S v)[k]? with
    | some g => if g 4 = sClk S then oDue v n k (oGive S v k g) else oDue v n (k + 1) S
    | none => S
theorem k34 {d : Nat} {h : zH} {w v : Nat} {S : sS} (hw : w ≤ 4) (hv : v ≤ w) (X : XS h w S) (ok : okD w S) (oq : okQ (sQ S)) : zD (d + 4) 34 [.inr 3, .inl (nI v)] h (fun r h' => r = none ∧ XS h' w (oDue v (sD S v).length 0 S) ∧ zSame (xA w) h h') := by
  have hl := X.dl hv
  have hc := nC_le v
  obtain ⟨g1, g2, ⟨a1, a2, a3, a4, a5, a6, a7, a8, a9, a10, a11, a12⟩, ⟨b1, b2, b3, b4, b5, b6, b7, b8, b9, b10, b11⟩, g5, t1, c1, q1, n1, ck, ⟨f1, f2, f3, f4⟩, ⟨d1, d2, d3, d4⟩⟩ := X.all
  obtain ⟨e1, e2, e3, e4⟩ := X.dn hv
  refine zD_of rfl (r34_0 ?_)
  simp only [g1, g2, a1, a2, a3, a4, a5, a6, a7, a8, a9, a10, a11, a12, b1, b2, b3, b4, b5, b6, b7, b8, b9, b10, b11, t1, c1, q1, n1, ck, f1, f2, f3, f4, d1, d2, d3, d4, true_and, true_or, or_true, nI_clamp (show v < 2 ^ 31 by omega), g5 v hv, e1, (X.xd hv).2.1]
  refine ⟨vp_in_nI (by omega) (by omega), ?_⟩
  suffices H : ∀ n k h1 S1, k + n = (sD S1 v).length → XS h1 w S1 → okD w S1 → okQ (sQ S1) → zSame (xA w) h h1 → oDue v n k S1 = oDue v (sD S v).length 0 S → zWp zm34 (zD (d + 3)) (fun r h' => r = none ∧ XS h' w (oDue v (sD S v).length 0 S) ∧ zSame (xA w) h h') 0 0 15 [some (.inr 3), some (.inl (nI v)), some (.inr (nA v)), some (.inl (nI k)), some (.inl (nI n))] [] h1 from H _ 0 h S (by omega) X ok oq zSame.rf rfl
  intro n
  induction n with
  | zero =>
    intro k h1 S1 hk X1 ok1 oq1 s1 e
    refine r34_15 ⟨fun _ => ⟨rfl, by rw [← e]; exact X1, s1⟩, fun q => absurd (show nI 0 ≤ nI 0 from nI_le (Nat.le_refl _) (by decide)) q⟩
  | succ n ih =>
    intro k h1 S1 hk X1 ok1 oq1 s1 e
    have hl1 := X1.dl hv
    have hkl : k < (sD S1 v).length := by omega
    obtain ⟨g, hg⟩ := at_lt hkl
    have er := (X1.gd hv).row (show k < nC v by omega)
    have ex := (X1.xd hv).2.2 k g hg 4 (by decide)
    obtain ⟨g1, g2, ⟨a1, a2, a3, a4, a5, a6, a7, a8, a9, a10, a11, a12⟩, ⟨b1, b2, b3, b4, b5, b6, b7, b8, b9, b10, b11⟩, g5, t1, c1, q1, n1, ck, ⟨f1, f2, f3, f4⟩, ⟨d1, d2, d3, d4⟩⟩ := X1.all
    obtain ⟨e1, e2, e3, e4⟩ := X1.dn hv
    have em : nI (n + 1) + -1 = nI n := pk_m1 n
    refine r34_15 ⟨fun q => absurd (show nI (n + 1) ≤ nI 0 from q) (nI_ge (by omega) (by omega)), fun _ => ?_⟩
    simp only [g1, g2, a1, a2, a3, a4, a5, a6, a7, a8, a9, a10, a11, a12, b1, b2, b3, b4, b5, b6, b7, b8, b9, b10, b11, t1, c1, q1, n1, ck, f1, f2, f3, f4, d1, d2, d3, d4, true_and, true_or, or_true, e1, e2, e3, e4, nI_clamp (show k < 2 ^ 31 by omega), er, ex, nI_1, em]
    have eD : oDue v (n + 1) k S1 = if g 4 = sClk S1 then oDue v n k (oGive S1 v k g) else oDue v n (k + 1) S1 := by
      show (match (sD S1 v)[k]? with | some g => _ | none => _) = _
      rw [hg]
    refine ⟨vp_in_nI (by omega) (by omega), fun q => ?_, fun q => ⟨_, k35 hw hv X1 ok1 oq1 hg, ?_⟩⟩
    · exact ih (k + 1) h1 S1 (by omega) X1 ok1 oq1 s1 (by rw [← e, eD, if_neg q])
    · rintro r h2 ⟨rfl, X2, s2⟩
      refine r34_42 ?_
      rw [em]
      have hD := (oGive_D (S := S1) (v := v) (k := k) (g := g)).1
      refine ih k h2 _ ?_ X2 (okD_er hD ok1) (oGive_Q oq1) (s1.tr s2) (by rw [← e, eD, if_pos q])
      rw [hD, updD_at, List.length_eraseIdx_of_lt hkl]; omega
def oSC (S : sS) (p : Int32) : sS := if (sD S 0).length = 4 ∨ (sFx (pFind 3 (p / 4) (p - p / 4 * 4)) (sD S 0) 0).isSome then S else
  oSend (oBegin S 0 3 (p / 4) (p - p / 4 * 4) (sClk S + 4) 0) (sRow [0, p / 4, 13, p - p / 4 * 4, sL S 0 + 1, 0, 0])
theorem k36 {d : Nat} {h : zH} {w : Nat} {S : sS} {p : Int32} (hw : w ≤ 4) (X : XS h w S) : zD (d + 3) 36 [.inr 3, .inl p] h (fun r h' => r = none ∧ XS h' w (oSC S p) ∧ zSame (xA w) h h') := by
  have h0 := Nat.zero_le w
  have hl : (sD S 0).length ≤ 4 := X.dl h0
  obtain ⟨g1, g2, ⟨a1, a2, a3, a4, a5, a6, a7, a8, a9, a10, a11, a12⟩, ⟨b1, b2, b3, b4, b5, b6, b7, b8, b9, b10, b11⟩, g5, t1, c1, q1, n1, ck, ⟨f1, f2, f3, f4⟩, ⟨d1, d2, d3, d4⟩⟩ := X.all
  refine zD_of rfl (r36_0 ?_)
  simp only [g1, g2, a1, a2, a3, a4, a5, a6, a7, a8, a9, a10, a11, a12, b1, b2, b3, b4, b5, b6, b7, b8, b9, b10, b11, t1, c1, q1, n1, ck, f1, f2, f3, f4, d1, d2, d3, d4, true_and, true_or, or_true]
  refine ⟨by decide, by decide, _, c59 (nC_le 0) (X.gd h0) (X.xd h0), ?_⟩
  rintro r _ ⟨rfl, rfl⟩
  refine r36_15 ⟨fun q => ?_, fun q => ?_⟩
  · have h4 : (sD S 0).length = 4 := Classical.byContradiction fun e => q (by rw [show nC 0 = 4 from rfl, if_neg e])
    exact ⟨rfl, by unfold oSC; rw [if_pos (Or.inl h4)]; exact X, zSame.rf⟩
  have h4 : ¬ (sD S 0).length = 4 := fun e => by rw [show nC 0 = 4 from rfl, if_pos e] at q; exact absurd q (by decide)
  simp only [g1, g2, a1, a2, a3, a4, a5, a6, a7, a8, a9, a10, a11, a12, b1, b2, b3, b4, b5, b6, b7, b8, b9, b10, b11, t1, c1, q1, n1, ck, f1, f2, f3, f4, d1, d2, d3, d4, true_and, true_or, or_true]
  refine ⟨_, c62 (nC_le 0) (X.gd h0) (X.xd h0), ?_⟩
  rintro r _ ⟨rfl, rfl⟩
  refine r36_28 ⟨fun q => ?_, fun q => ?_⟩
  rotate_left
  · have hn : ¬ sFx (pFind 3 (p / 4) (p - p / 4 * 4)) (sD S 0) 0 = none := fun e => q ((sIx_neg (X.dl2 h0)).mpr e)
    obtain ⟨k, hk⟩ := Option.ne_none_iff_exists'.mp hn
    exact ⟨rfl, by unfold oSC; rw [if_pos (Or.inr (by rw [hk]; rfl))]; exact X, zSame.rf⟩
  have hn : sFx (pFind 3 (p / 4) (p - p / 4 * 4)) (sD S 0) 0 = none := (sIx_neg (X.dl2 h0)).mp q
  simp only [g1, g2, a1, a2, a3, a4, a5, a6, a7, a8, a9, a10, a11, a12, b1, b2, b3, b4, b5, b6, b7, b8, b9, b10, b11, t1, c1, q1, n1, ck, f1, f2, f3, f4, d1, d2, d3, d4, true_and, true_or, or_true]
  refine ⟨_, k60 hw h0 X (by rw [show nC 0 = 4 from rfl]; omega), ?_⟩
  rintro r h1 ⟨rfl, X1, s1⟩
  obtain ⟨g1, g2, ⟨a1, a2, a3, a4, a5, a6, a7, a8, a9, a10, a11, a12⟩, ⟨b1, b2, b3, b4, b5, b6, b7, b8, b9, b10, b11⟩, g5, t1, c1, q1, n1, ck, ⟨f1, f2, f3, f4⟩, ⟨d1, d2, d3, d4⟩⟩ := X1.all
  refine r36_50 ?_
  simp only [g1, g2, a1, a2, a3, a4, a5, a6, a7, a8, a9, a10, a11, a12, b1, b2, b3, b4, b5, b6, b7, b8, b9, b10, b11, t1, c1, q1, n1, ck, f1, f2, f3, f4, d1, d2, d3, d4, true_and, true_or, or_true]
  refine ⟨_, k71 hw X1, ?_⟩
  rintro r h2 ⟨rfl, X2, s2⟩
  refine r36_68 ⟨rfl, ?_, s1.tr s2⟩
  unfold oSC; rw [if_neg (fun z => z.elim h4 (fun z => by rw [hn] at z; cases z))]; exact X2
def oDues : Nat → Nat → sS → sS
  | 0, _, S => S
  | n + 1, v, S => oDues n (v + 1) (oDue v (sD S v).length 0 S)
def oSCs : Nat → Nat → sS → sS
  | 0, _, S => S
  | n + 1, k, S => match (sC S)[k]? with
    | some p => oSCs n (k + 1) (oSC S p)
    | none => S
def oFree (S : sS) : sS := stU (stO S (fun k => if sU S k = sClk S then -1 else sO S k)) (sU S)
def oTick (w : Nat) (S : sS) : sS := oSCs (sC (oFree (oDues (w + 1) 0 (stClk S (sClk S + 1))))).length 0 (oFree (oDues (w + 1) 0 (stClk S (sClk S + 1))))
theorem oDue_ok {w v : Nat} : ∀ (n k : Nat) (S : sS), okD w S → okQ (sQ S) → okD w (oDue v n k S) ∧ okQ (sQ (oDue v n k S)) ∧ sClk (oDue v n k S) = sClk S
  | 0, _, S, h1, h2 => ⟨h1, h2, rfl⟩
  | n + 1, k, S, h1, h2 => by
    unfold oDue
    split
    · rename_i g hg
      split
      · have hD := oGive_D (S := S) (v := v) (k := k) (g := g)
        have := oDue_ok (w := w) (v := v) n k (oGive S v k g) (okD_er hD.1 h1) (oGive_Q h2)
        rw [hD.2] at this; exact this
      · exact oDue_ok n (k + 1) S h1 h2
    · exact ⟨h1, h2, rfl⟩
theorem oSC_CC {S : sS} {p : Int32} : sC (oSC S p) = sC S ∧ sClk (oSC S p) = sClk S := by
  unfold oSC; split <;> exact ⟨rfl, rfl⟩
theorem oSCs_clk : ∀ (n k : Nat) (S : sS), sClk (oSCs n k S) = sClk S
  | 0, _, _ => rfl
  | n + 1, k, S => by
    unfold oSCs
    split
    · rw [oSCs_clk n (k + 1)]; exact oSC_CC.2
    · rfl
theorem oDues_clk {w : Nat} : ∀ (n v : Nat) (S : sS), okD w S → okQ (sQ S) → sClk (oDues n v S) = sClk S
  | 0, _, _, _, _ => rfl
  | n + 1, v, S, h1, h2 => by
    unfold oDues
    obtain ⟨a1, a2, a3⟩ := oDue_ok (w := w) (v := v) (sD S v).length 0 S h1 h2
    rw [oDues_clk n (v + 1) _ a1 a2, a3]
theorem oTick_clk {w : Nat} {S : sS} (ok : okD w S) (oq : okQ (sQ S)) : sClk (oTick w S) = sClk S + 1 := by
  unfold oTick
  rw [oSCs_clk]
  show sClk (oDues (w + 1) 0 (stClk S (sClk S + 1))) = _
  rw [oDues_clk (w := w) _ _ (stClk S (sClk S + 1)) ok oq]; rfl
theorem k11 {d : Nat} {h : zH} {w : Nat} {S : sS} (hw : w ≤ 4) (X : XS h w S) (ok : okD w S) (oq : okQ (sQ S)) : zD (d + 5) 11 [.inr 3] h (fun r h' => r = some (.inl (sClk S + 1)) ∧ XS h' w (oTick w S) ∧ zSame (xB w) h h') := by
  have clk := oTick_clk ok oq
  have tail2 : ∀ n k h1 S1, k + n = (sC S1).length → XS h1 w S1 → zSame (xA w) h h1 → oSCs n k S1 = oTick w S → zWp zm11 (zD (d + 4)) (fun r h' => r = some (.inl (sClk S + 1)) ∧ XS h' w (oTick w S) ∧ zSame (xB w) h h') 0 0 44 [some (.inr 3), some (.inl (nI k))] [] h1 := by
    intro n
    induction n with
    | zero =>
      intro k h1 S1 hk X1 s1 e
      have hc6 := X1.xc.1
      obtain ⟨g1, g2, ⟨a1, a2, a3, a4, a5, a6, a7, a8, a9, a10, a11, a12⟩, ⟨b1, b2, b3, b4, b5, b6, b7, b8, b9, b10, b11⟩, g5, t1, c1, q1, n1, ck, ⟨f1, f2, f3, f4⟩, ⟨d1, d2, d3, d4⟩⟩ := X1.all
      refine r11_44 ?_
      simp only [g1, g2, a1, a2, a3, a4, a5, a6, a7, a8, a9, a10, a11, a12, b1, b2, b3, b4, b5, b6, b7, b8, b9, b10, b11, t1, c1, q1, n1, ck, f1, f2, f3, f4, d1, d2, d3, d4, true_and, true_or, or_true, X1.xc.2.1]
      refine ⟨fun _ => ⟨?_, by rw [← e]; exact X1, xAB s1⟩, fun q => absurd (nI_le (by omega) (by omega)) q⟩
      have e' : S1 = oTick w S := e
      rw [e', clk]
    | succ n ih =>
      intro k h1 S1 hk X1 s1 e
      have hc6 := X1.xc.1
      obtain ⟨p, hp⟩ := at_lt (show k < (sC S1).length by omega)
      obtain ⟨g1, g2, ⟨a1, a2, a3, a4, a5, a6, a7, a8, a9, a10, a11, a12⟩, ⟨b1, b2, b3, b4, b5, b6, b7, b8, b9, b10, b11⟩, g5, t1, c1, q1, n1, ck, ⟨f1, f2, f3, f4⟩, ⟨d1, d2, d3, d4⟩⟩ := X1.all
      refine r11_44 ?_
      simp only [g1, g2, a1, a2, a3, a4, a5, a6, a7, a8, a9, a10, a11, a12, b1, b2, b3, b4, b5, b6, b7, b8, b9, b10, b11, t1, c1, q1, n1, ck, f1, f2, f3, f4, d1, d2, d3, d4, true_and, true_or, or_true, X1.xc.2.1]
      refine ⟨fun q => absurd q (nI_ge (by omega) (by omega)), fun _ => ⟨_, c44 X1.2.2.1 X1.xc, ?_⟩⟩
      rintro r _ ⟨rfl, rfl⟩
      rw [if_pos (nI_pos' (by omega)), nI_clamp (by omega), hp]
      refine r11_64 ⟨g1, _, k36 hw X1, ?_⟩
      rintro r h2 ⟨rfl, X2, s2⟩
      refine r11_67 ?_
      rw [nI_1]
      refine ih (k + 1) h2 _ (by rw [show (some p).getD (-1) = p from rfl, oSC_CC.1]; omega) X2 (s1.tr s2) ?_
      rw [← e]
      show _ = (match (sC S1)[k]? with | some p => oSCs n (k + 1) (oSC S1 p) | none => S1)
      rw [hp]; rfl
  have tail1 : ∀ n v h1 S1, v + n = w + 1 → XS h1 w S1 → okD w S1 → okQ (sQ S1) → zSame (xA w) h h1 → oDues n v S1 = oDues (w + 1) 0 (stClk S (sClk S + 1)) → zWp zm11 (zD (d + 4)) (fun r h' => r = some (.inl (sClk S + 1)) ∧ XS h' w (oTick w S) ∧ zSame (xB w) h h') 0 0 12 [some (.inr 3), some (.inl (nI v))] [] h1 := by
    intro n
    induction n with
    | zero =>
      intro v h1 S1 hv X1 ok1 oq1 s1 e
      obtain ⟨g1, g2, ⟨a1, a2, a3, a4, a5, a6, a7, a8, a9, a10, a11, a12⟩, ⟨b1, b2, b3, b4, b5, b6, b7, b8, b9, b10, b11⟩, g5, t1, c1, q1, n1, ck, ⟨f1, f2, f3, f4⟩, ⟨d1, d2, d3, d4⟩⟩ := X1.all
      refine r11_12 ?_
      simp only [g1, g2, a1, a2, a3, a4, a5, a6, a7, a8, a9, a10, a11, a12, b1, b2, b3, b4, b5, b6, b7, b8, b9, b10, b11, t1, c1, q1, n1, ck, f1, f2, f3, f4, d1, d2, d3, d4, true_and, true_or, or_true, nI_ltI (show w < 2 ^ 31 by omega) (show v < 2 ^ 31 by omega)]
      refine ⟨fun _ => ⟨_, k56 hw X1, ?_⟩, fun q => absurd (by omega) q⟩
      rintro r h2 ⟨rfl, X2, s2⟩
      refine r11_42 ?_
      have e' : S1 = oDues (w + 1) 0 (stClk S (sClk S + 1)) := e
      exact tail2 _ 0 h2 (oFree S1) (Nat.zero_add _) X2 (s1.tr s2) (by unfold oTick; rw [← e'])
    | succ n ih =>
      intro v h1 S1 hv X1 ok1 oq1 s1 e
      obtain ⟨g1, g2, ⟨a1, a2, a3, a4, a5, a6, a7, a8, a9, a10, a11, a12⟩, ⟨b1, b2, b3, b4, b5, b6, b7, b8, b9, b10, b11⟩, g5, t1, c1, q1, n1, ck, ⟨f1, f2, f3, f4⟩, ⟨d1, d2, d3, d4⟩⟩ := X1.all
      refine r11_12 ?_
      simp only [g1, g2, a1, a2, a3, a4, a5, a6, a7, a8, a9, a10, a11, a12, b1, b2, b3, b4, b5, b6, b7, b8, b9, b10, b11, t1, c1, q1, n1, ck, f1, f2, f3, f4, d1, d2, d3, d4, true_and, true_or, or_true, nI_ltI (show w < 2 ^ 31 by omega) (show v < 2 ^ 31 by omega)]
      refine ⟨fun q => absurd q (by omega), fun _ => ⟨_, k34 hw (show v ≤ w by omega) X1 ok1 oq1, ?_⟩⟩
      rintro r h2 ⟨rfl, X2, s2⟩
      refine r11_25 ?_
      rw [nI_1]
      obtain ⟨o1, o2, -⟩ := oDue_ok (w := w) (v := v) (sD S1 v).length 0 S1 ok1 oq1
      exact ih (v + 1) h2 _ (by omega) X2 o1 o2 (s1.tr s2) e
  obtain ⟨g1, g2, ⟨a1, a2, a3, a4, a5, a6, a7, a8, a9, a10, a11, a12⟩, ⟨b1, b2, b3, b4, b5, b6, b7, b8, b9, b10, b11⟩, g5, t1, c1, q1, n1, ck, ⟨f1, f2, f3, f4⟩, ⟨d1, d2, d3, d4⟩⟩ := X.all
  refine zD_of rfl (r11_0 ?_)
  simp only [g1, g2, a1, a2, a3, a4, a5, a6, a7, a8, a9, a10, a11, a12, b1, b2, b3, b4, b5, b6, b7, b8, b9, b10, b11, t1, c1, q1, n1, ck, f1, f2, f3, f4, d1, d2, d3, d4, true_and, true_or, or_true, forall_eq]
  exact tail1 (w + 1) 0 _ _ (Nat.zero_add _) (X.Clk hw) ok oq (zSame.wI (by unfold xA; omega)) rfl
end
section
/-! ===== one list of dialogues of all nodes, and each node's own ===== -/
def flt (v : Nat) (G : List (Nat × (Nat → Int32))) : List (Nat → Int32) := (G.filter (fun p => decide (p.1 = v))).map (fun p => p.2)
/-- how many of v stand before the place d -/
def rk (v : Nat) : List (Nat × (Nat → Int32)) → Nat → Nat
  | [], _ => 0
  | _ :: _, 0 => 0
  | p :: G, d + 1 => (if p.1 = v then 1 else 0) + rk v G d
theorem flt_nil (v : Nat) : flt v [] = [] := rfl
theorem flt_c (v : Nat) (p : Nat × (Nat → Int32)) (G : List (Nat × (Nat → Int32))) : flt v (p :: G) = if p.1 = v then p.2 :: flt v G else flt v G := by
  unfold flt
  by_cases e : p.1 = v
  · rw [List.filter_cons_of_pos (by simpa using e), if_pos e]; rfl
  · rw [List.filter_cons_of_neg (by simpa using e), if_neg e]
theorem flt_app (v : Nat) (G : List (Nat × (Nat → Int32))) (u : Nat) (g : Nat → Int32) : flt v (G ++ [(u, g)]) = if u = v then flt v G ++ [g] else flt v G := by
  unfold flt
  rw [List.filter_append, List.map_append]
  by_cases e : u = v
  · rw [if_pos e, List.filter_cons_of_pos (by simpa using e)]; rfl
  · rw [if_neg e, List.filter_cons_of_neg (by simpa using e)]
    show _ ++ [] = _
    rw [List.append_nil]
theorem flt_at {v : Nat} {g : Nat → Int32} : ∀ {G : List (Nat × (Nat → Int32))} {d : Nat}, G[d]? = some (v, g) → (flt v G)[rk v G d]? = some g
  | [], d, h => by simp at h
  | p :: G, 0, h => by
    have h : some p = some (v, g) := h
    cases h
    rw [flt_c, if_pos rfl]; rfl
  | p :: G, d + 1, h => by
    rw [List.getElem?_cons_succ] at h
    have ih := flt_at h
    rw [flt_c]
    unfold rk
    by_cases e : p.1 = v
    · rw [if_pos e, if_pos e, Nat.add_comm 1, List.getElem?_cons_succ]; exact ih
    · rw [if_neg e, if_neg e, Nat.zero_add]; exact ih
theorem flt_er {v : Nat} {g : Nat → Int32} : ∀ {G : List (Nat × (Nat → Int32))} {d : Nat}, G[d]? = some (v, g) → flt v (G.eraseIdx d) = (flt v G).eraseIdx (rk v G d)
  | [], d, h => by simp at h
  | p :: G, 0, h => by
    have h : some p = some (v, g) := h
    cases h
    rw [flt_c, if_pos rfl]; rfl
  | p :: G, d + 1, h => by
    rw [List.getElem?_cons_succ] at h
    have ih := flt_er h
    show flt v (p :: G.eraseIdx d) = _
    rw [flt_c, flt_c]
    unfold rk
    by_cases e : p.1 = v
    · rw [if_pos e, if_pos e, if_pos e, Nat.add_comm 1, List.eraseIdx_cons_succ, ih]
    · rw [if_neg e, if_neg e, if_neg e, Nat.zero_add]; exact ih
theorem flt_ero {v u : Nat} {g : Nat → Int32} (hne : u ≠ v) : ∀ {G : List (Nat × (Nat → Int32))} {d : Nat}, G[d]? = some (u, g) → flt v (G.eraseIdx d) = flt v G
  | [], d, h => by simp at h
  | p :: G, 0, h => by
    have h : some p = some (u, g) := h
    cases h
    show flt v G = _
    rw [flt_c, if_neg hne]
  | p :: G, d + 1, h => by
    rw [List.getElem?_cons_succ] at h
    have ih := flt_ero hne h
    show flt v (p :: G.eraseIdx d) = _
    rw [flt_c, flt_c, ih]
theorem flt_set {v : Nat} {g g' : Nat → Int32} : ∀ {G : List (Nat × (Nat → Int32))} {d : Nat}, G[d]? = some (v, g) → flt v (G.set d (v, g')) = (flt v G).set (rk v G d) g'
  | [], d, h => by simp at h
  | p :: G, 0, h => by
    have h : some p = some (v, g) := h
    cases h
    show flt v ((v, g') :: G) = _
    rw [flt_c, flt_c, if_pos rfl, if_pos rfl]; rfl
  | p :: G, d + 1, h => by
    rw [List.getElem?_cons_succ] at h
    have ih := flt_set (g' := g') h
    show flt v (p :: G.set d (v, g')) = _
    rw [flt_c, flt_c]
    unfold rk
    by_cases e : p.1 = v
    · rw [if_pos e, if_pos e, if_pos e, Nat.add_comm 1, List.set_cons_succ, ih]
    · rw [if_neg e, if_neg e, if_neg e, Nat.zero_add]; exact ih
theorem flt_seto {v u : Nat} {g g' : Nat → Int32} (hne : u ≠ v) : ∀ {G : List (Nat × (Nat → Int32))} {d : Nat}, G[d]? = some (u, g) → flt v (G.set d (u, g')) = flt v G
  | [], d, h => by simp at h
  | p :: G, 0, h => by
    have h : some p = some (u, g) := h
    cases h
    show flt v ((u, g') :: G) = _
    rw [flt_c, flt_c, if_neg hne, if_neg hne]
  | p :: G, d + 1, h => by
    rw [List.getElem?_cons_succ] at h
    have ih := flt_seto (g' := g') hne h
    show flt v (p :: G.set d (u, g')) = _
    rw [flt_c, flt_c, ih]
theorem sFx_c {α : Type} {P : α → Bool} {x : α} {L : List α} : sFx P (x :: L) 0 = if P x = true then some 0 else (sFx P L 0).map (fun k => k + 1) := by
  unfold sFx
  rw [List.drop_zero, List.drop_zero, List.findIdx?_cons]
  by_cases e : P x = true
  · rw [e, if_pos rfl]; rfl
  · rw [if_neg e, if_neg (by simpa using e)]
    cases L.findIdx? P with
    | none => rfl
    | some k => show some (0 + (k + 1)) = some (0 + k + 1); rfl
/-- a search among all is a search among v's own -/
theorem flt_fx {v : Nat} {P : (Nat → Int32) → Bool} : ∀ (G : List (Nat × (Nat → Int32))), sFx P (flt v G) 0 = (sFx (fun p => decide (p.1 = v) && P p.2) G 0).map (fun d => rk v G d)
  | [] => rfl
  | p :: G => by
    have ih := flt_fx (v := v) (P := P) G
    rw [flt_c, sFx_c]
    by_cases e : p.1 = v
    · rw [if_pos e, sFx_c]
      by_cases hp : P p.2 = true
      · rw [if_pos hp, if_pos (by simp [e, hp])]; rfl
      · rw [if_neg hp, if_neg (by simp [hp]), ih]
        cases sFx (fun p => decide (p.1 = v) && P p.2) G 0 with
        | none => rfl
        | some d =>
          show some (rk v G d + 1) = some (rk v (p :: G) (d + 1))
          congr 1
          show _ = (if p.1 = v then 1 else 0) + rk v G d
          rw [if_pos e]; omega
    · rw [if_neg e, if_neg (by simp [e]), ih]
      cases sFx (fun p => decide (p.1 = v) && P p.2) G 0 with
      | none => rfl
      | some d =>
        show some (rk v G d) = some (rk v (p :: G) (d + 1))
        congr 1
        show _ = (if p.1 = v then 1 else 0) + rk v G d
        rw [if_neg e]; omega
theorem flt_len {w : Nat} : ∀ (G : List (Nat × (Nat → Int32))), (∀ p ∈ G, p.1 ≤ w) → w ≤ 4 → G.length ≤ (flt 0 G).length + (flt 1 G).length + (flt 2 G).length + (flt 3 G).length + (flt 4 G).length
  | [], _, _ => by simp
  | p :: G, h, hw => by
    have ih := flt_len G (fun q hq => h q (List.mem_cons_of_mem _ hq)) hw
    have hp := h p List.mem_cons_self
    rw [flt_c, flt_c, flt_c, flt_c, flt_c]
    have : p.1 = 0 ∨ p.1 = 1 ∨ p.1 = 2 ∨ p.1 = 3 ∨ p.1 = 4 := by omega
    rcases this with e | e | e | e | e <;> rw [e] <;> simp <;> omega
/-- the nodes' own lists are those of the one list -/
def LG (w : Nat) (S : sS) (G : List (Nat × (Nat → Int32))) : Prop := (∀ p ∈ G, p.1 ≤ w) ∧ ∀ v, v ≤ w → sD S v = flt v G
end
section
set_option maxHeartbeats 2000000 in
set_option maxRecDepth 100000 in
theorem r74_0 {call : zCall} {K : zT} {h : zH} {l0 : Nat} {l1 : Int32} {o2 : Option zV} (k : zK h l0 = 21 ∧ ¬ (4 : Int32) < 0 ∧ (4 : Int32).toNatClampNeg ≤ 100000 ∧ 0 + 1 ≤ zm74.2.2.1 ∧ 0 + (4 : Int32).toNatClampNeg ≤ zm74.2.2.2 ∧ ∀ h1, h1 = zNew h 1 (4 : Int32).toNatClampNeg → zK h1 l0 = 21 ∧ ∀ h2, h2 = zwR h1 l0 2 (zN h) → ¬ (4 : Int32) < 0 ∧ (4 : Int32).toNatClampNeg ≤ 100000 ∧ (0 + 1) + 1 ≤ zm74.2.2.1 ∧ (0 + (4 : Int32).toNatClampNeg) + (4 : Int32).toNatClampNeg ≤ zm74.2.2.2 ∧ ∀ h3, h3 = zNew h2 1 (4 : Int32).toNatClampNeg → zK h3 l0 = 21 ∧ ∀ h4, h4 = zwR h3 l0 3 (zN h2) → ¬ (6 : Int32) < 0 ∧ (6 : Int32).toNatClampNeg ≤ 100000 ∧ ((0 + 1) + 1) + 1 ≤ zm74.2.2.1 ∧ ((0 + (4 : Int32).toNatClampNeg) + (4 : Int32).toNatClampNeg) + (6 : Int32).toNatClampNeg ≤ zm74.2.2.2 ∧ ∀ h5, h5 = zNew h4 1 (6 : Int32).toNatClampNeg → zK h5 l0 = 21 ∧ ∀ h6, h6 = zwR h5 l0 5 (zN h4) → ¬ (6 : Int32) < 0 ∧ (6 : Int32).toNatClampNeg ≤ 100000 ∧ (((0 + 1) + 1) + 1) + 1 ≤ zm74.2.2.1 ∧ (((0 + (4 : Int32).toNatClampNeg) + (4 : Int32).toNatClampNeg) + (6 : Int32).toNatClampNeg) + (6 : Int32).toNatClampNeg ≤ zm74.2.2.2 ∧ ∀ h7, h7 = zNew h6 1 (6 : Int32).toNatClampNeg → zK h7 l0 = 21 ∧ ∀ h8, h8 = zwR h7 l0 6 (zN h6) → ¬ (6 : Int32) < 0 ∧ (6 : Int32).toNatClampNeg ≤ 100000 ∧ ((((0 + 1) + 1) + 1) + 1) + 1 ≤ zm74.2.2.1 ∧ ((((0 + (4 : Int32).toNatClampNeg) + (4 : Int32).toNatClampNeg) + (6 : Int32).toNatClampNeg) + (6 : Int32).toNatClampNeg) + (6 : Int32).toNatClampNeg ≤ zm74.2.2.2 ∧ ∀ h9, h9 = zNew h8 2 (6 : Int32).toNatClampNeg → zK h9 l0 = 21 ∧ ∀ h10, h10 = zwR h9 l0 7 (zN h8) → ¬ (7 : Int32) < 0 ∧ (7 : Int32).toNatClampNeg ≤ 100000 ∧ (((((0 + 1) + 1) + 1) + 1) + 1) + 1 ≤ zm74.2.2.1 ∧ (((((0 + (4 : Int32).toNatClampNeg) + (4 : Int32).toNatClampNeg) + (6 : Int32).toNatClampNeg) + (6 : Int32).toNatClampNeg) + (6 : Int32).toNatClampNeg) + (7 : Int32).toNatClampNeg ≤ zm74.2.2.2 ∧ ∀ h11, h11 = zNew h10 1 (7 : Int32).toNatClampNeg → zK h11 l0 = 21 ∧ ∀ h12, h12 = zwR h11 l0 9 (zN h10) → ¬ (7 : Int32) < 0 ∧ (7 : Int32).toNatClampNeg ≤ 100000 ∧ ((((((0 + 1) + 1) + 1) + 1) + 1) + 1) + 1 ≤ zm74.2.2.1 ∧ ((((((0 + (4 : Int32).toNatClampNeg) + (4 : Int32).toNatClampNeg) + (6 : Int32).toNatClampNeg) + (6 : Int32).toNatClampNeg) + (6 : Int32).toNatClampNeg) + (7 : Int32).toNatClampNeg) + (7 : Int32).toNatClampNeg ≤ zm74.2.2.2 ∧ ∀ h13, h13 = zNew h12 1 (7 : Int32).toNatClampNeg → zK h13 l0 = 21 ∧ ∀ h14, h14 = zwR h13 l0 10 (zN h12) → ¬ (20 : Int32) < 0 ∧ (20 : Int32).toNatClampNeg ≤ 100000 ∧ (((((((0 + 1) + 1) + 1) + 1) + 1) + 1) + 1) + 1 ≤ zm74.2.2.1 ∧ (((((((0 + (4 : Int32).toNatClampNeg) + (4 : Int32).toNatClampNeg) + (6 : Int32).toNatClampNeg) + (6 : Int32).toNatClampNeg) + (6 : Int32).toNatClampNeg) + (7 : Int32).toNatClampNeg) + (7 : Int32).toNatClampNeg) + (20 : Int32).toNatClampNeg ≤ zm74.2.2.2 ∧ ∀ h15, h15 = zNew h14 2 (20 : Int32).toNatClampNeg → zK h15 l0 = 21 ∧ ∀ h16, h16 = zwR h15 l0 11 (zN h14) → ¬ (20 : Int32) < 0 ∧ (20 : Int32).toNatClampNeg ≤ 100000 ∧ ((((((((0 + 1) + 1) + 1) + 1) + 1) + 1) + 1) + 1) + 1 ≤ zm74.2.2.1 ∧ ((((((((0 + (4 : Int32).toNatClampNeg) + (4 : Int32).toNatClampNeg) + (6 : Int32).toNatClampNeg) + (6 : Int32).toNatClampNeg) + (6 : Int32).toNatClampNeg) + (7 : Int32).toNatClampNeg) + (7 : Int32).toNatClampNeg) + (20 : Int32).toNatClampNeg) + (20 : Int32).toNatClampNeg ≤ zm74.2.2.2 ∧ ∀ h17, h17 = zNew h16 1 (20 : Int32).toNatClampNeg → zK h17 l0 = 21 ∧ ∀ h18, h18 = zwR h17 l0 12 (zN h16) → ¬ (10 : Int32) < 0 ∧ (10 : Int32).toNatClampNeg ≤ 100000 ∧ (((((((((0 + 1) + 1) + 1) + 1) + 1) + 1) + 1) + 1) + 1) + 1 ≤ zm74.2.2.1 ∧ (((((((((0 + (4 : Int32).toNatClampNeg) + (4 : Int32).toNatClampNeg) + (6 : Int32).toNatClampNeg) + (6 : Int32).toNatClampNeg) + (6 : Int32).toNatClampNeg) + (7 : Int32).toNatClampNeg) + (7 : Int32).toNatClampNeg) + (20 : Int32).toNatClampNeg) + (20 : Int32).toNatClampNeg) + (10 : Int32).toNatClampNeg ≤ zm74.2.2.2 ∧ ∀ h19, h19 = zNew h18 1 (10 : Int32).toNatClampNeg → zK h19 l0 = 21 ∧ ∀ h20, h20 = zwR h19 l0 13 (zN h18) → ¬ (10 : Int32) < 0 ∧ (10 : Int32).toNatClampNeg ≤ 100000 ∧ ((((((((((0 + 1) + 1) + 1) + 1) + 1) + 1) + 1) + 1) + 1) + 1) + 1 ≤ zm74.2.2.1 ∧ ((((((((((0 + (4 : Int32).toNatClampNeg) + (4 : Int32).toNatClampNeg) + (6 : Int32).toNatClampNeg) + (6 : Int32).toNatClampNeg) + (6 : Int32).toNatClampNeg) + (7 : Int32).toNatClampNeg) + (7 : Int32).toNatClampNeg) + (20 : Int32).toNatClampNeg) + (20 : Int32).toNatClampNeg) + (10 : Int32).toNatClampNeg) + (10 : Int32).toNatClampNeg ≤ zm74.2.2.2 ∧ ∀ h21, h21 = zNew h20 1 (10 : Int32).toNatClampNeg → zK h21 l0 = 21 ∧ ∀ h22, h22 = zwR h21 l0 14 (zN h20) → ¬ (5 : Int32) < 0 ∧ (5 : Int32).toNatClampNeg ≤ 100000 ∧ (((((((((((0 + 1) + 1) + 1) + 1) + 1) + 1) + 1) + 1) + 1) + 1) + 1) + 1 ≤ zm74.2.2.1 ∧ (((((((((((0 + (4 : Int32).toNatClampNeg) + (4 : Int32).toNatClampNeg) + (6 : Int32).toNatClampNeg) + (6 : Int32).toNatClampNeg) + (6 : Int32).toNatClampNeg) + (7 : Int32).toNatClampNeg) + (7 : Int32).toNatClampNeg) + (20 : Int32).toNatClampNeg) + (20 : Int32).toNatClampNeg) + (10 : Int32).toNatClampNeg) + (10 : Int32).toNatClampNeg) + (5 : Int32).toNatClampNeg ≤ zm74.2.2.2 ∧ ∀ h23, h23 = zNew h22 1 (5 : Int32).toNatClampNeg → zK h23 l0 = 21 ∧ ∀ h24, h24 = zwR h23 l0 15 (zN h22) → ¬ (12 : Int32) < 0 ∧ (12 : Int32).toNatClampNeg ≤ 100000 ∧ ((((((((((((0 + 1) + 1) + 1) + 1) + 1) + 1) + 1) + 1) + 1) + 1) + 1) + 1) + 1 ≤ zm74.2.2.1 ∧ ((((((((((((0 + (4 : Int32).toNatClampNeg) + (4 : Int32).toNatClampNeg) + (6 : Int32).toNatClampNeg) + (6 : Int32).toNatClampNeg) + (6 : Int32).toNatClampNeg) + (7 : Int32).toNatClampNeg) + (7 : Int32).toNatClampNeg) + (20 : Int32).toNatClampNeg) + (20 : Int32).toNatClampNeg) + (10 : Int32).toNatClampNeg) + (10 : Int32).toNatClampNeg) + (5 : Int32).toNatClampNeg) + (12 : Int32).toNatClampNeg ≤ zm74.2.2.2 ∧ ∀ h25, h25 = zNew h24 1 (12 : Int32).toNatClampNeg → zK h25 l0 = 21 ∧ ∀ h26, h26 = zwR h25 l0 17 (zN h24) → ¬ (12 : Int32) < 0 ∧ (12 : Int32).toNatClampNeg ≤ 100000 ∧ (((((((((((((0 + 1) + 1) + 1) + 1) + 1) + 1) + 1) + 1) + 1) + 1) + 1) + 1) + 1) + 1 ≤ zm74.2.2.1 ∧ (((((((((((((0 + (4 : Int32).toNatClampNeg) + (4 : Int32).toNatClampNeg) + (6 : Int32).toNatClampNeg) + (6 : Int32).toNatClampNeg) + (6 : Int32).toNatClampNeg) + (7 : Int32).toNatClampNeg) + (7 : Int32).toNatClampNeg) + (20 : Int32).toNatClampNeg) + (20 : Int32).toNatClampNeg) + (10 : Int32).toNatClampNeg) + (10 : Int32).toNatClampNeg) + (5 : Int32).toNatClampNeg) + (12 : Int32).toNatClampNeg) + (12 : Int32).toNatClampNeg ≤ zm74.2.2.2 ∧ ∀ h27, h27 = zNew h26 1 (12 : Int32).toNatClampNeg → zK h27 l0 = 21 ∧ ∀ h28, h28 = zwR h27 l0 18 (zN h26) → ¬ (12 : Int32) < 0 ∧ (12 : Int32).toNatClampNeg ≤ 100000 ∧ ((((((((((((((0 + 1) + 1) + 1) + 1) + 1) + 1) + 1) + 1) + 1) + 1) + 1) + 1) + 1) + 1) + 1 ≤ zm74.2.2.1 ∧ ((((((((((((((0 + (4 : Int32).toNatClampNeg) + (4 : Int32).toNatClampNeg) + (6 : Int32).toNatClampNeg) + (6 : Int32).toNatClampNeg) + (6 : Int32).toNatClampNeg) + (7 : Int32).toNatClampNeg) + (7 : Int32).toNatClampNeg) + (20 : Int32).toNatClampNeg) + (20 : Int32).toNatClampNeg) + (10 : Int32).toNatClampNeg) + (10 : Int32).toNatClampNeg) + (5 : Int32).toNatClampNeg) + (12 : Int32).toNatClampNeg) + (12 : Int32).toNatClampNeg) + (12 : Int32).toNatClampNeg ≤ zm74.2.2.2 ∧ ∀ h29, h29 = zNew h28 1 (12 : Int32).toNatClampNeg → zK h29 l0 = 21 ∧ ∀ h30, h30 = zwR h29 l0 19 (zN h28) → ¬ (12 : Int32) < 0 ∧ (12 : Int32).toNatClampNeg ≤ 100000 ∧ (((((((((((((((0 + 1) + 1) + 1) + 1) + 1) + 1) + 1) + 1) + 1) + 1) + 1) + 1) + 1) + 1) + 1) + 1 ≤ zm74.2.2.1 ∧ (((((((((((((((0 + (4 : Int32).toNatClampNeg) + (4 : Int32).toNatClampNeg) + (6 : Int32).toNatClampNeg) + (6 : Int32).toNatClampNeg) + (6 : Int32).toNatClampNeg) + (7 : Int32).toNatClampNeg) + (7 : Int32).toNatClampNeg) + (20 : Int32).toNatClampNeg) + (20 : Int32).toNatClampNeg) + (10 : Int32).toNatClampNeg) + (10 : Int32).toNatClampNeg) + (5 : Int32).toNatClampNeg) + (12 : Int32).toNatClampNeg) + (12 : Int32).toNatClampNeg) + (12 : Int32).toNatClampNeg) + (12 : Int32).toNatClampNeg ≤ zm74.2.2.2 ∧ ∀ h31, h31 = zNew h30 1 (12 : Int32).toNatClampNeg → zK h31 l0 = 21 ∧ ∀ h32, h32 = zwR h31 l0 20 (zN h30) → ¬ (12 : Int32) < 0 ∧ (12 : Int32).toNatClampNeg ≤ 100000 ∧ ((((((((((((((((0 + 1) + 1) + 1) + 1) + 1) + 1) + 1) + 1) + 1) + 1) + 1) + 1) + 1) + 1) + 1) + 1) + 1 ≤ zm74.2.2.1 ∧ ((((((((((((((((0 + (4 : Int32).toNatClampNeg) + (4 : Int32).toNatClampNeg) + (6 : Int32).toNatClampNeg) + (6 : Int32).toNatClampNeg) + (6 : Int32).toNatClampNeg) + (7 : Int32).toNatClampNeg) + (7 : Int32).toNatClampNeg) + (20 : Int32).toNatClampNeg) + (20 : Int32).toNatClampNeg) + (10 : Int32).toNatClampNeg) + (10 : Int32).toNatClampNeg) + (5 : Int32).toNatClampNeg) + (12 : Int32).toNatClampNeg) + (12 : Int32).toNatClampNeg) + (12 : Int32).toNatClampNeg) + (12 : Int32).toNatClampNeg) + (12 : Int32).toNatClampNeg ≤ zm74.2.2.2 ∧ ∀ h33, h33 = zNew h32 1 (12 : Int32).toNatClampNeg → zK h33 l0 = 21 ∧ ∀ h34, h34 = zwR h33 l0 21 (zN h32) → ¬ (12 : Int32) < 0 ∧ (12 : Int32).toNatClampNeg ≤ 100000 ∧ (((((((((((((((((0 + 1) + 1) + 1) + 1) + 1) + 1) + 1) + 1) + 1) + 1) + 1) + 1) + 1) + 1) + 1) + 1) + 1) + 1 ≤ zm74.2.2.1 ∧ (((((((((((((((((0 + (4 : Int32).toNatClampNeg) + (4 : Int32).toNatClampNeg) + (6 : Int32).toNatClampNeg) + (6 : Int32).toNatClampNeg) + (6 : Int32).toNatClampNeg) + (7 : Int32).toNatClampNeg) + (7 : Int32).toNatClampNeg) + (20 : Int32).toNatClampNeg) + (20 : Int32).toNatClampNeg) + (10 : Int32).toNatClampNeg) + (10 : Int32).toNatClampNeg) + (5 : Int32).toNatClampNeg) + (12 : Int32).toNatClampNeg) + (12 : Int32).toNatClampNeg) + (12 : Int32).toNatClampNeg) + (12 : Int32).toNatClampNeg) + (12 : Int32).toNatClampNeg) + (12 : Int32).toNatClampNeg ≤ zm74.2.2.2 ∧ ∀ h35, h35 = zNew h34 1 (12 : Int32).toNatClampNeg → zK h35 l0 = 21 ∧ ∀ h36, h36 = zwR h35 l0 22 (zN h34) → ¬ (12 : Int32) < 0 ∧ (12 : Int32).toNatClampNeg ≤ 100000 ∧ ((((((((((((((((((0 + 1) + 1) + 1) + 1) + 1) + 1) + 1) + 1) + 1) + 1) + 1) + 1) + 1) + 1) + 1) + 1) + 1) + 1) + 1 ≤ zm74.2.2.1 ∧ ((((((((((((((((((0 + (4 : Int32).toNatClampNeg) + (4 : Int32).toNatClampNeg) + (6 : Int32).toNatClampNeg) + (6 : Int32).toNatClampNeg) + (6 : Int32).toNatClampNeg) + (7 : Int32).toNatClampNeg) + (7 : Int32).toNatClampNeg) + (20 : Int32).toNatClampNeg) + (20 : Int32).toNatClampNeg) + (10 : Int32).toNatClampNeg) + (10 : Int32).toNatClampNeg) + (5 : Int32).toNatClampNeg) + (12 : Int32).toNatClampNeg) + (12 : Int32).toNatClampNeg) + (12 : Int32).toNatClampNeg) + (12 : Int32).toNatClampNeg) + (12 : Int32).toNatClampNeg) + (12 : Int32).toNatClampNeg) + (12 : Int32).toNatClampNeg ≤ zm74.2.2.2 ∧ ∀ h37, h37 = zNew h36 1 (12 : Int32).toNatClampNeg → zK h37 l0 = 21 ∧ ∀ h38, h38 = zwR h37 l0 23 (zN h36) → ¬ (520 : Int32) < 0 ∧ (520 : Int32).toNatClampNeg ≤ 100000 ∧ (((((((((((((((((((0 + 1) + 1) + 1) + 1) + 1) + 1) + 1) + 1) + 1) + 1) + 1) + 1) + 1) + 1) + 1) + 1) + 1) + 1) + 1) + 1 ≤ zm74.2.2.1 ∧ (((((((((((((((((((0 + (4 : Int32).toNatClampNeg) + (4 : Int32).toNatClampNeg) + (6 : Int32).toNatClampNeg) + (6 : Int32).toNatClampNeg) + (6 : Int32).toNatClampNeg) + (7 : Int32).toNatClampNeg) + (7 : Int32).toNatClampNeg) + (20 : Int32).toNatClampNeg) + (20 : Int32).toNatClampNeg) + (10 : Int32).toNatClampNeg) + (10 : Int32).toNatClampNeg) + (5 : Int32).toNatClampNeg) + (12 : Int32).toNatClampNeg) + (12 : Int32).toNatClampNeg) + (12 : Int32).toNatClampNeg) + (12 : Int32).toNatClampNeg) + (12 : Int32).toNatClampNeg) + (12 : Int32).toNatClampNeg) + (12 : Int32).toNatClampNeg) + (520 : Int32).toNatClampNeg ≤ zm74.2.2.2 ∧ ∀ h39, h39 = zNew h38 1 (520 : Int32).toNatClampNeg → zK h39 l0 = 21 ∧ ∀ h40, h40 = zwR h39 l0 25 (zN h38) → ¬ (520 : Int32) < 0 ∧ (520 : Int32).toNatClampNeg ≤ 100000 ∧ ((((((((((((((((((((0 + 1) + 1) + 1) + 1) + 1) + 1) + 1) + 1) + 1) + 1) + 1) + 1) + 1) + 1) + 1) + 1) + 1) + 1) + 1) + 1) + 1 ≤ zm74.2.2.1 ∧ ((((((((((((((((((((0 + (4 : Int32).toNatClampNeg) + (4 : Int32).toNatClampNeg) + (6 : Int32).toNatClampNeg) + (6 : Int32).toNatClampNeg) + (6 : Int32).toNatClampNeg) + (7 : Int32).toNatClampNeg) + (7 : Int32).toNatClampNeg) + (20 : Int32).toNatClampNeg) + (20 : Int32).toNatClampNeg) + (10 : Int32).toNatClampNeg) + (10 : Int32).toNatClampNeg) + (5 : Int32).toNatClampNeg) + (12 : Int32).toNatClampNeg) + (12 : Int32).toNatClampNeg) + (12 : Int32).toNatClampNeg) + (12 : Int32).toNatClampNeg) + (12 : Int32).toNatClampNeg) + (12 : Int32).toNatClampNeg) + (12 : Int32).toNatClampNeg) + (520 : Int32).toNatClampNeg) + (520 : Int32).toNatClampNeg ≤ zm74.2.2.2 ∧ ∀ h41, h41 = zNew h40 1 (520 : Int32).toNatClampNeg → zK h41 l0 = 21 ∧ ∀ h42, h42 = zwR h41 l0 26 (zN h40) → ¬ (192 : Int32) < 0 ∧ (192 : Int32).toNatClampNeg ≤ 100000 ∧ (((((((((((((((((((((0 + 1) + 1) + 1) + 1) + 1) + 1) + 1) + 1) + 1) + 1) + 1) + 1) + 1) + 1) + 1) + 1) + 1) + 1) + 1) + 1) + 1) + 1 ≤ zm74.2.2.1 ∧ (((((((((((((((((((((0 + (4 : Int32).toNatClampNeg) + (4 : Int32).toNatClampNeg) + (6 : Int32).toNatClampNeg) + (6 : Int32).toNatClampNeg) + (6 : Int32).toNatClampNeg) + (7 : Int32).toNatClampNeg) + (7 : Int32).toNatClampNeg) + (20 : Int32).toNatClampNeg) + (20 : Int32).toNatClampNeg) + (10 : Int32).toNatClampNeg) + (10 : Int32).toNatClampNeg) + (5 : Int32).toNatClampNeg) + (12 : Int32).toNatClampNeg) + (12 : Int32).toNatClampNeg) + (12 : Int32).toNatClampNeg) + (12 : Int32).toNatClampNeg) + (12 : Int32).toNatClampNeg) + (12 : Int32).toNatClampNeg) + (12 : Int32).toNatClampNeg) + (520 : Int32).toNatClampNeg) + (520 : Int32).toNatClampNeg) + (192 : Int32).toNatClampNeg ≤ zm74.2.2.2 ∧ ∀ h43, h43 = zNew h42 1 (192 : Int32).toNatClampNeg → zK h43 l0 = 21 ∧ ∀ h44, h44 = zwR h43 l0 28 (zN h42) → ¬ (8 : Int32) < 0 ∧ (8 : Int32).toNatClampNeg ≤ 100000 ∧ ((((((((((((((((((((((0 + 1) + 1) + 1) + 1) + 1) + 1) + 1) + 1) + 1) + 1) + 1) + 1) + 1) + 1) + 1) + 1) + 1) + 1) + 1) + 1) + 1) + 1) + 1 ≤ zm74.2.2.1 ∧ ((((((((((((((((((((((0 + (4 : Int32).toNatClampNeg) + (4 : Int32).toNatClampNeg) + (6 : Int32).toNatClampNeg) + (6 : Int32).toNatClampNeg) + (6 : Int32).toNatClampNeg) + (7 : Int32).toNatClampNeg) + (7 : Int32).toNatClampNeg) + (20 : Int32).toNatClampNeg) + (20 : Int32).toNatClampNeg) + (10 : Int32).toNatClampNeg) + (10 : Int32).toNatClampNeg) + (5 : Int32).toNatClampNeg) + (12 : Int32).toNatClampNeg) + (12 : Int32).toNatClampNeg) + (12 : Int32).toNatClampNeg) + (12 : Int32).toNatClampNeg) + (12 : Int32).toNatClampNeg) + (12 : Int32).toNatClampNeg) + (12 : Int32).toNatClampNeg) + (520 : Int32).toNatClampNeg) + (520 : Int32).toNatClampNeg) + (192 : Int32).toNatClampNeg) + (8 : Int32).toNatClampNeg ≤ zm74.2.2.2 ∧ ∀ h45, h45 = zNew h44 1 (8 : Int32).toNatClampNeg → zK h45 l0 = 21 ∧ ∀ h46, h46 = zwR h45 l0 29 (zN h44) → ((2 : Int32) ≤ l1 → (l1 ≤ (4 : Int32) → zK h46 l0 = 21 ∧ ∀ h47, h47 = zwI h46 l0 0 l1 → zWp zm74 call K (((((((((((((((((((((((0 + 1) + 1) + 1) + 1) + 1) + 1) + 1) + 1) + 1) + 1) + 1) + 1) + 1) + 1) + 1) + 1) + 1) + 1) + 1) + 1) + 1) + 1) + 1) (((((((((((((((((((((((0 + (4 : Int32).toNatClampNeg) + (4 : Int32).toNatClampNeg) + (6 : Int32).toNatClampNeg) + (6 : Int32).toNatClampNeg) + (6 : Int32).toNatClampNeg) + (7 : Int32).toNatClampNeg) + (7 : Int32).toNatClampNeg) + (20 : Int32).toNatClampNeg) + (20 : Int32).toNatClampNeg) + (10 : Int32).toNatClampNeg) + (10 : Int32).toNatClampNeg) + (5 : Int32).toNatClampNeg) + (12 : Int32).toNatClampNeg) + (12 : Int32).toNatClampNeg) + (12 : Int32).toNatClampNeg) + (12 : Int32).toNatClampNeg) + (12 : Int32).toNatClampNeg) + (12 : Int32).toNatClampNeg) + (12 : Int32).toNatClampNeg) + (520 : Int32).toNatClampNeg) + (520 : Int32).toNatClampNeg) + (192 : Int32).toNatClampNeg) + (8 : Int32).toNatClampNeg) 213 [some (.inr l0), some (.inl l1), some (.inl (0 : Int32))] [] h47) ∧ (¬ l1 ≤ (4 : Int32) → zK h46 l0 = 21 ∧ ∀ h48, h48 = zwI h46 l0 0 (4 : Int32) → zWp zm74 call K (((((((((((((((((((((((0 + 1) + 1) + 1) + 1) + 1) + 1) + 1) + 1) + 1) + 1) + 1) + 1) + 1) + 1) + 1) + 1) + 1) + 1) + 1) + 1) + 1) + 1) + 1) (((((((((((((((((((((((0 + (4 : Int32).toNatClampNeg) + (4 : Int32).toNatClampNeg) + (6 : Int32).toNatClampNeg) + (6 : Int32).toNatClampNeg) + (6 : Int32).toNatClampNeg) + (7 : Int32).toNatClampNeg) + (7 : Int32).toNatClampNeg) + (20 : Int32).toNatClampNeg) + (20 : Int32).toNatClampNeg) + (10 : Int32).toNatClampNeg) + (10 : Int32).toNatClampNeg) + (5 : Int32).toNatClampNeg) + (12 : Int32).toNatClampNeg) + (12 : Int32).toNatClampNeg) + (12 : Int32).toNatClampNeg) + (12 : Int32).toNatClampNeg) + (12 : Int32).toNatClampNeg) + (12 : Int32).toNatClampNeg) + (12 : Int32).toNatClampNeg) + (520 : Int32).toNatClampNeg) + (520 : Int32).toNatClampNeg) + (192 : Int32).toNatClampNeg) + (8 : Int32).toNatClampNeg) 213 [some (.inr l0), some (.inl l1), some (.inl (0 : Int32))] [] h48)) ∧ (¬ (2 : Int32) ≤ l1 → zK h46 l0 = 21 ∧ ∀ h49, h49 = zwI h46 l0 0 (2 : Int32) → zWp zm74 call K (((((((((((((((((((((((0 + 1) + 1) + 1) + 1) + 1) + 1) + 1) + 1) + 1) + 1) + 1) + 1) + 1) + 1) + 1) + 1) + 1) + 1) + 1) + 1) + 1) + 1) + 1) (((((((((((((((((((((((0 + (4 : Int32).toNatClampNeg) + (4 : Int32).toNatClampNeg) + (6 : Int32).toNatClampNeg) + (6 : Int32).toNatClampNeg) + (6 : Int32).toNatClampNeg) + (7 : Int32).toNatClampNeg) + (7 : Int32).toNatClampNeg) + (20 : Int32).toNatClampNeg) + (20 : Int32).toNatClampNeg) + (10 : Int32).toNatClampNeg) + (10 : Int32).toNatClampNeg) + (5 : Int32).toNatClampNeg) + (12 : Int32).toNatClampNeg) + (12 : Int32).toNatClampNeg) + (12 : Int32).toNatClampNeg) + (12 : Int32).toNatClampNeg) + (12 : Int32).toNatClampNeg) + (12 : Int32).toNatClampNeg) + (12 : Int32).toNatClampNeg) + (520 : Int32).toNatClampNeg) + (520 : Int32).toNatClampNeg) + (192 : Int32).toNatClampNeg) + (8 : Int32).toNatClampNeg) 213 [some (.inr l0), some (.inl l1), some (.inl (0 : Int32))] [] h49)) : zWp zm74 call K 0 0 0 [some (.inr l0), some (.inl l1), o2] [] h := zGo [213] 400 k
set_option maxHeartbeats 2000000 in
set_option maxRecDepth 100000 in
theorem r74_213 {call : zCall} {K : zT} {h : zH} {cu su : Nat} {l0 : Nat} {l1 : Int32} {l2 : Int32} (k : ((10 : Int32) ≤ l2 → K none h) ∧ (¬ (10 : Int32) ≤ l2 → zK h l0 = 21 ∧ zK h (zR h l0 13) = 1 ∧ vp_in l2 (zL h (zR h l0 13)) ∧ ∀ h1, h1 = zwI h (zR h l0 13) l2.toNatClampNeg (-1 : Int32) → zWp zm74 call K cu su 213 [some (.inr l0), some (.inl l1), some (.inl (l2 + (1 : Int32)))] [] h1)) : zWp zm74 call K cu su 213 [some (.inr l0), some (.inl l1), some (.inl l2)] [] h := zGo [213] 400 k
set_option maxHeartbeats 2000000 in
set_option maxRecDepth 100000 in
theorem r75_0 {call : zCall} {K : zT} {h : zH} {l0 : Int32} {l1 : Int32} {l2 : Int32} (k : (l0 < l1 → ((1 : Int32) = 0 ∨ (1 : Int32) = 1) ∧ K (some (.inl (1 : Int32))) h) ∧ (¬ l0 < l1 → (l0 ≤ l2 → ((0 : Int32) = 0 ∨ (0 : Int32) = 1) ∧ K (some (.inl (0 : Int32))) h) ∧ (¬ l0 ≤ l2 → ((1 : Int32) = 0 ∨ (1 : Int32) = 1) ∧ K (some (.inl (1 : Int32))) h))) : zWp zm75 call K 0 0 0 [some (.inl l0), some (.inl l1), some (.inl l2)] [] h := zGo [] 400 k
set_option maxHeartbeats 2000000 in
set_option maxRecDepth 100000 in
theorem r76_0 {call : zCall} {K : zT} {h : zH} {l0 : Nat} {l1 : Int32} (k : zK h l0 = 21 ∧ ∃ Q : zT, call 75 [.inl l1, .inl (1 : Int32), .inl (zI h l0 0)] h Q ∧ ∀ v h1, Q v h1 → zWp zm76 call K 0 0 9 [some (.inr l0), some (.inl l1)] (v.toList ++ []) h1) : zWp zm76 call K 0 0 0 [some (.inr l0), some (.inl l1)] [] h := zGo [9] 400 k
set_option maxHeartbeats 2000000 in
set_option maxRecDepth 100000 in
theorem r76_9 {call : zCall} {K : zT} {h : zH} {l0 : Nat} {l1 : Int32} {s0 : Int32} (k : (¬ s0 = 0 → ((0 : Int32) = 0 ∨ (0 : Int32) = 1) ∧ K (some (.inl (0 : Int32))) h) ∧ (s0 = 0 → ((1 : Int32) = 0 ∨ (1 : Int32) = 1) ∧ K (some (.inl (1 : Int32))) h)) : zWp zm76 call K 0 0 9 [some (.inr l0), some (.inl l1)] [.inl s0] h := zGo [9] 400 k
set_option maxHeartbeats 2000000 in
set_option maxRecDepth 100000 in
theorem r77_0 {call : zCall} {K : zT} {h : zH} {l0 : Int32} {o1 : Option zV} {o2 : Option zV} (k : zWp zm77 call K 0 0 4 [some (.inl l0), some (.inl (1 : Int32)), some (.inl (0 : Int32))] [] h) : zWp zm77 call K 0 0 0 [some (.inl l0), o1, o2] [] h := zGo [4] 400 k
set_option maxHeartbeats 2000000 in
set_option maxRecDepth 100000 in
theorem r77_4 {call : zCall} {K : zT} {h : zH} {l0 : Int32} {l1 : Int32} {l2 : Int32} (k : (l0 ≤ l2 → K (some (.inl l1)) h) ∧ (¬ l0 ≤ l2 → zWp zm77 call K 0 0 4 [some (.inl l0), some (.inl (l1 * (10 : Int32))), some (.inl (l2 + (1 : Int32)))] [] h)) : zWp zm77 call K 0 0 4 [some (.inl l0), some (.inl l1), some (.inl l2)] [] h := zGo [4] 400 k
set_option maxHeartbeats 2000000 in
set_option maxRecDepth 100000 in
theorem r78_0 {call : zCall} {K : zT} {h : zH} {l0 : Nat} {l1 : Int32} {l2 : Int32} (k : ∃ Q : zT, call 75 [.inl l1, .inl (0 : Int32), .inl (3 : Int32)] h Q ∧ ∀ v h1, Q v h1 → zWp zm78 call K 0 0 6 [some (.inr l0), some (.inl l1), some (.inl l2)] (v.toList ++ []) h1) : zWp zm78 call K 0 0 0 [some (.inr l0), some (.inl l1), some (.inl l2)] [] h := zGo [6, 16] 400 k
set_option maxHeartbeats 2000000 in
set_option maxRecDepth 100000 in
theorem r78_6 {call : zCall} {K : zT} {h : zH} {l0 : Nat} {l1 : Int32} {l2 : Int32} {s0 : Int32} (k : (¬ s0 = 0 → ((0 : Int32) = 0 ∨ (0 : Int32) = 1) ∧ K (some (.inl (0 : Int32))) h) ∧ (s0 = 0 → ∃ Q : zT, call 75 [.inl l2, .inl (0 : Int32), .inl (99999 : Int32)] h Q ∧ ∀ v h1, Q v h1 → zWp zm78 call K 0 0 16 [some (.inr l0), some (.inl l1), some (.inl l2)] (v.toList ++ []) h1)) : zWp zm78 call K 0 0 6 [some (.inr l0), some (.inl l1), some (.inl l2)] [.inl s0] h := zGo [6, 16] 400 k
set_option maxHeartbeats 2000000 in
set_option maxRecDepth 100000 in
theorem r78_16 {call : zCall} {K : zT} {h : zH} {l0 : Nat} {l1 : Int32} {l2 : Int32} {s0 : Int32} (k : (s0 = 0 → zK h l0 = 21 ∧ zK h (zR h l0 2) = 1 ∧ vp_in l1 (zL h (zR h l0 2)) ∧ ∀ h1, h1 = zwI h (zR h l0 2) l1.toNatClampNeg l2 → ((1 : Int32) = 0 ∨ (1 : Int32) = 1) ∧ K (some (.inl (1 : Int32))) h1) ∧ (¬ s0 = 0 → ((0 : Int32) = 0 ∨ (0 : Int32) = 1) ∧ K (some (.inl (0 : Int32))) h)) : zWp zm78 call K 0 0 16 [some (.inr l0), some (.inl l1), some (.inl l2)] [.inl s0] h := zGo [6, 16] 400 k
set_option maxHeartbeats 2000000 in
set_option maxRecDepth 100000 in
theorem r79_0 {call : zCall} {K : zT} {h : zH} {l0 : Nat} {l1 : Int32} {l2 : Int32} {l3 : Int32} {o4 : Option zV} (k : ∃ Q : zT, call 75 [.inl l2, .inl (0 : Int32), .inl (5 : Int32)] h Q ∧ ∀ v h1, Q v h1 → zWp zm79 call K 0 0 6 [some (.inr l0), some (.inl l1), some (.inl l2), some (.inl l3), o4] (v.toList ++ []) h1) : zWp zm79 call K 0 0 0 [some (.inr l0), some (.inl l1), some (.inl l2), some (.inl l3), o4] [] h := zGo [6, 18, 26] 400 k
set_option maxHeartbeats 2000000 in
set_option maxRecDepth 100000 in
theorem r79_6 {call : zCall} {K : zT} {h : zH} {l0 : Nat} {l1 : Int32} {l2 : Int32} {l3 : Int32} {o4 : Option zV} {s0 : Int32} (k : (¬ s0 = 0 → ((0 : Int32) = 0 ∨ (0 : Int32) = 1) ∧ K (some (.inl (0 : Int32))) h) ∧ (s0 = 0 → (l1 < 0 → ((0 : Int32) = 0 ∨ (0 : Int32) = 1) ∧ K (some (.inl (0 : Int32))) h) ∧ (¬ l1 < 0 → ∃ Q : zT, call 77 [.inl l2] h Q ∧ ∀ v h1, Q v h1 → zWp zm79 call K 0 0 18 [some (.inr l0), some (.inl l1), some (.inl l2), some (.inl l3), o4] (v.toList ++ [.inl l1]) h1))) : zWp zm79 call K 0 0 6 [some (.inr l0), some (.inl l1), some (.inl l2), some (.inl l3), o4] [.inl s0] h := zGo [6, 18, 26] 400 k
set_option maxHeartbeats 2000000 in
set_option maxRecDepth 100000 in
theorem r79_18 {call : zCall} {K : zT} {h : zH} {l0 : Nat} {l1 : Int32} {l2 : Int32} {l3 : Int32} {o4 : Option zV} {s0 : Int32} {s1 : Int32} (k : (s0 < s1 → zWp zm79 call K 0 0 26 [some (.inr l0), some (.inl l1), some (.inl l2), some (.inl l3), some (.inl (0 : Int32))] [] h) ∧ (¬ s0 < s1 → ((0 : Int32) = 0 ∨ (0 : Int32) = 1) ∧ K (some (.inl (0 : Int32))) h)) : zWp zm79 call K 0 0 18 [some (.inr l0), some (.inl l1), some (.inl l2), some (.inl l3), o4] [.inl s1, .inl s0] h := zGo [6, 18, 26] 400 k
set_option maxHeartbeats 2000000 in
set_option maxRecDepth 100000 in
theorem r79_26 {call : zCall} {K : zT} {h : zH} {l0 : Nat} {l1 : Int32} {l2 : Int32} {l3 : Int32} {l4 : Int32} (k : zK h l0 = 21 ∧ ((zI h l0 4) ≤ l4 → (¬ l4 = (6 : Int32) → zK h l0 = 21 ∧ zK h (zR h l0 5) = 1 ∧ vp_in l4 (zL h (zR h l0 5)) ∧ ∀ h1, h1 = zwI h (zR h l0 5) l4.toNatClampNeg l1 → zK h1 l0 = 21 ∧ zK h1 (zR h1 l0 6) = 1 ∧ vp_in l4 (zL h1 (zR h1 l0 6)) ∧ ∀ h2, h2 = zwI h1 (zR h1 l0 6) l4.toNatClampNeg l2 → zK h2 l0 = 21 ∧ zK h2 (zR h2 l0 7) = 2 ∧ vp_in l4 (zL h2 (zR h2 l0 7)) ∧ ∀ h3, h3 = zwI h2 (zR h2 l0 7) l4.toNatClampNeg (vp_nar .boolean l3) → zK h3 l0 = 21 ∧ (¬ l4 = (zI h3 l0 4) → zK h3 l0 = 21 ∧ zK h3 l0 = 21 ∧ ∀ h4, h4 = zwI h3 l0 4 (zI h3 l0 4) → ((1 : Int32) = 0 ∨ (1 : Int32) = 1) ∧ K (some (.inl (1 : Int32))) h4) ∧ (l4 = (zI h3 l0 4) → zK h3 l0 = 21 ∧ zK h3 l0 = 21 ∧ ∀ h5, h5 = zwI h3 l0 4 ((zI h3 l0 4) + (1 : Int32)) → ((1 : Int32) = 0 ∨ (1 : Int32) = 1) ∧ K (some (.inl (1 : Int32))) h5)) ∧ (l4 = (6 : Int32) → ((0 : Int32) = 0 ∨ (0 : Int32) = 1) ∧ K (some (.inl (0 : Int32))) h)) ∧ (¬ (zI h l0 4) ≤ l4 → zK h l0 = 21 ∧ (zK h (zR h l0 5) = 1 ∨ zK h (zR h l0 5) = 101) ∧ vp_in l4 (zL h (zR h l0 5)) ∧ (¬ (zI h (zR h l0 5) l4.toNatClampNeg) = l1 → zWp zm79 call K 0 0 26 [some (.inr l0), some (.inl l1), some (.inl l2), some (.inl l3), some (.inl (l4 + (1 : Int32)))] [] h) ∧ ((zI h (zR h l0 5) l4.toNatClampNeg) = l1 → zK h l0 = 21 ∧ (zK h (zR h l0 6) = 1 ∨ zK h (zR h l0 6) = 101) ∧ vp_in l4 (zL h (zR h l0 6)) ∧ ((zI h (zR h l0 6) l4.toNatClampNeg) = l2 → (¬ l4 = (6 : Int32) → zK h l0 = 21 ∧ zK h (zR h l0 5) = 1 ∧ vp_in l4 (zL h (zR h l0 5)) ∧ ∀ h6, h6 = zwI h (zR h l0 5) l4.toNatClampNeg l1 → zK h6 l0 = 21 ∧ zK h6 (zR h6 l0 6) = 1 ∧ vp_in l4 (zL h6 (zR h6 l0 6)) ∧ ∀ h7, h7 = zwI h6 (zR h6 l0 6) l4.toNatClampNeg l2 → zK h7 l0 = 21 ∧ zK h7 (zR h7 l0 7) = 2 ∧ vp_in l4 (zL h7 (zR h7 l0 7)) ∧ ∀ h8, h8 = zwI h7 (zR h7 l0 7) l4.toNatClampNeg (vp_nar .boolean l3) → zK h8 l0 = 21 ∧ (¬ l4 = (zI h8 l0 4) → zK h8 l0 = 21 ∧ zK h8 l0 = 21 ∧ ∀ h9, h9 = zwI h8 l0 4 (zI h8 l0 4) → ((1 : Int32) = 0 ∨ (1 : Int32) = 1) ∧ K (some (.inl (1 : Int32))) h9) ∧ (l4 = (zI h8 l0 4) → zK h8 l0 = 21 ∧ zK h8 l0 = 21 ∧ ∀ h10, h10 = zwI h8 l0 4 ((zI h8 l0 4) + (1 : Int32)) → ((1 : Int32) = 0 ∨ (1 : Int32) = 1) ∧ K (some (.inl (1 : Int32))) h10)) ∧ (l4 = (6 : Int32) → ((0 : Int32) = 0 ∨ (0 : Int32) = 1) ∧ K (some (.inl (0 : Int32))) h)) ∧ (¬ (zI h (zR h l0 6) l4.toNatClampNeg) = l2 → zWp zm79 call K 0 0 26 [some (.inr l0), some (.inl l1), some (.inl l2), some (.inl l3), some (.inl (l4 + (1 : Int32)))] [] h)))) : zWp zm79 call K 0 0 26 [some (.inr l0), some (.inl l1), some (.inl l2), some (.inl l3), some (.inl l4)] [] h := zGo [6, 18, 26] 400 k
set_option maxHeartbeats 2000000 in
set_option maxRecDepth 100000 in
theorem r80_0 {call : zCall} {K : zT} {h : zH} {l0 : Nat} {l1 : Int32} {o2 : Option zV} {o3 : Option zV} {o4 : Option zV} (k : zWp zm80 call K 0 0 7 [some (.inr l0), some (.inl l1), some (.inl (-1 : Int32)), some (.inl (0 : Int32)), some (.inl (0 : Int32))] [] h) : zWp zm80 call K 0 0 0 [some (.inr l0), some (.inl l1), o2, o3, o4] [] h := zGo [7, 34] 400 k
set_option maxHeartbeats 2000000 in
set_option maxRecDepth 100000 in
theorem r80_7 {call : zCall} {K : zT} {h : zH} {l0 : Nat} {l1 : Int32} {l2 : Int32} {l3 : Int32} {l4 : Int32} (k : zK h l0 = 21 ∧ ((zI h l0 4) ≤ l4 → (l3 = 0 ∨ l3 = 1) ∧ K (some (.inl l3)) h) ∧ (¬ (zI h l0 4) ≤ l4 → zK h l0 = 21 ∧ (zK h (zR h l0 2) = 1 ∨ zK h (zR h l0 2) = 101) ∧ vp_in l1 (zL h (zR h l0 2)) ∧ zK h l0 = 21 ∧ (zK h (zR h l0 6) = 1 ∨ zK h (zR h l0 6) = 101) ∧ vp_in l4 (zL h (zR h l0 6)) ∧ ∃ Q : zT, call 77 [.inl ((5 : Int32) - (zI h (zR h l0 6) l4.toNatClampNeg))] h Q ∧ ∀ v h1, Q v h1 → zWp zm80 call K 0 0 34 [some (.inr l0), some (.inl l1), some (.inl l2), some (.inl l3), some (.inl l4)] (v.toList ++ [.inl (zI h (zR h l0 2) l1.toNatClampNeg)]) h1)) : zWp zm80 call K 0 0 7 [some (.inr l0), some (.inl l1), some (.inl l2), some (.inl l3), some (.inl l4)] [] h := zGo [7, 34] 400 k
set_option maxHeartbeats 2000000 in
set_option maxRecDepth 100000 in
theorem r80_34 {call : zCall} {K : zT} {h : zH} {l0 : Nat} {l1 : Int32} {l2 : Int32} {l3 : Int32} {l4 : Int32} {s0 : Int32} {s1 : Int32} (k : ¬ s1 = 0 ∧ zK h l0 = 21 ∧ (zK h (zR h l0 5) = 1 ∨ zK h (zR h l0 5) = 101) ∧ vp_in l4 (zL h (zR h l0 5)) ∧ (¬ (s0 / s1) = (zI h (zR h l0 5) l4.toNatClampNeg) → zWp zm80 call K 0 0 7 [some (.inr l0), some (.inl l1), some (.inl l2), some (.inl l3), some (.inl (l4 + (1 : Int32)))] [] h) ∧ ((s0 / s1) = (zI h (zR h l0 5) l4.toNatClampNeg) → zK h l0 = 21 ∧ (zK h (zR h l0 6) = 1 ∨ zK h (zR h l0 6) = 101) ∧ vp_in l4 (zL h (zR h l0 6)) ∧ ((zI h (zR h l0 6) l4.toNatClampNeg) ≤ l2 → zWp zm80 call K 0 0 7 [some (.inr l0), some (.inl l1), some (.inl l2), some (.inl l3), some (.inl (l4 + (1 : Int32)))] [] h) ∧ (¬ (zI h (zR h l0 6) l4.toNatClampNeg) ≤ l2 → zK h l0 = 21 ∧ (zK h (zR h l0 6) = 1 ∨ zK h (zR h l0 6) = 101) ∧ vp_in l4 (zL h (zR h l0 6)) ∧ zK h l0 = 21 ∧ zK h (zR h l0 7) = 2 ∧ vp_in l4 (zL h (zR h l0 7)) ∧ zWp zm80 call K 0 0 7 [some (.inr l0), some (.inl l1), some (.inl (zI h (zR h l0 6) l4.toNatClampNeg)), some (.inl (zI h (zR h l0 7) l4.toNatClampNeg)), some (.inl (l4 + (1 : Int32)))] [] h))) : zWp zm80 call K 0 0 34 [some (.inr l0), some (.inl l1), some (.inl l2), some (.inl l3), some (.inl l4)] [.inl s1, .inl s0] h := zGo [7, 34] 400 k
set_option maxHeartbeats 2000000 in
set_option maxRecDepth 100000 in
theorem r81_0 {call : zCall} {K : zT} {h : zH} {l0 : Nat} {l1 : Int32} {o2 : Option zV} {o3 : Option zV} (k : zWp zm81 call K 0 0 4 [some (.inr l0), some (.inl l1), some (.inl (0 : Int32)), some (.inl (0 : Int32))] [] h) : zWp zm81 call K 0 0 0 [some (.inr l0), some (.inl l1), o2, o3] [] h := zGo [4] 400 k
set_option maxHeartbeats 2000000 in
set_option maxRecDepth 100000 in
theorem r81_4 {call : zCall} {K : zT} {h : zH} {l0 : Nat} {l1 : Int32} {l2 : Int32} {l3 : Int32} (k : zK h l0 = 21 ∧ ((zI h l0 16) ≤ l3 → K (some (.inl l2)) h) ∧ (¬ (zI h l0 16) ≤ l3 → zK h l0 = 21 ∧ (zK h (zR h l0 17) = 1 ∨ zK h (zR h l0 17) = 101) ∧ vp_in l3 (zL h (zR h l0 17)) ∧ (¬ (zI h (zR h l0 17) l3.toNatClampNeg) = l1 → zWp zm81 call K 0 0 4 [some (.inr l0), some (.inl l1), some (.inl l2), some (.inl (l3 + (1 : Int32)))] [] h) ∧ ((zI h (zR h l0 17) l3.toNatClampNeg) = l1 → zWp zm81 call K 0 0 4 [some (.inr l0), some (.inl l1), some (.inl (l2 + (1 : Int32))), some (.inl (l3 + (1 : Int32)))] [] h))) : zWp zm81 call K 0 0 4 [some (.inr l0), some (.inl l1), some (.inl l2), some (.inl l3)] [] h := zGo [4] 400 k
set_option maxHeartbeats 2000000 in
set_option maxRecDepth 100000 in
theorem r82_0 {call : zCall} {K : zT} {h : zH} {l0 : Nat} {l1 : Int32} {l2 : Int32} {o3 : Option zV} (k : zWp zm82 call K 0 0 2 [some (.inr l0), some (.inl l1), some (.inl l2), some (.inl (0 : Int32))] [] h) : zWp zm82 call K 0 0 0 [some (.inr l0), some (.inl l1), some (.inl l2), o3] [] h := zGo [2] 400 k
set_option maxHeartbeats 2000000 in
set_option maxRecDepth 100000 in
theorem r82_2 {call : zCall} {K : zT} {h : zH} {l0 : Nat} {l1 : Int32} {l2 : Int32} {l3 : Int32} (k : zK h l0 = 21 ∧ ((zI h l0 16) ≤ l3 → K (some (.inl (-1 : Int32))) h) ∧ (¬ (zI h l0 16) ≤ l3 → zK h l0 = 21 ∧ (zK h (zR h l0 17) = 1 ∨ zK h (zR h l0 17) = 101) ∧ vp_in l3 (zL h (zR h l0 17)) ∧ (¬ (zI h (zR h l0 17) l3.toNatClampNeg) = l1 → zWp zm82 call K 0 0 2 [some (.inr l0), some (.inl l1), some (.inl l2), some (.inl (l3 + (1 : Int32)))] [] h) ∧ ((zI h (zR h l0 17) l3.toNatClampNeg) = l1 → zK h l0 = 21 ∧ (zK h (zR h l0 18) = 1 ∨ zK h (zR h l0 18) = 101) ∧ vp_in l3 (zL h (zR h l0 18)) ∧ (¬ (zI h (zR h l0 18) l3.toNatClampNeg) = l2 → zWp zm82 call K 0 0 2 [some (.inr l0), some (.inl l1), some (.inl l2), some (.inl (l3 + (1 : Int32)))] [] h) ∧ ((zI h (zR h l0 18) l3.toNatClampNeg) = l2 → K (some (.inl l3)) h)))) : zWp zm82 call K 0 0 2 [some (.inr l0), some (.inl l1), some (.inl l2), some (.inl l3)] [] h := zGo [2] 400 k
set_option maxHeartbeats 2000000 in
set_option maxRecDepth 100000 in
theorem r83_0 {call : zCall} {K : zT} {h : zH} {l0 : Nat} {l1 : Int32} {l2 : Int32} {l3 : Int32} {l4 : Int32} {o5 : Option zV} (k : zWp zm83 call K 0 0 3 [some (.inr l0), some (.inl l1), some (.inl l2), some (.inl l3), some (.inl l4), some (.inl (0 : Int32))] [] h) : zWp zm83 call K 0 0 0 [some (.inr l0), some (.inl l1), some (.inl l2), some (.inl l3), some (.inl l4), o5] [] h := zGo [3] 400 k
set_option maxHeartbeats 2000000 in
set_option maxRecDepth 100000 in
theorem r83_3 {call : zCall} {K : zT} {h : zH} {l0 : Nat} {l1 : Int32} {l2 : Int32} {l3 : Int32} {l4 : Int32} {l5 : Int32} (k : zK h l0 = 21 ∧ ((zI h l0 16) ≤ l5 → K (some (.inl (-1 : Int32))) h) ∧ (¬ (zI h l0 16) ≤ l5 → zK h l0 = 21 ∧ (zK h (zR h l0 17) = 1 ∨ zK h (zR h l0 17) = 101) ∧ vp_in l5 (zL h (zR h l0 17)) ∧ (¬ (zI h (zR h l0 17) l5.toNatClampNeg) = l1 → zWp zm83 call K 0 0 3 [some (.inr l0), some (.inl l1), some (.inl l2), some (.inl l3), some (.inl l4), some (.inl (l5 + (1 : Int32)))] [] h) ∧ ((zI h (zR h l0 17) l5.toNatClampNeg) = l1 → zK h l0 = 21 ∧ (zK h (zR h l0 19) = 1 ∨ zK h (zR h l0 19) = 101) ∧ vp_in l5 (zL h (zR h l0 19)) ∧ (¬ (zI h (zR h l0 19) l5.toNatClampNeg) = l2 → zWp zm83 call K 0 0 3 [some (.inr l0), some (.inl l1), some (.inl l2), some (.inl l3), some (.inl l4), some (.inl (l5 + (1 : Int32)))] [] h) ∧ ((zI h (zR h l0 19) l5.toNatClampNeg) = l2 → zK h l0 = 21 ∧ (zK h (zR h l0 20) = 1 ∨ zK h (zR h l0 20) = 101) ∧ vp_in l5 (zL h (zR h l0 20)) ∧ (¬ (zI h (zR h l0 20) l5.toNatClampNeg) = l3 → zWp zm83 call K 0 0 3 [some (.inr l0), some (.inl l1), some (.inl l2), some (.inl l3), some (.inl l4), some (.inl (l5 + (1 : Int32)))] [] h) ∧ ((zI h (zR h l0 20) l5.toNatClampNeg) = l3 → zK h l0 = 21 ∧ (zK h (zR h l0 21) = 1 ∨ zK h (zR h l0 21) = 101) ∧ vp_in l5 (zL h (zR h l0 21)) ∧ (¬ (zI h (zR h l0 21) l5.toNatClampNeg) = l4 → zWp zm83 call K 0 0 3 [some (.inr l0), some (.inl l1), some (.inl l2), some (.inl l3), some (.inl l4), some (.inl (l5 + (1 : Int32)))] [] h) ∧ ((zI h (zR h l0 21) l5.toNatClampNeg) = l4 → K (some (.inl l5)) h)))))) : zWp zm83 call K 0 0 3 [some (.inr l0), some (.inl l1), some (.inl l2), some (.inl l3), some (.inl l4), some (.inl l5)] [] h := zGo [3] 400 k
set_option maxHeartbeats 2000000 in
set_option maxRecDepth 100000 in
theorem r84_0 {call : zCall} {K : zT} {h : zH} {l0 : Nat} {l1 : Int32} {l2 : Int32} {l3 : Int32} {l4 : Int32} {l5 : Int32} (k : zK h l0 = 21 ∧ (zK h (zR h l0 15) = 1 ∨ zK h (zR h l0 15) = 101) ∧ vp_in l1 (zL h (zR h l0 15)) ∧ zK h (zR h l0 15) = 1 ∧ vp_in l1 (zL h (zR h l0 15)) ∧ ∀ h1, h1 = zwI h (zR h l0 15) l1.toNatClampNeg ((zI h (zR h l0 15) l1.toNatClampNeg) + (1 : Int32)) → zK h1 l0 = 21 ∧ zK h1 l0 = 21 ∧ zK h1 (zR h1 l0 17) = 1 ∧ vp_in (zI h1 l0 16) (zL h1 (zR h1 l0 17)) ∧ ∀ h2, h2 = zwI h1 (zR h1 l0 17) (zI h1 l0 16).toNatClampNeg l1 → zK h2 l0 = 21 ∧ zK h2 l0 = 21 ∧ zK h2 l0 = 21 ∧ (zK h2 (zR h2 l0 15) = 1 ∨ zK h2 (zR h2 l0 15) = 101) ∧ vp_in l1 (zL h2 (zR h2 l0 15)) ∧ zK h2 (zR h2 l0 18) = 1 ∧ vp_in (zI h2 l0 16) (zL h2 (zR h2 l0 18)) ∧ ∀ h3, h3 = zwI h2 (zR h2 l0 18) (zI h2 l0 16).toNatClampNeg (zI h2 (zR h2 l0 15) l1.toNatClampNeg) → zK h3 l0 = 21 ∧ zK h3 l0 = 21 ∧ zK h3 (zR h3 l0 19) = 1 ∧ vp_in (zI h3 l0 16) (zL h3 (zR h3 l0 19)) ∧ ∀ h4, h4 = zwI h3 (zR h3 l0 19) (zI h3 l0 16).toNatClampNeg l2 → zK h4 l0 = 21 ∧ zK h4 l0 = 21 ∧ zK h4 (zR h4 l0 20) = 1 ∧ vp_in (zI h4 l0 16) (zL h4 (zR h4 l0 20)) ∧ ∀ h5, h5 = zwI h4 (zR h4 l0 20) (zI h4 l0 16).toNatClampNeg l3 → zK h5 l0 = 21 ∧ zK h5 l0 = 21 ∧ zK h5 (zR h5 l0 21) = 1 ∧ vp_in (zI h5 l0 16) (zL h5 (zR h5 l0 21)) ∧ ∀ h6, h6 = zwI h5 (zR h5 l0 21) (zI h5 l0 16).toNatClampNeg l4 → zK h6 l0 = 21 ∧ zK h6 l0 = 21 ∧ zK h6 l0 = 21 ∧ zK h6 (zR h6 l0 22) = 1 ∧ vp_in (zI h6 l0 16) (zL h6 (zR h6 l0 22)) ∧ ∀ h7, h7 = zwI h6 (zR h6 l0 22) (zI h6 l0 16).toNatClampNeg ((zI h6 l0 1) + l5) → zK h7 l0 = 21 ∧ zK h7 l0 = 21 ∧ zK h7 (zR h7 l0 23) = 1 ∧ vp_in (zI h7 l0 16) (zL h7 (zR h7 l0 23)) ∧ ∀ h8, h8 = zwI h7 (zR h7 l0 23) (zI h7 l0 16).toNatClampNeg (0 : Int32) → zK h8 l0 = 21 ∧ zK h8 l0 = 21 ∧ ∀ h9, h9 = zwI h8 l0 16 ((zI h8 l0 16) + (1 : Int32)) → zK h9 l0 = 21 ∧ (zK h9 (zR h9 l0 15) = 1 ∨ zK h9 (zR h9 l0 15) = 101) ∧ vp_in l1 (zL h9 (zR h9 l0 15)) ∧ K (some (.inl (zI h9 (zR h9 l0 15) l1.toNatClampNeg))) h9) : zWp zm84 call K 0 0 0 [some (.inr l0), some (.inl l1), some (.inl l2), some (.inl l3), some (.inl l4), some (.inl l5)] [] h := zGo [] 400 k
set_option maxHeartbeats 2000000 in
set_option maxRecDepth 100000 in
theorem r85_0 {call : zCall} {K : zT} {h : zH} {l0 : Nat} {l1 : Int32} {o2 : Option zV} (k : zK h l0 = 21 ∧ zK h l0 = 21 ∧ ∀ h1, h1 = zwI h l0 16 ((zI h l0 16) - (1 : Int32)) → zWp zm85 call K 0 0 12 [some (.inr l0), some (.inl l1), some (.inl l1)] [] h1) : zWp zm85 call K 0 0 0 [some (.inr l0), some (.inl l1), o2] [] h := zGo [12] 400 k
set_option maxHeartbeats 2000000 in
set_option maxRecDepth 100000 in
theorem r85_12 {call : zCall} {K : zT} {h : zH} {l0 : Nat} {l1 : Int32} {l2 : Int32} (k : zK h l0 = 21 ∧ ((zI h l0 16) ≤ l2 → K none h) ∧ (¬ (zI h l0 16) ≤ l2 → zK h l0 = 21 ∧ zK h l0 = 21 ∧ (zK h (zR h l0 17) = 1 ∨ zK h (zR h l0 17) = 101) ∧ vp_in (l2 + (1 : Int32)) (zL h (zR h l0 17)) ∧ zK h (zR h l0 17) = 1 ∧ vp_in l2 (zL h (zR h l0 17)) ∧ ∀ h1, h1 = zwI h (zR h l0 17) l2.toNatClampNeg (zI h (zR h l0 17) (l2 + (1 : Int32)).toNatClampNeg) → zK h1 l0 = 21 ∧ zK h1 l0 = 21 ∧ (zK h1 (zR h1 l0 18) = 1 ∨ zK h1 (zR h1 l0 18) = 101) ∧ vp_in (l2 + (1 : Int32)) (zL h1 (zR h1 l0 18)) ∧ zK h1 (zR h1 l0 18) = 1 ∧ vp_in l2 (zL h1 (zR h1 l0 18)) ∧ ∀ h2, h2 = zwI h1 (zR h1 l0 18) l2.toNatClampNeg (zI h1 (zR h1 l0 18) (l2 + (1 : Int32)).toNatClampNeg) → zK h2 l0 = 21 ∧ zK h2 l0 = 21 ∧ (zK h2 (zR h2 l0 19) = 1 ∨ zK h2 (zR h2 l0 19) = 101) ∧ vp_in (l2 + (1 : Int32)) (zL h2 (zR h2 l0 19)) ∧ zK h2 (zR h2 l0 19) = 1 ∧ vp_in l2 (zL h2 (zR h2 l0 19)) ∧ ∀ h3, h3 = zwI h2 (zR h2 l0 19) l2.toNatClampNeg (zI h2 (zR h2 l0 19) (l2 + (1 : Int32)).toNatClampNeg) → zK h3 l0 = 21 ∧ zK h3 l0 = 21 ∧ (zK h3 (zR h3 l0 20) = 1 ∨ zK h3 (zR h3 l0 20) = 101) ∧ vp_in (l2 + (1 : Int32)) (zL h3 (zR h3 l0 20)) ∧ zK h3 (zR h3 l0 20) = 1 ∧ vp_in l2 (zL h3 (zR h3 l0 20)) ∧ ∀ h4, h4 = zwI h3 (zR h3 l0 20) l2.toNatClampNeg (zI h3 (zR h3 l0 20) (l2 + (1 : Int32)).toNatClampNeg) → zK h4 l0 = 21 ∧ zK h4 l0 = 21 ∧ (zK h4 (zR h4 l0 21) = 1 ∨ zK h4 (zR h4 l0 21) = 101) ∧ vp_in (l2 + (1 : Int32)) (zL h4 (zR h4 l0 21)) ∧ zK h4 (zR h4 l0 21) = 1 ∧ vp_in l2 (zL h4 (zR h4 l0 21)) ∧ ∀ h5, h5 = zwI h4 (zR h4 l0 21) l2.toNatClampNeg (zI h4 (zR h4 l0 21) (l2 + (1 : Int32)).toNatClampNeg) → zK h5 l0 = 21 ∧ zK h5 l0 = 21 ∧ (zK h5 (zR h5 l0 22) = 1 ∨ zK h5 (zR h5 l0 22) = 101) ∧ vp_in (l2 + (1 : Int32)) (zL h5 (zR h5 l0 22)) ∧ zK h5 (zR h5 l0 22) = 1 ∧ vp_in l2 (zL h5 (zR h5 l0 22)) ∧ ∀ h6, h6 = zwI h5 (zR h5 l0 22) l2.toNatClampNeg (zI h5 (zR h5 l0 22) (l2 + (1 : Int32)).toNatClampNeg) → zK h6 l0 = 21 ∧ zK h6 l0 = 21 ∧ (zK h6 (zR h6 l0 23) = 1 ∨ zK h6 (zR h6 l0 23) = 101) ∧ vp_in (l2 + (1 : Int32)) (zL h6 (zR h6 l0 23)) ∧ zK h6 (zR h6 l0 23) = 1 ∧ vp_in l2 (zL h6 (zR h6 l0 23)) ∧ ∀ h7, h7 = zwI h6 (zR h6 l0 23) l2.toNatClampNeg (zI h6 (zR h6 l0 23) (l2 + (1 : Int32)).toNatClampNeg) → zWp zm85 call K 0 0 12 [some (.inr l0), some (.inl l1), some (.inl (l2 + (1 : Int32)))] [] h7)) : zWp zm85 call K 0 0 12 [some (.inr l0), some (.inl l1), some (.inl l2)] [] h := zGo [12] 400 k
set_option maxHeartbeats 2000000 in
set_option maxRecDepth 100000 in
theorem r86_0 {call : zCall} {K : zT} {h : zH} {l0 : Nat} {l1 : Int32} {l2 : Int32} (k : zK h l0 = 21 ∧ (zK h (zR h l0 19) = 1 ∨ zK h (zR h l0 19) = 101) ∧ vp_in l1 (zL h (zR h l0 19)) ∧ (¬ (zI h (zR h l0 19) l1.toNatClampNeg) = 0 → zK h l0 = 21 ∧ ∃ Q : zT, call 85 [.inr l0, .inl l1] h Q ∧ ∀ v h1, Q v h1 → zWp zm86 call K 0 0 35 [some (.inr l0), some (.inl l1), some (.inl l2)] (v.toList ++ []) h1) ∧ ((zI h (zR h l0 19) l1.toNatClampNeg) = 0 → zK h l0 = 21 ∧ zK h l0 = 21 ∧ (zK h (zR h l0 17) = 1 ∨ zK h (zR h l0 17) = 101) ∧ vp_in l1 (zL h (zR h l0 17)) ∧ zK h l0 = 21 ∧ (zK h (zR h l0 20) = 1 ∨ zK h (zR h l0 20) = 101) ∧ vp_in l1 (zL h (zR h l0 20)) ∧ zK h (zR h l0 12) = 1 ∧ vp_in (((4 : Int32) * (zI h (zR h l0 17) l1.toNatClampNeg)) + (zI h (zR h l0 20) l1.toNatClampNeg)) (zL h (zR h l0 12)) ∧ ∀ h2, h2 = zwI h (zR h l0 12) (((4 : Int32) * (zI h (zR h l0 17) l1.toNatClampNeg)) + (zI h (zR h l0 20) l1.toNatClampNeg)).toNatClampNeg l2 → zK h2 l0 = 21 ∧ ∃ Q : zT, call 85 [.inr l0, .inl l1] h2 Q ∧ ∀ v h3, Q v h3 → zWp zm86 call K 0 0 35 [some (.inr l0), some (.inl l1), some (.inl l2)] (v.toList ++ []) h3)) : zWp zm86 call K 0 0 0 [some (.inr l0), some (.inl l1), some (.inl l2)] [] h := zGo [35] 400 k
set_option maxHeartbeats 2000000 in
set_option maxRecDepth 100000 in
theorem r86_35 {call : zCall} {K : zT} {h : zH} {l0 : Nat} {l1 : Int32} {l2 : Int32} (k : K none h) : zWp zm86 call K 0 0 35 [some (.inr l0), some (.inl l1), some (.inl l2)] [] h := zGo [35] 400 k
set_option maxHeartbeats 2000000 in
set_option maxRecDepth 100000 in
theorem r87_0 {call : zCall} {K : zT} {h : zH} {l0 : Nat} {l1 : Int32} {l2 : Int32} {l3 : Int32} {l4 : Int32} {l5 : Int32} {l6 : Int32} {l7 : Int32} (k : zK h l0 = 21 ∧ (¬ (zI h l0 27) = (24 : Int32) → zK h l0 = 21 ∧ zK h l0 = 21 ∧ zK h (zR h l0 28) = 1 ∧ vp_in ((8 : Int32) * (zI h l0 27)) (zL h (zR h l0 28)) ∧ ∀ h1, h1 = zwI h (zR h l0 28) ((8 : Int32) * (zI h l0 27)).toNatClampNeg l1 → zK h1 l0 = 21 ∧ zK h1 l0 = 21 ∧ zK h1 (zR h1 l0 28) = 1 ∧ vp_in (((8 : Int32) * (zI h1 l0 27)) + (1 : Int32)) (zL h1 (zR h1 l0 28)) ∧ ∀ h2, h2 = zwI h1 (zR h1 l0 28) (((8 : Int32) * (zI h1 l0 27)) + (1 : Int32)).toNatClampNeg l2 → zK h2 l0 = 21 ∧ zK h2 l0 = 21 ∧ ¬ (10 : Int32) = 0 ∧ zK h2 (zR h2 l0 28) = 1 ∧ vp_in (((8 : Int32) * (zI h2 l0 27)) + (2 : Int32)) (zL h2 (zR h2 l0 28)) ∧ ∀ h3, h3 = zwI h2 (zR h2 l0 28) (((8 : Int32) * (zI h2 l0 27)) + (2 : Int32)).toNatClampNeg (l3 / (10 : Int32)) → zK h3 l0 = 21 ∧ zK h3 l0 = 21 ∧ ¬ (10 : Int32) = 0 ∧ zK h3 (zR h3 l0 28) = 1 ∧ vp_in (((8 : Int32) * (zI h3 l0 27)) + (3 : Int32)) (zL h3 (zR h3 l0 28)) ∧ ∀ h4, h4 = zwI h3 (zR h3 l0 28) (((8 : Int32) * (zI h3 l0 27)) + (3 : Int32)).toNatClampNeg (l3 - l3 / (10 : Int32) * (10 : Int32)) → zK h4 l0 = 21 ∧ zK h4 l0 = 21 ∧ zK h4 (zR h4 l0 28) = 1 ∧ vp_in (((8 : Int32) * (zI h4 l0 27)) + (4 : Int32)) (zL h4 (zR h4 l0 28)) ∧ ∀ h5, h5 = zwI h4 (zR h4 l0 28) (((8 : Int32) * (zI h4 l0 27)) + (4 : Int32)).toNatClampNeg l4 → zK h5 l0 = 21 ∧ zK h5 l0 = 21 ∧ zK h5 (zR h5 l0 28) = 1 ∧ vp_in (((8 : Int32) * (zI h5 l0 27)) + (5 : Int32)) (zL h5 (zR h5 l0 28)) ∧ ∀ h6, h6 = zwI h5 (zR h5 l0 28) (((8 : Int32) * (zI h5 l0 27)) + (5 : Int32)).toNatClampNeg l5 → zK h6 l0 = 21 ∧ zK h6 l0 = 21 ∧ zK h6 (zR h6 l0 28) = 1 ∧ vp_in (((8 : Int32) * (zI h6 l0 27)) + (6 : Int32)) (zL h6 (zR h6 l0 28)) ∧ ∀ h7, h7 = zwI h6 (zR h6 l0 28) (((8 : Int32) * (zI h6 l0 27)) + (6 : Int32)).toNatClampNeg l6 → zK h7 l0 = 21 ∧ zK h7 l0 = 21 ∧ zK h7 (zR h7 l0 28) = 1 ∧ vp_in (((8 : Int32) * (zI h7 l0 27)) + (7 : Int32)) (zL h7 (zR h7 l0 28)) ∧ ∀ h8, h8 = zwI h7 (zR h7 l0 28) (((8 : Int32) * (zI h7 l0 27)) + (7 : Int32)).toNatClampNeg l7 → zK h8 l0 = 21 ∧ zK h8 l0 = 21 ∧ ∀ h9, h9 = zwI h8 l0 27 ((zI h8 l0 27) + (1 : Int32)) → K none h9) ∧ ((zI h l0 27) = (24 : Int32) → K none h)) : zWp zm87 call K 0 0 0 [some (.inr l0), some (.inl l1), some (.inl l2), some (.inl l3), some (.inl l4), some (.inl l5), some (.inl l6), some (.inl l7)] [] h := zGo [] 400 k
set_option maxHeartbeats 2000000 in
set_option maxRecDepth 100000 in
theorem r88_0 {call : zCall} {K : zT} {h : zH} {l0 : Nat} {l1 : Int32} {o2 : Option zV} (k : zK h l0 = 21 ∧ zK h l0 = 21 ∧ ∀ h1, h1 = zwI h l0 27 ((zI h l0 27) - (1 : Int32)) → zWp zm88 call K 0 0 15 [some (.inr l0), some (.inl l1), some (.inl ((8 : Int32) * l1))] [] h1) : zWp zm88 call K 0 0 0 [some (.inr l0), some (.inl l1), o2] [] h := zGo [15] 400 k
set_option maxHeartbeats 2000000 in
set_option maxRecDepth 100000 in
theorem r88_15 {call : zCall} {K : zT} {h : zH} {l0 : Nat} {l1 : Int32} {l2 : Int32} (k : zK h l0 = 21 ∧ (((8 : Int32) * (zI h l0 27)) ≤ l2 → K none h) ∧ (¬ ((8 : Int32) * (zI h l0 27)) ≤ l2 → zK h l0 = 21 ∧ zK h l0 = 21 ∧ (zK h (zR h l0 28) = 1 ∨ zK h (zR h l0 28) = 101) ∧ vp_in (l2 + (8 : Int32)) (zL h (zR h l0 28)) ∧ zK h (zR h l0 28) = 1 ∧ vp_in l2 (zL h (zR h l0 28)) ∧ ∀ h1, h1 = zwI h (zR h l0 28) l2.toNatClampNeg (zI h (zR h l0 28) (l2 + (8 : Int32)).toNatClampNeg) → zWp zm88 call K 0 0 15 [some (.inr l0), some (.inl l1), some (.inl (l2 + (1 : Int32)))] [] h1)) : zWp zm88 call K 0 0 15 [some (.inr l0), some (.inl l1), some (.inl l2)] [] h := zGo [15] 400 k
set_option maxHeartbeats 2000000 in
set_option maxRecDepth 100000 in
theorem r89_0 {call : zCall} {K : zT} {h : zH} {l0 : Nat} {l1 : Int32} {l2 : Int32} {o3 : Option zV} (k : zK h l0 = 21 ∧ ∃ Q : zT, call 76 [.inr l0, .inl l1] h Q ∧ ∀ v h1, Q v h1 → zWp zm89 call K 0 0 5 [some (.inr l0), some (.inl l1), some (.inl l2), o3] (v.toList ++ []) h1) : zWp zm89 call K 0 0 0 [some (.inr l0), some (.inl l1), some (.inl l2), o3] [] h := zGo [5, 14, 25, 37, 48, 64, 88] 400 k
set_option maxHeartbeats 2000000 in
set_option maxRecDepth 100000 in
theorem r89_5 {call : zCall} {K : zT} {h : zH} {l0 : Nat} {l1 : Int32} {l2 : Int32} {o3 : Option zV} {s0 : Int32} (k : (s0 = 0 → K (some (.inl (-9 : Int32))) h) ∧ (¬ s0 = 0 → ∃ Q : zT, call 75 [.inl l2, .inl (0 : Int32), .inl (3 : Int32)] h Q ∧ ∀ v h1, Q v h1 → zWp zm89 call K 0 0 14 [some (.inr l0), some (.inl l1), some (.inl l2), o3] (v.toList ++ []) h1)) : zWp zm89 call K 0 0 5 [some (.inr l0), some (.inl l1), some (.inl l2), o3] [.inl s0] h := zGo [5, 14, 25, 37, 48, 64, 88] 400 k
set_option maxHeartbeats 2000000 in
set_option maxRecDepth 100000 in
theorem r89_14 {call : zCall} {K : zT} {h : zH} {l0 : Nat} {l1 : Int32} {l2 : Int32} {o3 : Option zV} {s0 : Int32} (k : (s0 = 0 → zK h l0 = 21 ∧ ∃ Q : zT, call 81 [.inr l0, .inl l1] h Q ∧ ∀ v h1, Q v h1 → zWp zm89 call K 0 0 25 [some (.inr l0), some (.inl l1), some (.inl l2), o3] (v.toList ++ []) h1) ∧ (¬ s0 = 0 → K (some (.inl (-9 : Int32))) h)) : zWp zm89 call K 0 0 14 [some (.inr l0), some (.inl l1), some (.inl l2), o3] [.inl s0] h := zGo [5, 14, 25, 37, 48, 64, 88] 400 k
set_option maxHeartbeats 2000000 in
set_option maxRecDepth 100000 in
theorem r89_25 {call : zCall} {K : zT} {h : zH} {l0 : Nat} {l1 : Int32} {l2 : Int32} {o3 : Option zV} {s0 : Int32} (k : (s0 = (2 : Int32) → K (some (.inl (-8 : Int32))) h) ∧ (¬ s0 = (2 : Int32) → zK h l0 = 21 ∧ ∃ Q : zT, call 83 [.inr l0, .inl l1, .inl (0 : Int32), .inl l2, .inl (0 : Int32)] h Q ∧ ∀ v h1, Q v h1 → zWp zm89 call K 0 0 37 [some (.inr l0), some (.inl l1), some (.inl l2), o3] (v.toList ++ []) h1)) : zWp zm89 call K 0 0 25 [some (.inr l0), some (.inl l1), some (.inl l2), o3] [.inl s0] h := zGo [5, 14, 25, 37, 48, 64, 88] 400 k
set_option maxHeartbeats 2000000 in
set_option maxRecDepth 100000 in
theorem r89_37 {call : zCall} {K : zT} {h : zH} {l0 : Nat} {l1 : Int32} {l2 : Int32} {o3 : Option zV} {s0 : Int32} (k : (s0 < 0 → zK h l0 = 21 ∧ ∃ Q : zT, call 80 [.inr l0, .inl l2] h Q ∧ ∀ v h1, Q v h1 → zWp zm89 call K 0 0 48 [some (.inr l0), some (.inl l1), some (.inl l2), o3] (v.toList ++ []) h1) ∧ (¬ s0 < 0 → K (some (.inl (-8 : Int32))) h)) : zWp zm89 call K 0 0 37 [some (.inr l0), some (.inl l1), some (.inl l2), o3] [.inl s0] h := zGo [5, 14, 25, 37, 48, 64, 88] 400 k
set_option maxHeartbeats 2000000 in
set_option maxRecDepth 100000 in
theorem r89_48 {call : zCall} {K : zT} {h : zH} {l0 : Nat} {l1 : Int32} {l2 : Int32} {o3 : Option zV} {s0 : Int32} (k : (¬ s0 = 0 → zK h l0 = 21 ∧ ∃ Q : zT, call 84 [.inr l0, .inl l1, .inl (0 : Int32), .inl l2, .inl (0 : Int32), .inl (10 : Int32)] h Q ∧ ∀ v h1, Q v h1 → zWp zm89 call K 0 0 64 [some (.inr l0), some (.inl l1), some (.inl l2), o3] (v.toList ++ []) h1) ∧ (s0 = 0 → K (some (.inl (-7 : Int32))) h)) : zWp zm89 call K 0 0 48 [some (.inr l0), some (.inl l1), some (.inl l2), o3] [.inl s0] h := zGo [5, 14, 25, 37, 48, 64, 88] 400 k
set_option maxHeartbeats 2000000 in
set_option maxRecDepth 100000 in
theorem r89_64 {call : zCall} {K : zT} {h : zH} {l0 : Nat} {l1 : Int32} {l2 : Int32} {o3 : Option zV} {s0 : Int32} (k : zK h l0 = 21 ∧ zK h (zR h l0 12) = 1 ∧ vp_in (((4 : Int32) * l1) + l2) (zL h (zR h l0 12)) ∧ ∀ h1, h1 = zwI h (zR h l0 12) (((4 : Int32) * l1) + l2).toNatClampNeg (1 : Int32) → zK h1 l0 = 21 ∧ ∃ Q : zT, call 87 [.inr l0, .inl l1, .inl (0 : Int32), .inl (11 : Int32), .inl l2, .inl s0, .inl (0 : Int32), .inl (0 : Int32)] h1 Q ∧ ∀ v h2, Q v h2 → zWp zm89 call K 0 0 88 [some (.inr l0), some (.inl l1), some (.inl l2), some (.inl s0)] (v.toList ++ []) h2) : zWp zm89 call K 0 0 64 [some (.inr l0), some (.inl l1), some (.inl l2), o3] [.inl s0] h := zGo [5, 14, 25, 37, 48, 64, 88] 400 k
set_option maxHeartbeats 2000000 in
set_option maxRecDepth 100000 in
theorem r89_88 {call : zCall} {K : zT} {h : zH} {l0 : Nat} {l1 : Int32} {l2 : Int32} {l3 : Int32} (k : K (some (.inl l3)) h) : zWp zm89 call K 0 0 88 [some (.inr l0), some (.inl l1), some (.inl l2), some (.inl l3)] [] h := zGo [5, 14, 25, 37, 48, 64, 88] 400 k
set_option maxHeartbeats 2000000 in
set_option maxRecDepth 100000 in
theorem r90_0 {call : zCall} {K : zT} {h : zH} {l0 : Nat} {l1 : Int32} {o2 : Option zV} (k : ∃ Q : zT, call 75 [.inl l1, .inl (0 : Int32), .inl (3 : Int32)] h Q ∧ ∀ v h1, Q v h1 → zWp zm90 call K 0 0 6 [some (.inr l0), some (.inl l1), o2] (v.toList ++ []) h1) : zWp zm90 call K 0 0 0 [some (.inr l0), some (.inl l1), o2] [] h := zGo [6, 29, 51, 100] 400 k
set_option maxHeartbeats 2000000 in
set_option maxRecDepth 100000 in
theorem r90_6 {call : zCall} {K : zT} {h : zH} {l0 : Nat} {l1 : Int32} {o2 : Option zV} {s0 : Int32} (k : (s0 = 0 → zK h l0 = 21 ∧ (zK h (zR h l0 3) = 1 ∨ zK h (zR h l0 3) = 101) ∧ vp_in l1 (zL h (zR h l0 3)) ∧ (¬ (zI h (zR h l0 3) l1.toNatClampNeg) = 0 → zK h l0 = 21 ∧ ∃ Q : zT, call 81 [.inr l0, .inl (0 : Int32)] h Q ∧ ∀ v h1, Q v h1 → zWp zm90 call K 0 0 29 [some (.inr l0), some (.inl l1), o2] (v.toList ++ []) h1) ∧ ((zI h (zR h l0 3) l1.toNatClampNeg) = 0 → K (some (.inl (-7 : Int32))) h)) ∧ (¬ s0 = 0 → K (some (.inl (-9 : Int32))) h)) : zWp zm90 call K 0 0 6 [some (.inr l0), some (.inl l1), o2] [.inl s0] h := zGo [6, 29, 51, 100] 400 k
set_option maxHeartbeats 2000000 in
set_option maxRecDepth 100000 in
theorem r90_29 {call : zCall} {K : zT} {h : zH} {l0 : Nat} {l1 : Int32} {o2 : Option zV} {s0 : Int32} (k : (¬ s0 = (4 : Int32) → zK h l0 = 21 ∧ (zK h (zR h l0 3) = 1 ∨ zK h (zR h l0 3) = 101) ∧ vp_in l1 (zL h (zR h l0 3)) ∧ zK h l0 = 21 ∧ ∃ Q : zT, call 84 [.inr l0, .inl (0 : Int32), .inl (3 : Int32), .inl l1, .inl (zI h (zR h l0 3) l1.toNatClampNeg), .inl (6 : Int32)] h Q ∧ ∀ v h1, Q v h1 → zWp zm90 call K 0 0 51 [some (.inr l0), some (.inl l1), o2] (v.toList ++ []) h1) ∧ (s0 = (4 : Int32) → K (some (.inl (-8 : Int32))) h)) : zWp zm90 call K 0 0 29 [some (.inr l0), some (.inl l1), o2] [.inl s0] h := zGo [6, 29, 51, 100] 400 k
set_option maxHeartbeats 2000000 in
set_option maxRecDepth 100000 in
theorem r90_51 {call : zCall} {K : zT} {h : zH} {l0 : Nat} {l1 : Int32} {o2 : Option zV} {s0 : Int32} (k : zK h l0 = 21 ∧ zK h l0 = 21 ∧ zK h (zR h l0 25) = 1 ∧ vp_in (zI h l0 24) (zL h (zR h l0 25)) ∧ ∀ h1, h1 = zwI h (zR h l0 25) (zI h l0 24).toNatClampNeg s0 → zK h1 l0 = 21 ∧ zK h1 l0 = 21 ∧ zK h1 (zR h1 l0 26) = 1 ∧ vp_in (zI h1 l0 24) (zL h1 (zR h1 l0 26)) ∧ ∀ h2, h2 = zwI h1 (zR h1 l0 26) (zI h1 l0 24).toNatClampNeg (-6 : Int32) → zK h2 l0 = 21 ∧ zK h2 l0 = 21 ∧ ∀ h3, h3 = zwI h2 l0 24 ((zI h2 l0 24) + (1 : Int32)) → zK h3 l0 = 21 ∧ (zK h3 (zR h3 l0 3) = 1 ∨ zK h3 (zR h3 l0 3) = 101) ∧ vp_in l1 (zL h3 (zR h3 l0 3)) ∧ zK h3 l0 = 21 ∧ ∃ Q : zT, call 87 [.inr l0, .inl (0 : Int32), .inl (zI h3 (zR h3 l0 3) l1.toNatClampNeg), .inl (14 : Int32), .inl l1, .inl s0, .inl (0 : Int32), .inl (0 : Int32)] h3 Q ∧ ∀ v h4, Q v h4 → zWp zm90 call K 0 0 100 [some (.inr l0), some (.inl l1), some (.inl s0)] (v.toList ++ []) h4) : zWp zm90 call K 0 0 51 [some (.inr l0), some (.inl l1), o2] [.inl s0] h := zGo [6, 29, 51, 100] 400 k
set_option maxHeartbeats 2000000 in
set_option maxRecDepth 100000 in
theorem r90_100 {call : zCall} {K : zT} {h : zH} {l0 : Nat} {l1 : Int32} {l2 : Int32} (k : K (some (.inl l2)) h) : zWp zm90 call K 0 0 100 [some (.inr l0), some (.inl l1), some (.inl l2)] [] h := zGo [6, 29, 51, 100] 400 k
set_option maxHeartbeats 2000000 in
set_option maxRecDepth 100000 in
theorem r91_0 {call : zCall} {K : zT} {h : zH} {l0 : Nat} {l1 : Int32} {o2 : Option zV} (k : zWp zm91 call K 0 0 2 [some (.inr l0), some (.inl l1), some (.inl (0 : Int32))] [] h) : zWp zm91 call K 0 0 0 [some (.inr l0), some (.inl l1), o2] [] h := zGo [2] 400 k
set_option maxHeartbeats 2000000 in
set_option maxRecDepth 100000 in
theorem r91_2 {call : zCall} {K : zT} {h : zH} {l0 : Nat} {l1 : Int32} {l2 : Int32} (k : zK h l0 = 21 ∧ ((zI h l0 24) ≤ l2 → K (some (.inl (-1 : Int32))) h) ∧ (¬ (zI h l0 24) ≤ l2 → zK h l0 = 21 ∧ (zK h (zR h l0 25) = 1 ∨ zK h (zR h l0 25) = 101) ∧ vp_in l2 (zL h (zR h l0 25)) ∧ (¬ (zI h (zR h l0 25) l2.toNatClampNeg) = l1 → zWp zm91 call K 0 0 2 [some (.inr l0), some (.inl l1), some (.inl (l2 + (1 : Int32)))] [] h) ∧ ((zI h (zR h l0 25) l2.toNatClampNeg) = l1 → K (some (.inl l2)) h))) : zWp zm91 call K 0 0 2 [some (.inr l0), some (.inl l1), some (.inl l2)] [] h := zGo [2] 400 k
set_option maxHeartbeats 2000000 in
set_option maxRecDepth 100000 in
theorem r92_0 {call : zCall} {K : zT} {h : zH} {l0 : Nat} {l1 : Int32} {o2 : Option zV} (k : zK h l0 = 21 ∧ ∃ Q : zT, call 91 [.inr l0, .inl l1] h Q ∧ ∀ v h1, Q v h1 → zWp zm92 call K 0 0 5 [some (.inr l0), some (.inl l1), o2] (v.toList ++ []) h1) : zWp zm92 call K 0 0 0 [some (.inr l0), some (.inl l1), o2] [] h := zGo [5] 400 k
set_option maxHeartbeats 2000000 in
set_option maxRecDepth 100000 in
theorem r92_5 {call : zCall} {K : zT} {h : zH} {l0 : Nat} {l1 : Int32} {o2 : Option zV} {s0 : Int32} (k : (s0 < 0 → K (some (.inl (-9 : Int32))) h) ∧ (¬ s0 < 0 → zK h l0 = 21 ∧ ((((zI h l0 24) - (1 : Int32)) - s0) < (20 : Int32) → zK h l0 = 21 ∧ (zK h (zR h l0 26) = 1 ∨ zK h (zR h l0 26) = 101) ∧ vp_in s0 (zL h (zR h l0 26)) ∧ K (some (.inl (zI h (zR h l0 26) s0.toNatClampNeg))) h) ∧ (¬ (((zI h l0 24) - (1 : Int32)) - s0) < (20 : Int32) → K (some (.inl (-9 : Int32))) h))) : zWp zm92 call K 0 0 5 [some (.inr l0), some (.inl l1), o2] [.inl s0] h := zGo [5] 400 k
set_option maxHeartbeats 2000000 in
set_option maxRecDepth 100000 in
theorem r93_0 {call : zCall} {K : zT} {h : zH} {l0 : Nat} {l1 : Int32} {l2 : Int32} {o3 : Option zV} (k : zWp zm93 call K 0 0 2 [some (.inr l0), some (.inl l1), some (.inl l2), some (.inl (0 : Int32))] [] h) : zWp zm93 call K 0 0 0 [some (.inr l0), some (.inl l1), some (.inl l2), o3] [] h := zGo [2] 400 k
set_option maxHeartbeats 2000000 in
set_option maxRecDepth 100000 in
theorem r93_2 {call : zCall} {K : zT} {h : zH} {l0 : Nat} {l1 : Int32} {l2 : Int32} {l3 : Int32} (k : zK h l0 = 21 ∧ ((zI h l0 8) ≤ l3 → K (some (.inl (-1 : Int32))) h) ∧ (¬ (zI h l0 8) ≤ l3 → zK h l0 = 21 ∧ (zK h (zR h l0 9) = 1 ∨ zK h (zR h l0 9) = 101) ∧ vp_in l3 (zL h (zR h l0 9)) ∧ (¬ (zI h (zR h l0 9) l3.toNatClampNeg) = l1 → zWp zm93 call K 0 0 2 [some (.inr l0), some (.inl l1), some (.inl l2), some (.inl (l3 + (1 : Int32)))] [] h) ∧ ((zI h (zR h l0 9) l3.toNatClampNeg) = l1 → zK h l0 = 21 ∧ (zK h (zR h l0 10) = 1 ∨ zK h (zR h l0 10) = 101) ∧ vp_in l3 (zL h (zR h l0 10)) ∧ (¬ (zI h (zR h l0 10) l3.toNatClampNeg) = l2 → zWp zm93 call K 0 0 2 [some (.inr l0), some (.inl l1), some (.inl l2), some (.inl (l3 + (1 : Int32)))] [] h) ∧ ((zI h (zR h l0 10) l3.toNatClampNeg) = l2 → K (some (.inl l3)) h)))) : zWp zm93 call K 0 0 2 [some (.inr l0), some (.inl l1), some (.inl l2), some (.inl l3)] [] h := zGo [2] 400 k
set_option maxHeartbeats 2000000 in
set_option maxRecDepth 100000 in
theorem r94_0 {call : zCall} {K : zT} {h : zH} {l0 : Nat} {l1 : Int32} {l2 : Int32} {o3 : Option zV} {o4 : Option zV} (k : zK h l0 = 21 ∧ ∃ Q : zT, call 93 [.inr l0, .inl l1, .inl l2] h Q ∧ ∀ v h1, Q v h1 → zWp zm94 call K 0 0 6 [some (.inr l0), some (.inl l1), some (.inl l2), o3, o4] (v.toList ++ []) h1) : zWp zm94 call K 0 0 0 [some (.inr l0), some (.inl l1), some (.inl l2), o3, o4] [] h := zGo [6, 25] 400 k
set_option maxHeartbeats 2000000 in
set_option maxRecDepth 100000 in
theorem r94_6 {call : zCall} {K : zT} {h : zH} {l0 : Nat} {l1 : Int32} {l2 : Int32} {o3 : Option zV} {o4 : Option zV} {s0 : Int32} (k : (0 ≤ s0 → zK h l0 = 21 ∧ zK h l0 = 21 ∧ ∀ h1, h1 = zwI h l0 8 ((zI h l0 8) - (1 : Int32)) → zWp zm94 call K 0 0 25 [some (.inr l0), some (.inl l1), some (.inl l2), some (.inl s0), some (.inl s0)] [] h1) ∧ (¬ 0 ≤ s0 → K none h)) : zWp zm94 call K 0 0 6 [some (.inr l0), some (.inl l1), some (.inl l2), o3, o4] [.inl s0] h := zGo [6, 25] 400 k
set_option maxHeartbeats 2000000 in
set_option maxRecDepth 100000 in
theorem r94_25 {call : zCall} {K : zT} {h : zH} {l0 : Nat} {l1 : Int32} {l2 : Int32} {l3 : Int32} {l4 : Int32} (k : zK h l0 = 21 ∧ ((zI h l0 8) ≤ l4 → K none h) ∧ (¬ (zI h l0 8) ≤ l4 → zK h l0 = 21 ∧ zK h l0 = 21 ∧ (zK h (zR h l0 9) = 1 ∨ zK h (zR h l0 9) = 101) ∧ vp_in (l4 + (1 : Int32)) (zL h (zR h l0 9)) ∧ zK h (zR h l0 9) = 1 ∧ vp_in l4 (zL h (zR h l0 9)) ∧ ∀ h1, h1 = zwI h (zR h l0 9) l4.toNatClampNeg (zI h (zR h l0 9) (l4 + (1 : Int32)).toNatClampNeg) → zK h1 l0 = 21 ∧ zK h1 l0 = 21 ∧ (zK h1 (zR h1 l0 10) = 1 ∨ zK h1 (zR h1 l0 10) = 101) ∧ vp_in (l4 + (1 : Int32)) (zL h1 (zR h1 l0 10)) ∧ zK h1 (zR h1 l0 10) = 1 ∧ vp_in l4 (zL h1 (zR h1 l0 10)) ∧ ∀ h2, h2 = zwI h1 (zR h1 l0 10) l4.toNatClampNeg (zI h1 (zR h1 l0 10) (l4 + (1 : Int32)).toNatClampNeg) → zWp zm94 call K 0 0 25 [some (.inr l0), some (.inl l1), some (.inl l2), some (.inl l3), some (.inl (l4 + (1 : Int32)))] [] h2)) : zWp zm94 call K 0 0 25 [some (.inr l0), some (.inl l1), some (.inl l2), some (.inl l3), some (.inl l4)] [] h := zGo [6, 25] 400 k
set_option maxHeartbeats 2000000 in
set_option maxRecDepth 100000 in
theorem r95_0 {call : zCall} {K : zT} {h : zH} {l0 : Nat} {l1 : Int32} {l2 : Int32} {l3 : Int32} {l4 : Int32} (k : zK h l0 = 21 ∧ ∃ Q : zT, call 87 [.inr l0, .inl l1, .inl l2, .inl (40 : Int32), .inl (0 : Int32), .inl l4, .inl l3, .inl (0 : Int32)] h Q ∧ ∀ v h1, Q v h1 → zWp zm95 call K 0 0 13 [some (.inr l0), some (.inl l1), some (.inl l2), some (.inl l3), some (.inl l4)] (v.toList ++ []) h1) : zWp zm95 call K 0 0 0 [some (.inr l0), some (.inl l1), some (.inl l2), some (.inl l3), some (.inl l4)] [] h := zGo [13] 400 k
set_option maxHeartbeats 2000000 in
set_option maxRecDepth 100000 in
theorem r95_13 {call : zCall} {K : zT} {h : zH} {l0 : Nat} {l1 : Int32} {l2 : Int32} {l3 : Int32} {l4 : Int32} (k : K none h) : zWp zm95 call K 0 0 13 [some (.inr l0), some (.inl l1), some (.inl l2), some (.inl l3), some (.inl l4)] [] h := zGo [13] 400 k
set_option maxHeartbeats 2000000 in
set_option maxRecDepth 100000 in
theorem r96_0 {call : zCall} {K : zT} {h : zH} {l0 : Nat} {l1 : Int32} {l2 : Int32} {l3 : Int32} {o4 : Option zV} {o5 : Option zV} {o6 : Option zV} {o7 : Option zV} {o8 : Option zV} (k : zWp zm96 call K 0 0 3 [some (.inr l0), some (.inl l1), some (.inl l2), some (.inl l3), some (.inl (0 : Int32)), o5, o6, o7, o8] [] h) : zWp zm96 call K 0 0 0 [some (.inr l0), some (.inl l1), some (.inl l2), some (.inl l3), o4, o5, o6, o7, o8] [] h := zGo [3, 100, 115, 141, 184, 192, 205, 222, 249] 400 k
set_option maxHeartbeats 2000000 in
set_option maxRecDepth 100000 in
theorem r96_3 {call : zCall} {K : zT} {h : zH} {l0 : Nat} {l1 : Int32} {l2 : Int32} {l3 : Int32} {l4 : Int32} {o5 : Option zV} {o6 : Option zV} {o7 : Option zV} {o8 : Option zV} (k : zK h l0 = 21 ∧ ((zI h l0 16) ≤ l4 → zK h l0 = 21 ∧ (zK h (zR h l0 3) = 1 ∨ zK h (zR h l0 3) = 101) ∧ vp_in l3 (zL h (zR h l0 3)) ∧ ((zI h (zR h l0 3) l3.toNatClampNeg) = 0 → ((0 : Int32) = 0 → zK h l0 = 21 ∧ ∃ Q : zT, call 81 [.inr l0, .inl (0 : Int32)] h Q ∧ ∀ v h1, Q v h1 → zWp zm96 call K 0 0 115 [some (.inr l0), some (.inl l1), some (.inl l2), some (.inl l3), some (.inl (zI h (zR h l0 3) l3.toNatClampNeg)), some (.inl (0 : Int32)), some (.inl (0 : Int32)), o7, o8] (v.toList ++ []) h1) ∧ (¬ (0 : Int32) = 0 → zK h l0 = 21 ∧ ∃ Q : zT, call 93 [.inr l0, .inl (zI h (zR h l0 3) l3.toNatClampNeg), .inl l3] h Q ∧ ∀ v h2, Q v h2 → zWp zm96 call K 0 0 100 [some (.inr l0), some (.inl l1), some (.inl l2), some (.inl l3), some (.inl (zI h (zR h l0 3) l3.toNatClampNeg)), some (.inl (0 : Int32)), o6, o7, o8] (v.toList ++ []) h2)) ∧ (¬ (zI h (zR h l0 3) l3.toNatClampNeg) = 0 → ((zI h (zR h l0 3) l3.toNatClampNeg) = l1 → ((0 : Int32) = 0 → zK h l0 = 21 ∧ ∃ Q : zT, call 81 [.inr l0, .inl (0 : Int32)] h Q ∧ ∀ v h3, Q v h3 → zWp zm96 call K 0 0 115 [some (.inr l0), some (.inl l1), some (.inl l2), some (.inl l3), some (.inl (zI h (zR h l0 3) l3.toNatClampNeg)), some (.inl (0 : Int32)), some (.inl (0 : Int32)), o7, o8] (v.toList ++ []) h3) ∧ (¬ (0 : Int32) = 0 → zK h l0 = 21 ∧ ∃ Q : zT, call 93 [.inr l0, .inl (zI h (zR h l0 3) l3.toNatClampNeg), .inl l3] h Q ∧ ∀ v h4, Q v h4 → zWp zm96 call K 0 0 100 [some (.inr l0), some (.inl l1), some (.inl l2), some (.inl l3), some (.inl (zI h (zR h l0 3) l3.toNatClampNeg)), some (.inl (0 : Int32)), o6, o7, o8] (v.toList ++ []) h4)) ∧ (¬ (zI h (zR h l0 3) l3.toNatClampNeg) = l1 → ((1 : Int32) = 0 → zK h l0 = 21 ∧ ∃ Q : zT, call 81 [.inr l0, .inl (0 : Int32)] h Q ∧ ∀ v h5, Q v h5 → zWp zm96 call K 0 0 115 [some (.inr l0), some (.inl l1), some (.inl l2), some (.inl l3), some (.inl (zI h (zR h l0 3) l3.toNatClampNeg)), some (.inl (1 : Int32)), some (.inl (0 : Int32)), o7, o8] (v.toList ++ []) h5) ∧ (¬ (1 : Int32) = 0 → zK h l0 = 21 ∧ ∃ Q : zT, call 93 [.inr l0, .inl (zI h (zR h l0 3) l3.toNatClampNeg), .inl l3] h Q ∧ ∀ v h6, Q v h6 → zWp zm96 call K 0 0 100 [some (.inr l0), some (.inl l1), some (.inl l2), some (.inl l3), some (.inl (zI h (zR h l0 3) l3.toNatClampNeg)), some (.inl (1 : Int32)), o6, o7, o8] (v.toList ++ []) h6)))) ∧ (¬ (zI h l0 16) ≤ l4 → zK h l0 = 21 ∧ (zK h (zR h l0 17) = 1 ∨ zK h (zR h l0 17) = 101) ∧ vp_in l4 (zL h (zR h l0 17)) ∧ (¬ (zI h (zR h l0 17) l4.toNatClampNeg) = 0 → zWp zm96 call K 0 0 3 [some (.inr l0), some (.inl l1), some (.inl l2), some (.inl l3), some (.inl (l4 + (1 : Int32))), o5, o6, o7, o8] [] h) ∧ ((zI h (zR h l0 17) l4.toNatClampNeg) = 0 → zK h l0 = 21 ∧ (zK h (zR h l0 19) = 1 ∨ zK h (zR h l0 19) = 101) ∧ vp_in l4 (zL h (zR h l0 19)) ∧ (¬ (zI h (zR h l0 19) l4.toNatClampNeg) = (1 : Int32) → zWp zm96 call K 0 0 3 [some (.inr l0), some (.inl l1), some (.inl l2), some (.inl l3), some (.inl (l4 + (1 : Int32))), o5, o6, o7, o8] [] h) ∧ ((zI h (zR h l0 19) l4.toNatClampNeg) = (1 : Int32) → zK h l0 = 21 ∧ (zK h (zR h l0 21) = 1 ∨ zK h (zR h l0 21) = 101) ∧ vp_in l4 (zL h (zR h l0 21)) ∧ (¬ (zI h (zR h l0 21) l4.toNatClampNeg) = l1 → zWp zm96 call K 0 0 3 [some (.inr l0), some (.inl l1), some (.inl l2), some (.inl l3), some (.inl (l4 + (1 : Int32))), o5, o6, o7, o8] [] h) ∧ ((zI h (zR h l0 21) l4.toNatClampNeg) = l1 → zK h l0 = 21 ∧ (zK h (zR h l0 23) = 1 ∨ zK h (zR h l0 23) = 101) ∧ vp_in l4 (zL h (zR h l0 23)) ∧ (¬ (zI h (zR h l0 23) l4.toNatClampNeg) = l2 → zWp zm96 call K 0 0 3 [some (.inr l0), some (.inl l1), some (.inl l2), some (.inl l3), some (.inl (l4 + (1 : Int32))), o5, o6, o7, o8] [] h) ∧ ((zI h (zR h l0 23) l4.toNatClampNeg) = l2 → K none h)))))) : zWp zm96 call K 0 0 3 [some (.inr l0), some (.inl l1), some (.inl l2), some (.inl l3), some (.inl l4), o5, o6, o7, o8] [] h := zGo [3, 100, 115, 141, 184, 192, 205, 222, 249] 400 k
set_option maxHeartbeats 2000000 in
set_option maxRecDepth 100000 in
theorem r96_100 {call : zCall} {K : zT} {h : zH} {l0 : Nat} {l1 : Int32} {l2 : Int32} {l3 : Int32} {l4 : Int32} {l5 : Int32} {o6 : Option zV} {o7 : Option zV} {o8 : Option zV} {s0 : Int32} (k : (0 ≤ s0 → zK h l0 = 21 ∧ ∃ Q : zT, call 81 [.inr l0, .inl (0 : Int32)] h Q ∧ ∀ v h1, Q v h1 → zWp zm96 call K 0 0 115 [some (.inr l0), some (.inl l1), some (.inl l2), some (.inl l3), some (.inl l4), some (.inl l5), some (.inl (0 : Int32)), o7, o8] (v.toList ++ []) h1) ∧ (¬ 0 ≤ s0 → zK h l0 = 21 ∧ ∃ Q : zT, call 81 [.inr l0, .inl (0 : Int32)] h Q ∧ ∀ v h2, Q v h2 → zWp zm96 call K 0 0 115 [some (.inr l0), some (.inl l1), some (.inl l2), some (.inl l3), some (.inl l4), some (.inl l5), some (.inl (1 : Int32)), o7, o8] (v.toList ++ []) h2)) : zWp zm96 call K 0 0 100 [some (.inr l0), some (.inl l1), some (.inl l2), some (.inl l3), some (.inl l4), some (.inl l5), o6, o7, o8] [.inl s0] h := zGo [3, 100, 115, 141, 184, 192, 205, 222, 249] 400 k
set_option maxHeartbeats 2000000 in
set_option maxRecDepth 100000 in
theorem r96_115 {call : zCall} {K : zT} {h : zH} {l0 : Nat} {l1 : Int32} {l2 : Int32} {l3 : Int32} {l4 : Int32} {l5 : Int32} {l6 : Int32} {o7 : Option zV} {o8 : Option zV} {s0 : Int32} (k : (s0 = (4 : Int32) → zK h l0 = 21 ∧ ∃ Q : zT, call 95 [.inr l0, .inl (0 : Int32), .inl l1, .inl l2, .inl (0 : Int32)] h Q ∧ ∀ v h1, Q v h1 → zWp zm96 call K 0 0 141 [some (.inr l0), some (.inl l1), some (.inl l2), some (.inl l3), some (.inl l4), some (.inl l5), some (.inl l6), o7, o8] (v.toList ++ []) h1) ∧ (¬ s0 = (4 : Int32) → (l6 = 0 → (l6 = 0 → zK h l0 = 21 ∧ ∃ Q : zT, call 94 [.inr l0, .inl l1, .inl l3] h Q ∧ ∀ v h2, Q v h2 → zWp zm96 call K 0 0 184 [some (.inr l0), some (.inl l1), some (.inl l2), some (.inl l3), some (.inl l4), some (.inl l5), some (.inl l6), o7, o8] (v.toList ++ []) h2) ∧ (¬ l6 = 0 → zK h l0 = 21 ∧ zK h l0 = 21 ∧ zK h (zR h l0 9) = 1 ∧ vp_in (zI h l0 8) (zL h (zR h l0 9)) ∧ ∀ h3, h3 = zwI h (zR h l0 9) (zI h l0 8).toNatClampNeg l4 → zK h3 l0 = 21 ∧ zK h3 l0 = 21 ∧ zK h3 (zR h3 l0 10) = 1 ∧ vp_in (zI h3 l0 8) (zL h3 (zR h3 l0 10)) ∧ ∀ h4, h4 = zwI h3 (zR h3 l0 10) (zI h3 l0 8).toNatClampNeg l3 → zK h4 l0 = 21 ∧ zK h4 l0 = 21 ∧ ∀ h5, h5 = zwI h4 l0 8 ((zI h4 l0 8) + (1 : Int32)) → zK h5 l0 = 21 ∧ ∃ Q : zT, call 94 [.inr l0, .inl l1, .inl l3] h5 Q ∧ ∀ v h6, Q v h6 → zWp zm96 call K 0 0 184 [some (.inr l0), some (.inl l1), some (.inl l2), some (.inl l3), some (.inl l4), some (.inl l5), some (.inl l6), o7, o8] (v.toList ++ []) h6)) ∧ (¬ l6 = 0 → zK h l0 = 21 ∧ (¬ (zI h l0 8) = (6 : Int32) → (l6 = 0 → zK h l0 = 21 ∧ ∃ Q : zT, call 94 [.inr l0, .inl l1, .inl l3] h Q ∧ ∀ v h7, Q v h7 → zWp zm96 call K 0 0 184 [some (.inr l0), some (.inl l1), some (.inl l2), some (.inl l3), some (.inl l4), some (.inl l5), some (.inl l6), o7, o8] (v.toList ++ []) h7) ∧ (¬ l6 = 0 → zK h l0 = 21 ∧ zK h l0 = 21 ∧ zK h (zR h l0 9) = 1 ∧ vp_in (zI h l0 8) (zL h (zR h l0 9)) ∧ ∀ h8, h8 = zwI h (zR h l0 9) (zI h l0 8).toNatClampNeg l4 → zK h8 l0 = 21 ∧ zK h8 l0 = 21 ∧ zK h8 (zR h8 l0 10) = 1 ∧ vp_in (zI h8 l0 8) (zL h8 (zR h8 l0 10)) ∧ ∀ h9, h9 = zwI h8 (zR h8 l0 10) (zI h8 l0 8).toNatClampNeg l3 → zK h9 l0 = 21 ∧ zK h9 l0 = 21 ∧ ∀ h10, h10 = zwI h9 l0 8 ((zI h9 l0 8) + (1 : Int32)) → zK h10 l0 = 21 ∧ ∃ Q : zT, call 94 [.inr l0, .inl l1, .inl l3] h10 Q ∧ ∀ v h11, Q v h11 → zWp zm96 call K 0 0 184 [some (.inr l0), some (.inl l1), some (.inl l2), some (.inl l3), some (.inl l4), some (.inl l5), some (.inl l6), o7, o8] (v.toList ++ []) h11)) ∧ ((zI h l0 8) = (6 : Int32) → zK h l0 = 21 ∧ ∃ Q : zT, call 95 [.inr l0, .inl (0 : Int32), .inl l1, .inl l2, .inl (0 : Int32)] h Q ∧ ∀ v h12, Q v h12 → zWp zm96 call K 0 0 141 [some (.inr l0), some (.inl l1), some (.inl l2), some (.inl l3), some (.inl l4), some (.inl l5), some (.inl l6), o7, o8] (v.toList ++ []) h12)))) : zWp zm96 call K 0 0 115 [some (.inr l0), some (.inl l1), some (.inl l2), some (.inl l3), some (.inl l4), some (.inl l5), some (.inl l6), o7, o8] [.inl s0] h := zGo [3, 100, 115, 141, 184, 192, 205, 222, 249] 400 k
set_option maxHeartbeats 2000000 in
set_option maxRecDepth 100000 in
theorem r96_141 {call : zCall} {K : zT} {h : zH} {l0 : Nat} {l1 : Int32} {l2 : Int32} {l3 : Int32} {l4 : Int32} {l5 : Int32} {l6 : Int32} {o7 : Option zV} {o8 : Option zV} (k : K none h) : zWp zm96 call K 0 0 141 [some (.inr l0), some (.inl l1), some (.inl l2), some (.inl l3), some (.inl l4), some (.inl l5), some (.inl l6), o7, o8] [] h := zGo [3, 100, 115, 141, 184, 192, 205, 222, 249] 400 k
set_option maxHeartbeats 2000000 in
set_option maxRecDepth 100000 in
theorem r96_184 {call : zCall} {K : zT} {h : zH} {l0 : Nat} {l1 : Int32} {l2 : Int32} {l3 : Int32} {l4 : Int32} {l5 : Int32} {l6 : Int32} {o7 : Option zV} {o8 : Option zV} (k : zK h l0 = 21 ∧ ∃ Q : zT, call 83 [.inr l0, .inl (0 : Int32), .inl (2 : Int32), .inl l3, .inl l1] h Q ∧ ∀ v h1, Q v h1 → zWp zm96 call K 0 0 192 [some (.inr l0), some (.inl l1), some (.inl l2), some (.inl l3), some (.inl l4), some (.inl l5), some (.inl l6), o7, o8] (v.toList ++ []) h1) : zWp zm96 call K 0 0 184 [some (.inr l0), some (.inl l1), some (.inl l2), some (.inl l3), some (.inl l4), some (.inl l5), some (.inl l6), o7, o8] [] h := zGo [3, 100, 115, 141, 184, 192, 205, 222, 249] 400 k
set_option maxHeartbeats 2000000 in
set_option maxRecDepth 100000 in
theorem r96_192 {call : zCall} {K : zT} {h : zH} {l0 : Nat} {l1 : Int32} {l2 : Int32} {l3 : Int32} {l4 : Int32} {l5 : Int32} {l6 : Int32} {o7 : Option zV} {o8 : Option zV} {s0 : Int32} (k : (s0 < 0 → zWp zm96 call K 0 0 205 [some (.inr l0), some (.inl l1), some (.inl l2), some (.inl l3), some (.inl l4), some (.inl l5), some (.inl l6), some (.inl s0), o8] [] h) ∧ (¬ s0 < 0 → zK h l0 = 21 ∧ ∃ Q : zT, call 85 [.inr l0, .inl s0] h Q ∧ ∀ v h1, Q v h1 → zWp zm96 call K 0 0 205 [some (.inr l0), some (.inl l1), some (.inl l2), some (.inl l3), some (.inl l4), some (.inl l5), some (.inl l6), some (.inl s0), o8] (v.toList ++ []) h1)) : zWp zm96 call K 0 0 192 [some (.inr l0), some (.inl l1), some (.inl l2), some (.inl l3), some (.inl l4), some (.inl l5), some (.inl l6), o7, o8] [.inl s0] h := zGo [3, 100, 115, 141, 184, 192, 205, 222, 249] 400 k
set_option maxHeartbeats 2000000 in
set_option maxRecDepth 100000 in
theorem r96_205 {call : zCall} {K : zT} {h : zH} {l0 : Nat} {l1 : Int32} {l2 : Int32} {l3 : Int32} {l4 : Int32} {l5 : Int32} {l6 : Int32} {l7 : Int32} {o8 : Option zV} (k : zK h l0 = 21 ∧ zK h (zR h l0 3) = 1 ∧ vp_in l3 (zL h (zR h l0 3)) ∧ ∀ h1, h1 = zwI h (zR h l0 3) l3.toNatClampNeg l1 → zK h1 l0 = 21 ∧ ∃ Q : zT, call 84 [.inr l0, .inl (0 : Int32), .inl (1 : Int32), .inl l3, .inl l1, .inl (6 : Int32)] h1 Q ∧ ∀ v h2, Q v h2 → zWp zm96 call K 0 0 222 [some (.inr l0), some (.inl l1), some (.inl l2), some (.inl l3), some (.inl l4), some (.inl l5), some (.inl l6), some (.inl l7), o8] (v.toList ++ []) h2) : zWp zm96 call K 0 0 205 [some (.inr l0), some (.inl l1), some (.inl l2), some (.inl l3), some (.inl l4), some (.inl l5), some (.inl l6), some (.inl l7), o8] [] h := zGo [3, 100, 115, 141, 184, 192, 205, 222, 249] 400 k
set_option maxHeartbeats 2000000 in
set_option maxRecDepth 100000 in
theorem r96_222 {call : zCall} {K : zT} {h : zH} {l0 : Nat} {l1 : Int32} {l2 : Int32} {l3 : Int32} {l4 : Int32} {l5 : Int32} {l6 : Int32} {l7 : Int32} {o8 : Option zV} {s0 : Int32} (k : zK h l0 = 21 ∧ zK h l0 = 21 ∧ zK h (zR h l0 23) = 1 ∧ vp_in ((zI h l0 16) - (1 : Int32)) (zL h (zR h l0 23)) ∧ ∀ h1, h1 = zwI h (zR h l0 23) ((zI h l0 16) - (1 : Int32)).toNatClampNeg l2 → zK h1 l0 = 21 ∧ ∃ Q : zT, call 87 [.inr l0, .inl (0 : Int32), .inl l1, .inl (22 : Int32), .inl l3, .inl s0, .inl l2, .inl (0 : Int32)] h1 Q ∧ ∀ v h2, Q v h2 → zWp zm96 call K 0 0 249 [some (.inr l0), some (.inl l1), some (.inl l2), some (.inl l3), some (.inl l4), some (.inl l5), some (.inl l6), some (.inl l7), some (.inl s0)] (v.toList ++ []) h2) : zWp zm96 call K 0 0 222 [some (.inr l0), some (.inl l1), some (.inl l2), some (.inl l3), some (.inl l4), some (.inl l5), some (.inl l6), some (.inl l7), o8] [.inl s0] h := zGo [3, 100, 115, 141, 184, 192, 205, 222, 249] 400 k
set_option maxHeartbeats 2000000 in
set_option maxRecDepth 100000 in
theorem r96_249 {call : zCall} {K : zT} {h : zH} {l0 : Nat} {l1 : Int32} {l2 : Int32} {l3 : Int32} {l4 : Int32} {l5 : Int32} {l6 : Int32} {l7 : Int32} {l8 : Int32} (k : K none h) : zWp zm96 call K 0 0 249 [some (.inr l0), some (.inl l1), some (.inl l2), some (.inl l3), some (.inl l4), some (.inl l5), some (.inl l6), some (.inl l7), some (.inl l8)] [] h := zGo [3, 100, 115, 141, 184, 192, 205, 222, 249] 400 k
set_option maxHeartbeats 2000000 in
set_option maxRecDepth 100000 in
theorem r97_0 {call : zCall} {K : zT} {h : zH} {l0 : Nat} {l1 : Int32} {l2 : Int32} {l3 : Int32} {l4 : Int32} {o5 : Option zV} {o6 : Option zV} (k : zK h l0 = 21 ∧ ∃ Q : zT, call 82 [.inr l0, .inl l1, .inl l4] h Q ∧ ∀ v h1, Q v h1 → zWp zm97 call K 0 0 7 [some (.inr l0), some (.inl l1), some (.inl l2), some (.inl l3), some (.inl l4), o5, o6] (v.toList ++ []) h1) : zWp zm97 call K 0 0 0 [some (.inr l0), some (.inl l1), some (.inl l2), some (.inl l3), some (.inl l4), o5, o6] [] h := zGo [7, 22, 42, 56, 99] 400 k
set_option maxHeartbeats 2000000 in
set_option maxRecDepth 100000 in
theorem r97_7 {call : zCall} {K : zT} {h : zH} {l0 : Nat} {l1 : Int32} {l2 : Int32} {l3 : Int32} {l4 : Int32} {o5 : Option zV} {o6 : Option zV} {s0 : Int32} (k : (0 ≤ s0 → zK h l0 = 21 ∧ (zK h (zR h l0 20) = 1 ∨ zK h (zR h l0 20) = 101) ∧ vp_in s0 (zL h (zR h l0 20)) ∧ (¬ l1 = 0 → zK h l0 = 21 ∧ zK h (zR h l0 11) = 2 ∧ vp_in (((4 : Int32) * l1) + (zI h (zR h l0 20) s0.toNatClampNeg)) (zL h (zR h l0 11)) ∧ ∀ h1, h1 = zwI h (zR h l0 11) (((4 : Int32) * l1) + (zI h (zR h l0 20) s0.toNatClampNeg)).toNatClampNeg (vp_nar .boolean (1 : Int32)) → zK h1 l0 = 21 ∧ zK h1 l0 = 21 ∧ zK h1 (zR h1 l0 22) = 1 ∧ vp_in s0 (zL h1 (zR h1 l0 22)) ∧ ∀ h2, h2 = zwI h1 (zR h1 l0 22) s0.toNatClampNeg ((zI h1 l0 1) + (10 : Int32)) → zK h2 l0 = 21 ∧ ∃ Q : zT, call 87 [.inr l0, .inl l1, .inl l2, .inl (22 : Int32), .inl (zI h (zR h l0 20) s0.toNatClampNeg), .inl l4, .inl l3, .inl (0 : Int32)] h2 Q ∧ ∀ v h3, Q v h3 → zWp zm97 call K 0 0 99 [some (.inr l0), some (.inl l1), some (.inl l2), some (.inl l3), some (.inl l4), some (.inl s0), some (.inl (zI h (zR h l0 20) s0.toNatClampNeg))] (v.toList ++ []) h3) ∧ (l1 = 0 → zK h l0 = 21 ∧ ∃ Q : zT, call 85 [.inr l0, .inl s0] h Q ∧ ∀ v h4, Q v h4 → zWp zm97 call K 0 0 42 [some (.inr l0), some (.inl l1), some (.inl l2), some (.inl l3), some (.inl l4), some (.inl s0), some (.inl (zI h (zR h l0 20) s0.toNatClampNeg))] (v.toList ++ []) h4)) ∧ (¬ 0 ≤ s0 → zK h l0 = 21 ∧ ∃ Q : zT, call 95 [.inr l0, .inl l1, .inl l2, .inl l3, .inl (0 : Int32)] h Q ∧ ∀ v h5, Q v h5 → zWp zm97 call K 0 0 22 [some (.inr l0), some (.inl l1), some (.inl l2), some (.inl l3), some (.inl l4), some (.inl s0), o6] (v.toList ++ []) h5)) : zWp zm97 call K 0 0 7 [some (.inr l0), some (.inl l1), some (.inl l2), some (.inl l3), some (.inl l4), o5, o6] [.inl s0] h := zGo [7, 22, 42, 56, 99] 400 k
set_option maxHeartbeats 2000000 in
set_option maxRecDepth 100000 in
theorem r97_22 {call : zCall} {K : zT} {h : zH} {l0 : Nat} {l1 : Int32} {l2 : Int32} {l3 : Int32} {l4 : Int32} {l5 : Int32} {o6 : Option zV} (k : K none h) : zWp zm97 call K 0 0 22 [some (.inr l0), some (.inl l1), some (.inl l2), some (.inl l3), some (.inl l4), some (.inl l5), o6] [] h := zGo [7, 22, 42, 56, 99] 400 k
set_option maxHeartbeats 2000000 in
set_option maxRecDepth 100000 in
theorem r97_42 {call : zCall} {K : zT} {h : zH} {l0 : Nat} {l1 : Int32} {l2 : Int32} {l3 : Int32} {l4 : Int32} {l5 : Int32} {l6 : Int32} (k : zK h l0 = 21 ∧ ∃ Q : zT, call 87 [.inr l0, .inl (0 : Int32), .inl l2, .inl (31 : Int32), .inl l6, .inl l4, .inl l3, .inl (0 : Int32)] h Q ∧ ∀ v h1, Q v h1 → zWp zm97 call K 0 0 56 [some (.inr l0), some (.inl l1), some (.inl l2), some (.inl l3), some (.inl l4), some (.inl l5), some (.inl l6)] (v.toList ++ []) h1) : zWp zm97 call K 0 0 42 [some (.inr l0), some (.inl l1), some (.inl l2), some (.inl l3), some (.inl l4), some (.inl l5), some (.inl l6)] [] h := zGo [7, 22, 42, 56, 99] 400 k
set_option maxHeartbeats 2000000 in
set_option maxRecDepth 100000 in
theorem r97_56 {call : zCall} {K : zT} {h : zH} {l0 : Nat} {l1 : Int32} {l2 : Int32} {l3 : Int32} {l4 : Int32} {l5 : Int32} {l6 : Int32} (k : zWp zm97 call K 0 0 99 [some (.inr l0), some (.inl l1), some (.inl l2), some (.inl l3), some (.inl l4), some (.inl l5), some (.inl l6)] [] h) : zWp zm97 call K 0 0 56 [some (.inr l0), some (.inl l1), some (.inl l2), some (.inl l3), some (.inl l4), some (.inl l5), some (.inl l6)] [] h := zGo [7, 22, 42, 56, 99] 400 k
set_option maxHeartbeats 2000000 in
set_option maxRecDepth 100000 in
theorem r97_99 {call : zCall} {K : zT} {h : zH} {l0 : Nat} {l1 : Int32} {l2 : Int32} {l3 : Int32} {l4 : Int32} {l5 : Int32} {l6 : Int32} (k : K none h) : zWp zm97 call K 0 0 99 [some (.inr l0), some (.inl l1), some (.inl l2), some (.inl l3), some (.inl l4), some (.inl l5), some (.inl l6)] [] h := zGo [7, 22, 42, 56, 99] 400 k
set_option maxHeartbeats 2000000 in
set_option maxRecDepth 100000 in
theorem r98_0 {call : zCall} {K : zT} {h : zH} {l0 : Nat} {l1 : Int32} {l2 : Int32} {l3 : Int32} {l4 : Int32} {o5 : Option zV} (k : zK h l0 = 21 ∧ zK h (zR h l0 11) = 2 ∧ vp_in (((4 : Int32) * l1) + l4) (zL h (zR h l0 11)) ∧ ∀ h1, h1 = zwI h (zR h l0 11) (((4 : Int32) * l1) + l4).toNatClampNeg (vp_nar .boolean (0 : Int32)) → zK h1 l0 = 21 ∧ ∃ Q : zT, call 83 [.inr l0, .inl l1, .inl (0 : Int32), .inl l4, .inl (0 : Int32)] h1 Q ∧ ∀ v h2, Q v h2 → zWp zm98 call K 0 0 21 [some (.inr l0), some (.inl l1), some (.inl l2), some (.inl l3), some (.inl l4), o5] (v.toList ++ []) h2) : zWp zm98 call K 0 0 0 [some (.inr l0), some (.inl l1), some (.inl l2), some (.inl l3), some (.inl l4), o5] [] h := zGo [21, 35, 48] 400 k
set_option maxHeartbeats 2000000 in
set_option maxRecDepth 100000 in
theorem r98_21 {call : zCall} {K : zT} {h : zH} {l0 : Nat} {l1 : Int32} {l2 : Int32} {l3 : Int32} {l4 : Int32} {o5 : Option zV} {s0 : Int32} (k : (s0 < 0 → zWp zm98 call K 0 0 35 [some (.inr l0), some (.inl l1), some (.inl l2), some (.inl l3), some (.inl l4), some (.inl s0)] [] h) ∧ (¬ s0 < 0 → zK h l0 = 21 ∧ ∃ Q : zT, call 86 [.inr l0, .inl s0, .inl (3 : Int32)] h Q ∧ ∀ v h1, Q v h1 → zWp zm98 call K 0 0 35 [some (.inr l0), some (.inl l1), some (.inl l2), some (.inl l3), some (.inl l4), some (.inl s0)] (v.toList ++ []) h1)) : zWp zm98 call K 0 0 21 [some (.inr l0), some (.inl l1), some (.inl l2), some (.inl l3), some (.inl l4), o5] [.inl s0] h := zGo [21, 35, 48] 400 k
set_option maxHeartbeats 2000000 in
set_option maxRecDepth 100000 in
theorem r98_35 {call : zCall} {K : zT} {h : zH} {l0 : Nat} {l1 : Int32} {l2 : Int32} {l3 : Int32} {l4 : Int32} {l5 : Int32} (k : zK h l0 = 21 ∧ ∃ Q : zT, call 87 [.inr l0, .inl l1, .inl l2, .inl (33 : Int32), .inl l4, .inl (0 : Int32), .inl l3, .inl (0 : Int32)] h Q ∧ ∀ v h1, Q v h1 → zWp zm98 call K 0 0 48 [some (.inr l0), some (.inl l1), some (.inl l2), some (.inl l3), some (.inl l4), some (.inl l5)] (v.toList ++ []) h1) : zWp zm98 call K 0 0 35 [some (.inr l0), some (.inl l1), some (.inl l2), some (.inl l3), some (.inl l4), some (.inl l5)] [] h := zGo [21, 35, 48] 400 k
set_option maxHeartbeats 2000000 in
set_option maxRecDepth 100000 in
theorem r98_48 {call : zCall} {K : zT} {h : zH} {l0 : Nat} {l1 : Int32} {l2 : Int32} {l3 : Int32} {l4 : Int32} {l5 : Int32} (k : K none h) : zWp zm98 call K 0 0 48 [some (.inr l0), some (.inl l1), some (.inl l2), some (.inl l3), some (.inl l4), some (.inl l5)] [] h := zGo [21, 35, 48] 400 k
set_option maxHeartbeats 2000000 in
set_option maxRecDepth 100000 in
theorem r99_0 {call : zCall} {K : zT} {h : zH} {l0 : Nat} {l1 : Int32} {l2 : Int32} {l3 : Int32} {l4 : Int32} {o5 : Option zV} {o6 : Option zV} (k : zK h l0 = 21 ∧ zK h (zR h l0 11) = 2 ∧ vp_in (((4 : Int32) * l1) + l4) (zL h (zR h l0 11)) ∧ ((zI h (zR h l0 11) (((4 : Int32) * l1) + l4).toNatClampNeg) = 0 → zWp zm99 call K 0 0 25 [some (.inr l0), some (.inl l1), some (.inl l2), some (.inl l3), some (.inl l4), some (.inl (-1 : Int32)), some (.inl (1 : Int32))] [] h) ∧ (¬ (zI h (zR h l0 11) (((4 : Int32) * l1) + l4).toNatClampNeg) = 0 → zWp zm99 call K 0 0 25 [some (.inr l0), some (.inl l1), some (.inl l2), some (.inl l3), some (.inl l4), some (.inl (-2 : Int32)), some (.inl (1 : Int32))] [] h)) : zWp zm99 call K 0 0 0 [some (.inr l0), some (.inl l1), some (.inl l2), some (.inl l3), some (.inl l4), o5, o6] [] h := zGo [25, 126] 400 k
set_option maxHeartbeats 2000000 in
set_option maxRecDepth 100000 in
theorem r99_25 {call : zCall} {K : zT} {h : zH} {l0 : Nat} {l1 : Int32} {l2 : Int32} {l3 : Int32} {l4 : Int32} {l5 : Int32} {l6 : Int32} (k : (l6 < 0 → (l5 < 0 → zK h l0 = 21 ∧ ∃ Q : zT, call 87 [.inr l0, .inl l1, .inl l2, .inl (34 : Int32), .inl l4, .inl (0 : Int32), .inl l3, .inl l5] h Q ∧ ∀ v h1, Q v h1 → zWp zm99 call K 0 0 126 [some (.inr l0), some (.inl l1), some (.inl l2), some (.inl l3), some (.inl l4), some (.inl l5), some (.inl l6)] (v.toList ++ []) h1) ∧ (¬ l5 < 0 → zK h l0 = 21 ∧ ¬ (100 : Int32) = 0 ∧ zK h (zR h l0 13) = 1 ∧ vp_in (((2 : Int32) * l1) + (l5 - l5 / (100 : Int32) * (100 : Int32))) (zL h (zR h l0 13)) ∧ ∀ h2, h2 = zwI h (zR h l0 13) (((2 : Int32) * l1) + (l5 - l5 / (100 : Int32) * (100 : Int32))).toNatClampNeg l4 → zK h2 l0 = 21 ∧ ¬ (100 : Int32) = 0 ∧ zK h2 l0 = 21 ∧ zK h2 (zR h2 l0 14) = 1 ∧ vp_in (((2 : Int32) * l1) + (l5 - l5 / (100 : Int32) * (100 : Int32))) (zL h2 (zR h2 l0 14)) ∧ ∀ h3, h3 = zwI h2 (zR h2 l0 14) (((2 : Int32) * l1) + (l5 - l5 / (100 : Int32) * (100 : Int32))).toNatClampNeg ((zI h2 l0 1) + (8 : Int32)) → zK h3 l0 = 21 ∧ ∃ Q : zT, call 87 [.inr l0, .inl l1, .inl l2, .inl (34 : Int32), .inl l4, .inl (0 : Int32), .inl l3, .inl l5] h3 Q ∧ ∀ v h4, Q v h4 → zWp zm99 call K 0 0 126 [some (.inr l0), some (.inl l1), some (.inl l2), some (.inl l3), some (.inl l4), some (.inl l5), some (.inl l6)] (v.toList ++ []) h4)) ∧ (¬ l6 < 0 → (l5 = (-1 : Int32) → (l5 < 0 → zK h l0 = 21 ∧ ∃ Q : zT, call 87 [.inr l0, .inl l1, .inl l2, .inl (34 : Int32), .inl l4, .inl (0 : Int32), .inl l3, .inl l5] h Q ∧ ∀ v h5, Q v h5 → zWp zm99 call K 0 0 126 [some (.inr l0), some (.inl l1), some (.inl l2), some (.inl l3), some (.inl l4), some (.inl l5), some (.inl l6)] (v.toList ++ []) h5) ∧ (¬ l5 < 0 → zK h l0 = 21 ∧ ¬ (100 : Int32) = 0 ∧ zK h (zR h l0 13) = 1 ∧ vp_in (((2 : Int32) * l1) + (l5 - l5 / (100 : Int32) * (100 : Int32))) (zL h (zR h l0 13)) ∧ ∀ h6, h6 = zwI h (zR h l0 13) (((2 : Int32) * l1) + (l5 - l5 / (100 : Int32) * (100 : Int32))).toNatClampNeg l4 → zK h6 l0 = 21 ∧ ¬ (100 : Int32) = 0 ∧ zK h6 l0 = 21 ∧ zK h6 (zR h6 l0 14) = 1 ∧ vp_in (((2 : Int32) * l1) + (l5 - l5 / (100 : Int32) * (100 : Int32))) (zL h6 (zR h6 l0 14)) ∧ ∀ h7, h7 = zwI h6 (zR h6 l0 14) (((2 : Int32) * l1) + (l5 - l5 / (100 : Int32) * (100 : Int32))).toNatClampNeg ((zI h6 l0 1) + (8 : Int32)) → zK h7 l0 = 21 ∧ ∃ Q : zT, call 87 [.inr l0, .inl l1, .inl l2, .inl (34 : Int32), .inl l4, .inl (0 : Int32), .inl l3, .inl l5] h7 Q ∧ ∀ v h8, Q v h8 → zWp zm99 call K 0 0 126 [some (.inr l0), some (.inl l1), some (.inl l2), some (.inl l3), some (.inl l4), some (.inl l5), some (.inl l6)] (v.toList ++ []) h8)) ∧ (¬ l5 = (-1 : Int32) → zK h l0 = 21 ∧ (zK h (zR h l0 13) = 1 ∨ zK h (zR h l0 13) = 101) ∧ vp_in (((2 : Int32) * l1) + l6) (zL h (zR h l0 13)) ∧ (0 ≤ (zI h (zR h l0 13) (((2 : Int32) * l1) + l6).toNatClampNeg) → zWp zm99 call K 0 0 25 [some (.inr l0), some (.inl l1), some (.inl l2), some (.inl l3), some (.inl l4), some (.inl l5), some (.inl (l6 + (-1 : Int32)))] [] h) ∧ (¬ 0 ≤ (zI h (zR h l0 13) (((2 : Int32) * l1) + l6).toNatClampNeg) → zWp zm99 call K 0 0 25 [some (.inr l0), some (.inl l1), some (.inl l2), some (.inl l3), some (.inl l4), some (.inl (((100 : Int32) * l1) + l6)), some (.inl (l6 + (-1 : Int32)))] [] h)))) : zWp zm99 call K 0 0 25 [some (.inr l0), some (.inl l1), some (.inl l2), some (.inl l3), some (.inl l4), some (.inl l5), some (.inl l6)] [] h := zGo [25, 126] 400 k
set_option maxHeartbeats 2000000 in
set_option maxRecDepth 100000 in
theorem r99_126 {call : zCall} {K : zT} {h : zH} {l0 : Nat} {l1 : Int32} {l2 : Int32} {l3 : Int32} {l4 : Int32} {l5 : Int32} {l6 : Int32} (k : K none h) : zWp zm99 call K 0 0 126 [some (.inr l0), some (.inl l1), some (.inl l2), some (.inl l3), some (.inl l4), some (.inl l5), some (.inl l6)] [] h := zGo [25, 126] 400 k
set_option maxHeartbeats 2000000 in
set_option maxRecDepth 100000 in
theorem r100_0 {call : zCall} {K : zT} {h : zH} {l0 : Nat} {l1 : Int32} {l2 : Int32} {l3 : Int32} {l4 : Int32} {l5 : Int32} {o6 : Option zV} (k : zK h l0 = 21 ∧ ∃ Q : zT, call 82 [.inr l0, .inl l1, .inl l4] h Q ∧ ∀ v h1, Q v h1 → zWp zm100 call K 0 0 7 [some (.inr l0), some (.inl l1), some (.inl l2), some (.inl l3), some (.inl l4), some (.inl l5), o6] (v.toList ++ []) h1) : zWp zm100 call K 0 0 0 [some (.inr l0), some (.inl l1), some (.inl l2), some (.inl l3), some (.inl l4), some (.inl l5), o6] [] h := zGo [7, 27, 42, 68, 74, 87, 96] 400 k
set_option maxHeartbeats 2000000 in
set_option maxRecDepth 100000 in
theorem r100_7 {call : zCall} {K : zT} {h : zH} {l0 : Nat} {l1 : Int32} {l2 : Int32} {l3 : Int32} {l4 : Int32} {l5 : Int32} {o6 : Option zV} {s0 : Int32} (k : (0 ≤ s0 → (¬ l2 = (4 : Int32) → (¬ l3 = (1 : Int32) → (¬ l3 = (3 : Int32) → zK h l0 = 21 ∧ zK h l0 = 21 ∧ ∃ Q : zT, call 91 [.inr l0, .inl l4] h Q ∧ ∀ v h1, Q v h1 → zWp zm100 call K 0 0 87 [some (.inr l0), some (.inl l1), some (.inl l2), some (.inl l3), some (.inl l4), some (.inl l5), some (.inl s0)] (v.toList ++ [.inr (zR h l0 26)]) h1) ∧ (l3 = (3 : Int32) → zK h l0 = 21 ∧ (zK h (zR h l0 21) = 1 ∨ zK h (zR h l0 21) = 101) ∧ vp_in s0 (zL h (zR h l0 21)) ∧ zK h l0 = 21 ∧ (zK h (zR h l0 20) = 1 ∨ zK h (zR h l0 20) = 101) ∧ vp_in s0 (zL h (zR h l0 20)) ∧ zK h l0 = 21 ∧ ∃ Q : zT, call 94 [.inr l0, .inl (zI h (zR h l0 21) s0.toNatClampNeg), .inl (zI h (zR h l0 20) s0.toNatClampNeg)] h Q ∧ ∀ v h2, Q v h2 → zWp zm100 call K 0 0 68 [some (.inr l0), some (.inl l1), some (.inl l2), some (.inl l3), some (.inl l4), some (.inl l5), some (.inl s0)] (v.toList ++ []) h2)) ∧ (l3 = (1 : Int32) → zK h l0 = 21 ∧ ∃ Q : zT, call 86 [.inr l0, .inl s0, .inl (2 : Int32)] h Q ∧ ∀ v h3, Q v h3 → zWp zm100 call K 0 0 42 [some (.inr l0), some (.inl l1), some (.inl l2), some (.inl l3), some (.inl l4), some (.inl l5), some (.inl s0)] (v.toList ++ []) h3)) ∧ (l2 = (4 : Int32) → zK h l0 = 21 ∧ ∃ Q : zT, call 86 [.inr l0, .inl s0, .inl (3 : Int32)] h Q ∧ ∀ v h4, Q v h4 → zWp zm100 call K 0 0 27 [some (.inr l0), some (.inl l1), some (.inl l2), some (.inl l3), some (.inl l4), some (.inl l5), some (.inl s0)] (v.toList ++ []) h4)) ∧ (¬ 0 ≤ s0 → K none h)) : zWp zm100 call K 0 0 7 [some (.inr l0), some (.inl l1), some (.inl l2), some (.inl l3), some (.inl l4), some (.inl l5), o6] [.inl s0] h := zGo [7, 27, 42, 68, 74, 87, 96] 400 k
set_option maxHeartbeats 2000000 in
set_option maxRecDepth 100000 in
theorem r100_27 {call : zCall} {K : zT} {h : zH} {l0 : Nat} {l1 : Int32} {l2 : Int32} {l3 : Int32} {l4 : Int32} {l5 : Int32} {l6 : Int32} (k : zWp zm100 call K 0 0 96 [some (.inr l0), some (.inl l1), some (.inl l2), some (.inl l3), some (.inl l4), some (.inl l5), some (.inl l6)] [] h) : zWp zm100 call K 0 0 27 [some (.inr l0), some (.inl l1), some (.inl l2), some (.inl l3), some (.inl l4), some (.inl l5), some (.inl l6)] [] h := zGo [7, 27, 42, 68, 74, 87, 96] 400 k
set_option maxHeartbeats 2000000 in
set_option maxRecDepth 100000 in
theorem r100_42 {call : zCall} {K : zT} {h : zH} {l0 : Nat} {l1 : Int32} {l2 : Int32} {l3 : Int32} {l4 : Int32} {l5 : Int32} {l6 : Int32} (k : zWp zm100 call K 0 0 96 [some (.inr l0), some (.inl l1), some (.inl l2), some (.inl l3), some (.inl l4), some (.inl l5), some (.inl l6)] [] h) : zWp zm100 call K 0 0 42 [some (.inr l0), some (.inl l1), some (.inl l2), some (.inl l3), some (.inl l4), some (.inl l5), some (.inl l6)] [] h := zGo [7, 27, 42, 68, 74, 87, 96] 400 k
set_option maxHeartbeats 2000000 in
set_option maxRecDepth 100000 in
theorem r100_68 {call : zCall} {K : zT} {h : zH} {l0 : Nat} {l1 : Int32} {l2 : Int32} {l3 : Int32} {l4 : Int32} {l5 : Int32} {l6 : Int32} (k : zK h l0 = 21 ∧ ∃ Q : zT, call 85 [.inr l0, .inl l6] h Q ∧ ∀ v h1, Q v h1 → zWp zm100 call K 0 0 74 [some (.inr l0), some (.inl l1), some (.inl l2), some (.inl l3), some (.inl l4), some (.inl l5), some (.inl l6)] (v.toList ++ []) h1) : zWp zm100 call K 0 0 68 [some (.inr l0), some (.inl l1), some (.inl l2), some (.inl l3), some (.inl l4), some (.inl l5), some (.inl l6)] [] h := zGo [7, 27, 42, 68, 74, 87, 96] 400 k
set_option maxHeartbeats 2000000 in
set_option maxRecDepth 100000 in
theorem r100_74 {call : zCall} {K : zT} {h : zH} {l0 : Nat} {l1 : Int32} {l2 : Int32} {l3 : Int32} {l4 : Int32} {l5 : Int32} {l6 : Int32} (k : zWp zm100 call K 0 0 96 [some (.inr l0), some (.inl l1), some (.inl l2), some (.inl l3), some (.inl l4), some (.inl l5), some (.inl l6)] [] h) : zWp zm100 call K 0 0 74 [some (.inr l0), some (.inl l1), some (.inl l2), some (.inl l3), some (.inl l4), some (.inl l5), some (.inl l6)] [] h := zGo [7, 27, 42, 68, 74, 87, 96] 400 k
set_option maxHeartbeats 2000000 in
set_option maxRecDepth 100000 in
theorem r100_87 {call : zCall} {K : zT} {h : zH} {l0 : Nat} {l1 : Int32} {l2 : Int32} {l3 : Int32} {l4 : Int32} {l5 : Int32} {l6 : Int32} {s0 : Nat} {s1 : Int32} (k : zK h s0 = 1 ∧ vp_in s1 (zL h s0) ∧ ∀ h1, h1 = zwI h s0 s1.toNatClampNeg l5 → zK h1 l0 = 21 ∧ ∃ Q : zT, call 85 [.inr l0, .inl l6] h1 Q ∧ ∀ v h2, Q v h2 → zWp zm100 call K 0 0 96 [some (.inr l0), some (.inl l1), some (.inl l2), some (.inl l3), some (.inl l4), some (.inl l5), some (.inl l6)] (v.toList ++ []) h2) : zWp zm100 call K 0 0 87 [some (.inr l0), some (.inl l1), some (.inl l2), some (.inl l3), some (.inl l4), some (.inl l5), some (.inl l6)] [.inl s1, .inr s0] h := zGo [7, 27, 42, 68, 74, 87, 96] 400 k
set_option maxHeartbeats 2000000 in
set_option maxRecDepth 100000 in
theorem r100_96 {call : zCall} {K : zT} {h : zH} {l0 : Nat} {l1 : Int32} {l2 : Int32} {l3 : Int32} {l4 : Int32} {l5 : Int32} {l6 : Int32} (k : K none h) : zWp zm100 call K 0 0 96 [some (.inr l0), some (.inl l1), some (.inl l2), some (.inl l3), some (.inl l4), some (.inl l5), some (.inl l6)] [] h := zGo [7, 27, 42, 68, 74, 87, 96] 400 k
set_option maxHeartbeats 2000000 in
set_option maxRecDepth 100000 in
theorem r101_0 {call : zCall} {K : zT} {h : zH} {l0 : Nat} {l1 : Int32} {o2 : Option zV} {o3 : Option zV} {o4 : Option zV} {o5 : Option zV} (k : (l1 < 0 → K (some (.inl (-9 : Int32))) h) ∧ (¬ l1 < 0 → zK h l0 = 21 ∧ (l1 < (zI h l0 27) → zWp zm101 call K 0 0 17 [some (.inr l0), some (.inl l1), some (.inl (0 : Int32)), o3, o4, o5] [] h) ∧ (¬ l1 < (zI h l0 27) → K (some (.inl (-9 : Int32))) h))) : zWp zm101 call K 0 0 0 [some (.inr l0), some (.inl l1), o2, o3, o4, o5] [] h := zGo [17, 51, 110, 143, 170, 198, 224] 400 k
set_option maxHeartbeats 2000000 in
set_option maxRecDepth 100000 in
theorem r101_17 {call : zCall} {K : zT} {h : zH} {l0 : Nat} {l1 : Int32} {l2 : Int32} {o3 : Option zV} {o4 : Option zV} {o5 : Option zV} (k : ((8 : Int32) ≤ l2 → zK h l0 = 21 ∧ ∃ Q : zT, call 88 [.inr l0, .inl l1] h Q ∧ ∀ v h1, Q v h1 → zWp zm101 call K 0 0 51 [some (.inr l0), some (.inl l1), some (.inl l2), o3, o4, o5] (v.toList ++ []) h1) ∧ (¬ (8 : Int32) ≤ l2 → zK h l0 = 21 ∧ zK h l0 = 21 ∧ (zK h (zR h l0 28) = 1 ∨ zK h (zR h l0 28) = 101) ∧ vp_in (((8 : Int32) * l1) + l2) (zL h (zR h l0 28)) ∧ zK h (zR h l0 29) = 1 ∧ vp_in l2 (zL h (zR h l0 29)) ∧ ∀ h2, h2 = zwI h (zR h l0 29) l2.toNatClampNeg (zI h (zR h l0 28) (((8 : Int32) * l1) + l2).toNatClampNeg) → zWp zm101 call K 0 0 17 [some (.inr l0), some (.inl l1), some (.inl (l2 + (1 : Int32))), o3, o4, o5] [] h2)) : zWp zm101 call K 0 0 17 [some (.inr l0), some (.inl l1), some (.inl l2), o3, o4, o5] [] h := zGo [17, 51, 110, 143, 170, 198, 224] 400 k
set_option maxHeartbeats 2000000 in
set_option maxRecDepth 100000 in
theorem r101_51 {call : zCall} {K : zT} {h : zH} {l0 : Nat} {l1 : Int32} {l2 : Int32} {o3 : Option zV} {o4 : Option zV} {o5 : Option zV} (k : zK h l0 = 21 ∧ (zK h (zR h l0 29) = 1 ∨ zK h (zR h l0 29) = 101) ∧ vp_in (0 : Int32) (zL h (zR h l0 29)) ∧ zK h l0 = 21 ∧ (zK h (zR h l0 29) = 1 ∨ zK h (zR h l0 29) = 101) ∧ vp_in (1 : Int32) (zL h (zR h l0 29)) ∧ zK h l0 = 21 ∧ (zK h (zR h l0 29) = 1 ∨ zK h (zR h l0 29) = 101) ∧ vp_in (2 : Int32) (zL h (zR h l0 29)) ∧ zK h l0 = 21 ∧ (zK h (zR h l0 29) = 1 ∨ zK h (zR h l0 29) = 101) ∧ vp_in (3 : Int32) (zL h (zR h l0 29)) ∧ (¬ (zI h (zR h l0 29) (2 : Int32).toNatClampNeg) = (1 : Int32) → (¬ (zI h (zR h l0 29) (2 : Int32).toNatClampNeg) = (1 : Int32) → (¬ (zI h (zR h l0 29) (2 : Int32).toNatClampNeg) = (1 : Int32) → (¬ (zI h (zR h l0 29) (2 : Int32).toNatClampNeg) = (2 : Int32) → zK h l0 = 21 ∧ (zK h (zR h l0 29) = 1 ∨ zK h (zR h l0 29) = 101) ∧ vp_in (6 : Int32) (zL h (zR h l0 29)) ∧ zK h l0 = 21 ∧ (zK h (zR h l0 29) = 1 ∨ zK h (zR h l0 29) = 101) ∧ vp_in (7 : Int32) (zL h (zR h l0 29)) ∧ zK h l0 = 21 ∧ ∃ Q : zT, call 100 [.inr l0, .inl (zI h (zR h l0 29) (1 : Int32).toNatClampNeg), .inl (zI h (zR h l0 29) (2 : Int32).toNatClampNeg), .inl (zI h (zR h l0 29) (3 : Int32).toNatClampNeg), .inl (zI h (zR h l0 29) (6 : Int32).toNatClampNeg), .inl (zI h (zR h l0 29) (7 : Int32).toNatClampNeg)] h Q ∧ ∀ v h1, Q v h1 → zWp zm101 call K 0 0 224 [some (.inr l0), some (.inl l1), some (.inl (zI h (zR h l0 29) (0 : Int32).toNatClampNeg)), some (.inl (zI h (zR h l0 29) (1 : Int32).toNatClampNeg)), some (.inl (zI h (zR h l0 29) (2 : Int32).toNatClampNeg)), some (.inl (zI h (zR h l0 29) (3 : Int32).toNatClampNeg))] (v.toList ++ []) h1) ∧ ((zI h (zR h l0 29) (2 : Int32).toNatClampNeg) = (2 : Int32) → zK h l0 = 21 ∧ (zK h (zR h l0 29) = 1 ∨ zK h (zR h l0 29) = 101) ∧ vp_in (5 : Int32) (zL h (zR h l0 29)) ∧ zK h l0 = 21 ∧ (zK h (zR h l0 29) = 1 ∨ zK h (zR h l0 29) = 101) ∧ vp_in (6 : Int32) (zL h (zR h l0 29)) ∧ zK h l0 = 21 ∧ ∃ Q : zT, call 97 [.inr l0, .inl (zI h (zR h l0 29) (1 : Int32).toNatClampNeg), .inl (zI h (zR h l0 29) (0 : Int32).toNatClampNeg), .inl (zI h (zR h l0 29) (5 : Int32).toNatClampNeg), .inl (zI h (zR h l0 29) (6 : Int32).toNatClampNeg)] h Q ∧ ∀ v h2, Q v h2 → zWp zm101 call K 0 0 198 [some (.inr l0), some (.inl l1), some (.inl (zI h (zR h l0 29) (0 : Int32).toNatClampNeg)), some (.inl (zI h (zR h l0 29) (1 : Int32).toNatClampNeg)), some (.inl (zI h (zR h l0 29) (2 : Int32).toNatClampNeg)), some (.inl (zI h (zR h l0 29) (3 : Int32).toNatClampNeg))] (v.toList ++ []) h2)) ∧ ((zI h (zR h l0 29) (2 : Int32).toNatClampNeg) = (1 : Int32) → zK h l0 = 21 ∧ (zK h (zR h l0 29) = 1 ∨ zK h (zR h l0 29) = 101) ∧ vp_in (5 : Int32) (zL h (zR h l0 29)) ∧ zK h l0 = 21 ∧ (zK h (zR h l0 29) = 1 ∨ zK h (zR h l0 29) = 101) ∧ vp_in (4 : Int32) (zL h (zR h l0 29)) ∧ zK h l0 = 21 ∧ ∃ Q : zT, call 99 [.inr l0, .inl (zI h (zR h l0 29) (1 : Int32).toNatClampNeg), .inl (zI h (zR h l0 29) (0 : Int32).toNatClampNeg), .inl (zI h (zR h l0 29) (5 : Int32).toNatClampNeg), .inl (zI h (zR h l0 29) (4 : Int32).toNatClampNeg)] h Q ∧ ∀ v h3, Q v h3 → zWp zm101 call K 0 0 170 [some (.inr l0), some (.inl l1), some (.inl (zI h (zR h l0 29) (0 : Int32).toNatClampNeg)), some (.inl (zI h (zR h l0 29) (1 : Int32).toNatClampNeg)), some (.inl (zI h (zR h l0 29) (2 : Int32).toNatClampNeg)), some (.inl (zI h (zR h l0 29) (3 : Int32).toNatClampNeg))] (v.toList ++ []) h3)) ∧ ((zI h (zR h l0 29) (2 : Int32).toNatClampNeg) = (1 : Int32) → (¬ (zI h (zR h l0 29) (3 : Int32).toNatClampNeg) = (3 : Int32) → (¬ (zI h (zR h l0 29) (2 : Int32).toNatClampNeg) = (1 : Int32) → (¬ (zI h (zR h l0 29) (2 : Int32).toNatClampNeg) = (2 : Int32) → zK h l0 = 21 ∧ (zK h (zR h l0 29) = 1 ∨ zK h (zR h l0 29) = 101) ∧ vp_in (6 : Int32) (zL h (zR h l0 29)) ∧ zK h l0 = 21 ∧ (zK h (zR h l0 29) = 1 ∨ zK h (zR h l0 29) = 101) ∧ vp_in (7 : Int32) (zL h (zR h l0 29)) ∧ zK h l0 = 21 ∧ ∃ Q : zT, call 100 [.inr l0, .inl (zI h (zR h l0 29) (1 : Int32).toNatClampNeg), .inl (zI h (zR h l0 29) (2 : Int32).toNatClampNeg), .inl (zI h (zR h l0 29) (3 : Int32).toNatClampNeg), .inl (zI h (zR h l0 29) (6 : Int32).toNatClampNeg), .inl (zI h (zR h l0 29) (7 : Int32).toNatClampNeg)] h Q ∧ ∀ v h4, Q v h4 → zWp zm101 call K 0 0 224 [some (.inr l0), some (.inl l1), some (.inl (zI h (zR h l0 29) (0 : Int32).toNatClampNeg)), some (.inl (zI h (zR h l0 29) (1 : Int32).toNatClampNeg)), some (.inl (zI h (zR h l0 29) (2 : Int32).toNatClampNeg)), some (.inl (zI h (zR h l0 29) (3 : Int32).toNatClampNeg))] (v.toList ++ []) h4) ∧ ((zI h (zR h l0 29) (2 : Int32).toNatClampNeg) = (2 : Int32) → zK h l0 = 21 ∧ (zK h (zR h l0 29) = 1 ∨ zK h (zR h l0 29) = 101) ∧ vp_in (5 : Int32) (zL h (zR h l0 29)) ∧ zK h l0 = 21 ∧ (zK h (zR h l0 29) = 1 ∨ zK h (zR h l0 29) = 101) ∧ vp_in (6 : Int32) (zL h (zR h l0 29)) ∧ zK h l0 = 21 ∧ ∃ Q : zT, call 97 [.inr l0, .inl (zI h (zR h l0 29) (1 : Int32).toNatClampNeg), .inl (zI h (zR h l0 29) (0 : Int32).toNatClampNeg), .inl (zI h (zR h l0 29) (5 : Int32).toNatClampNeg), .inl (zI h (zR h l0 29) (6 : Int32).toNatClampNeg)] h Q ∧ ∀ v h5, Q v h5 → zWp zm101 call K 0 0 198 [some (.inr l0), some (.inl l1), some (.inl (zI h (zR h l0 29) (0 : Int32).toNatClampNeg)), some (.inl (zI h (zR h l0 29) (1 : Int32).toNatClampNeg)), some (.inl (zI h (zR h l0 29) (2 : Int32).toNatClampNeg)), some (.inl (zI h (zR h l0 29) (3 : Int32).toNatClampNeg))] (v.toList ++ []) h5)) ∧ ((zI h (zR h l0 29) (2 : Int32).toNatClampNeg) = (1 : Int32) → zK h l0 = 21 ∧ (zK h (zR h l0 29) = 1 ∨ zK h (zR h l0 29) = 101) ∧ vp_in (5 : Int32) (zL h (zR h l0 29)) ∧ zK h l0 = 21 ∧ (zK h (zR h l0 29) = 1 ∨ zK h (zR h l0 29) = 101) ∧ vp_in (4 : Int32) (zL h (zR h l0 29)) ∧ zK h l0 = 21 ∧ ∃ Q : zT, call 99 [.inr l0, .inl (zI h (zR h l0 29) (1 : Int32).toNatClampNeg), .inl (zI h (zR h l0 29) (0 : Int32).toNatClampNeg), .inl (zI h (zR h l0 29) (5 : Int32).toNatClampNeg), .inl (zI h (zR h l0 29) (4 : Int32).toNatClampNeg)] h Q ∧ ∀ v h6, Q v h6 → zWp zm101 call K 0 0 170 [some (.inr l0), some (.inl l1), some (.inl (zI h (zR h l0 29) (0 : Int32).toNatClampNeg)), some (.inl (zI h (zR h l0 29) (1 : Int32).toNatClampNeg)), some (.inl (zI h (zR h l0 29) (2 : Int32).toNatClampNeg)), some (.inl (zI h (zR h l0 29) (3 : Int32).toNatClampNeg))] (v.toList ++ []) h6)) ∧ ((zI h (zR h l0 29) (3 : Int32).toNatClampNeg) = (3 : Int32) → zK h l0 = 21 ∧ (zK h (zR h l0 29) = 1 ∨ zK h (zR h l0 29) = 101) ∧ vp_in (5 : Int32) (zL h (zR h l0 29)) ∧ zK h l0 = 21 ∧ (zK h (zR h l0 29) = 1 ∨ zK h (zR h l0 29) = 101) ∧ vp_in (4 : Int32) (zL h (zR h l0 29)) ∧ zK h l0 = 21 ∧ ∃ Q : zT, call 98 [.inr l0, .inl (zI h (zR h l0 29) (1 : Int32).toNatClampNeg), .inl (zI h (zR h l0 29) (0 : Int32).toNatClampNeg), .inl (zI h (zR h l0 29) (5 : Int32).toNatClampNeg), .inl (zI h (zR h l0 29) (4 : Int32).toNatClampNeg)] h Q ∧ ∀ v h7, Q v h7 → zWp zm101 call K 0 0 143 [some (.inr l0), some (.inl l1), some (.inl (zI h (zR h l0 29) (0 : Int32).toNatClampNeg)), some (.inl (zI h (zR h l0 29) (1 : Int32).toNatClampNeg)), some (.inl (zI h (zR h l0 29) (2 : Int32).toNatClampNeg)), some (.inl (zI h (zR h l0 29) (3 : Int32).toNatClampNeg))] (v.toList ++ []) h7))) ∧ ((zI h (zR h l0 29) (2 : Int32).toNatClampNeg) = (1 : Int32) → (¬ (zI h (zR h l0 29) (3 : Int32).toNatClampNeg) = (1 : Int32) → (¬ (zI h (zR h l0 29) (2 : Int32).toNatClampNeg) = (1 : Int32) → (¬ (zI h (zR h l0 29) (2 : Int32).toNatClampNeg) = (1 : Int32) → (¬ (zI h (zR h l0 29) (2 : Int32).toNatClampNeg) = (2 : Int32) → zK h l0 = 21 ∧ (zK h (zR h l0 29) = 1 ∨ zK h (zR h l0 29) = 101) ∧ vp_in (6 : Int32) (zL h (zR h l0 29)) ∧ zK h l0 = 21 ∧ (zK h (zR h l0 29) = 1 ∨ zK h (zR h l0 29) = 101) ∧ vp_in (7 : Int32) (zL h (zR h l0 29)) ∧ zK h l0 = 21 ∧ ∃ Q : zT, call 100 [.inr l0, .inl (zI h (zR h l0 29) (1 : Int32).toNatClampNeg), .inl (zI h (zR h l0 29) (2 : Int32).toNatClampNeg), .inl (zI h (zR h l0 29) (3 : Int32).toNatClampNeg), .inl (zI h (zR h l0 29) (6 : Int32).toNatClampNeg), .inl (zI h (zR h l0 29) (7 : Int32).toNatClampNeg)] h Q ∧ ∀ v h8, Q v h8 → zWp zm101 call K 0 0 224 [some (.inr l0), some (.inl l1), some (.inl (zI h (zR h l0 29) (0 : Int32).toNatClampNeg)), some (.inl (zI h (zR h l0 29) (1 : Int32).toNatClampNeg)), some (.inl (zI h (zR h l0 29) (2 : Int32).toNatClampNeg)), some (.inl (zI h (zR h l0 29) (3 : Int32).toNatClampNeg))] (v.toList ++ []) h8) ∧ ((zI h (zR h l0 29) (2 : Int32).toNatClampNeg) = (2 : Int32) → zK h l0 = 21 ∧ (zK h (zR h l0 29) = 1 ∨ zK h (zR h l0 29) = 101) ∧ vp_in (5 : Int32) (zL h (zR h l0 29)) ∧ zK h l0 = 21 ∧ (zK h (zR h l0 29) = 1 ∨ zK h (zR h l0 29) = 101) ∧ vp_in (6 : Int32) (zL h (zR h l0 29)) ∧ zK h l0 = 21 ∧ ∃ Q : zT, call 97 [.inr l0, .inl (zI h (zR h l0 29) (1 : Int32).toNatClampNeg), .inl (zI h (zR h l0 29) (0 : Int32).toNatClampNeg), .inl (zI h (zR h l0 29) (5 : Int32).toNatClampNeg), .inl (zI h (zR h l0 29) (6 : Int32).toNatClampNeg)] h Q ∧ ∀ v h9, Q v h9 → zWp zm101 call K 0 0 198 [some (.inr l0), some (.inl l1), some (.inl (zI h (zR h l0 29) (0 : Int32).toNatClampNeg)), some (.inl (zI h (zR h l0 29) (1 : Int32).toNatClampNeg)), some (.inl (zI h (zR h l0 29) (2 : Int32).toNatClampNeg)), some (.inl (zI h (zR h l0 29) (3 : Int32).toNatClampNeg))] (v.toList ++ []) h9)) ∧ ((zI h (zR h l0 29) (2 : Int32).toNatClampNeg) = (1 : Int32) → zK h l0 = 21 ∧ (zK h (zR h l0 29) = 1 ∨ zK h (zR h l0 29) = 101) ∧ vp_in (5 : Int32) (zL h (zR h l0 29)) ∧ zK h l0 = 21 ∧ (zK h (zR h l0 29) = 1 ∨ zK h (zR h l0 29) = 101) ∧ vp_in (4 : Int32) (zL h (zR h l0 29)) ∧ zK h l0 = 21 ∧ ∃ Q : zT, call 99 [.inr l0, .inl (zI h (zR h l0 29) (1 : Int32).toNatClampNeg), .inl (zI h (zR h l0 29) (0 : Int32).toNatClampNeg), .inl (zI h (zR h l0 29) (5 : Int32).toNatClampNeg), .inl (zI h (zR h l0 29) (4 : Int32).toNatClampNeg)] h Q ∧ ∀ v h10, Q v h10 → zWp zm101 call K 0 0 170 [some (.inr l0), some (.inl l1), some (.inl (zI h (zR h l0 29) (0 : Int32).toNatClampNeg)), some (.inl (zI h (zR h l0 29) (1 : Int32).toNatClampNeg)), some (.inl (zI h (zR h l0 29) (2 : Int32).toNatClampNeg)), some (.inl (zI h (zR h l0 29) (3 : Int32).toNatClampNeg))] (v.toList ++ []) h10)) ∧ ((zI h (zR h l0 29) (2 : Int32).toNatClampNeg) = (1 : Int32) → (¬ (zI h (zR h l0 29) (3 : Int32).toNatClampNeg) = (3 : Int32) → (¬ (zI h (zR h l0 29) (2 : Int32).toNatClampNeg) = (1 : Int32) → (¬ (zI h (zR h l0 29) (2 : Int32).toNatClampNeg) = (2 : Int32) → zK h l0 = 21 ∧ (zK h (zR h l0 29) = 1 ∨ zK h (zR h l0 29) = 101) ∧ vp_in (6 : Int32) (zL h (zR h l0 29)) ∧ zK h l0 = 21 ∧ (zK h (zR h l0 29) = 1 ∨ zK h (zR h l0 29) = 101) ∧ vp_in (7 : Int32) (zL h (zR h l0 29)) ∧ zK h l0 = 21 ∧ ∃ Q : zT, call 100 [.inr l0, .inl (zI h (zR h l0 29) (1 : Int32).toNatClampNeg), .inl (zI h (zR h l0 29) (2 : Int32).toNatClampNeg), .inl (zI h (zR h l0 29) (3 : Int32).toNatClampNeg), .inl (zI h (zR h l0 29) (6 : Int32).toNatClampNeg), .inl (zI h (zR h l0 29) (7 : Int32).toNatClampNeg)] h Q ∧ ∀ v h11, Q v h11 → zWp zm101 call K 0 0 224 [some (.inr l0), some (.inl l1), some (.inl (zI h (zR h l0 29) (0 : Int32).toNatClampNeg)), some (.inl (zI h (zR h l0 29) (1 : Int32).toNatClampNeg)), some (.inl (zI h (zR h l0 29) (2 : Int32).toNatClampNeg)), some (.inl (zI h (zR h l0 29) (3 : Int32).toNatClampNeg))] (v.toList ++ []) h11) ∧ ((zI h (zR h l0 29) (2 : Int32).toNatClampNeg) = (2 : Int32) → zK h l0 = 21 ∧ (zK h (zR h l0 29) = 1 ∨ zK h (zR h l0 29) = 101) ∧ vp_in (5 : Int32) (zL h (zR h l0 29)) ∧ zK h l0 = 21 ∧ (zK h (zR h l0 29) = 1 ∨ zK h (zR h l0 29) = 101) ∧ vp_in (6 : Int32) (zL h (zR h l0 29)) ∧ zK h l0 = 21 ∧ ∃ Q : zT, call 97 [.inr l0, .inl (zI h (zR h l0 29) (1 : Int32).toNatClampNeg), .inl (zI h (zR h l0 29) (0 : Int32).toNatClampNeg), .inl (zI h (zR h l0 29) (5 : Int32).toNatClampNeg), .inl (zI h (zR h l0 29) (6 : Int32).toNatClampNeg)] h Q ∧ ∀ v h12, Q v h12 → zWp zm101 call K 0 0 198 [some (.inr l0), some (.inl l1), some (.inl (zI h (zR h l0 29) (0 : Int32).toNatClampNeg)), some (.inl (zI h (zR h l0 29) (1 : Int32).toNatClampNeg)), some (.inl (zI h (zR h l0 29) (2 : Int32).toNatClampNeg)), some (.inl (zI h (zR h l0 29) (3 : Int32).toNatClampNeg))] (v.toList ++ []) h12)) ∧ ((zI h (zR h l0 29) (2 : Int32).toNatClampNeg) = (1 : Int32) → zK h l0 = 21 ∧ (zK h (zR h l0 29) = 1 ∨ zK h (zR h l0 29) = 101) ∧ vp_in (5 : Int32) (zL h (zR h l0 29)) ∧ zK h l0 = 21 ∧ (zK h (zR h l0 29) = 1 ∨ zK h (zR h l0 29) = 101) ∧ vp_in (4 : Int32) (zL h (zR h l0 29)) ∧ zK h l0 = 21 ∧ ∃ Q : zT, call 99 [.inr l0, .inl (zI h (zR h l0 29) (1 : Int32).toNatClampNeg), .inl (zI h (zR h l0 29) (0 : Int32).toNatClampNeg), .inl (zI h (zR h l0 29) (5 : Int32).toNatClampNeg), .inl (zI h (zR h l0 29) (4 : Int32).toNatClampNeg)] h Q ∧ ∀ v h13, Q v h13 → zWp zm101 call K 0 0 170 [some (.inr l0), some (.inl l1), some (.inl (zI h (zR h l0 29) (0 : Int32).toNatClampNeg)), some (.inl (zI h (zR h l0 29) (1 : Int32).toNatClampNeg)), some (.inl (zI h (zR h l0 29) (2 : Int32).toNatClampNeg)), some (.inl (zI h (zR h l0 29) (3 : Int32).toNatClampNeg))] (v.toList ++ []) h13)) ∧ ((zI h (zR h l0 29) (3 : Int32).toNatClampNeg) = (3 : Int32) → zK h l0 = 21 ∧ (zK h (zR h l0 29) = 1 ∨ zK h (zR h l0 29) = 101) ∧ vp_in (5 : Int32) (zL h (zR h l0 29)) ∧ zK h l0 = 21 ∧ (zK h (zR h l0 29) = 1 ∨ zK h (zR h l0 29) = 101) ∧ vp_in (4 : Int32) (zL h (zR h l0 29)) ∧ zK h l0 = 21 ∧ ∃ Q : zT, call 98 [.inr l0, .inl (zI h (zR h l0 29) (1 : Int32).toNatClampNeg), .inl (zI h (zR h l0 29) (0 : Int32).toNatClampNeg), .inl (zI h (zR h l0 29) (5 : Int32).toNatClampNeg), .inl (zI h (zR h l0 29) (4 : Int32).toNatClampNeg)] h Q ∧ ∀ v h14, Q v h14 → zWp zm101 call K 0 0 143 [some (.inr l0), some (.inl l1), some (.inl (zI h (zR h l0 29) (0 : Int32).toNatClampNeg)), some (.inl (zI h (zR h l0 29) (1 : Int32).toNatClampNeg)), some (.inl (zI h (zR h l0 29) (2 : Int32).toNatClampNeg)), some (.inl (zI h (zR h l0 29) (3 : Int32).toNatClampNeg))] (v.toList ++ []) h14))) ∧ ((zI h (zR h l0 29) (3 : Int32).toNatClampNeg) = (1 : Int32) → zK h l0 = 21 ∧ (zK h (zR h l0 29) = 1 ∨ zK h (zR h l0 29) = 101) ∧ vp_in (5 : Int32) (zL h (zR h l0 29)) ∧ zK h l0 = 21 ∧ (zK h (zR h l0 29) = 1 ∨ zK h (zR h l0 29) = 101) ∧ vp_in (4 : Int32) (zL h (zR h l0 29)) ∧ zK h l0 = 21 ∧ ∃ Q : zT, call 96 [.inr l0, .inl (zI h (zR h l0 29) (0 : Int32).toNatClampNeg), .inl (zI h (zR h l0 29) (5 : Int32).toNatClampNeg), .inl (zI h (zR h l0 29) (4 : Int32).toNatClampNeg)] h Q ∧ ∀ v h15, Q v h15 → zWp zm101 call K 0 0 110 [some (.inr l0), some (.inl l1), some (.inl (zI h (zR h l0 29) (0 : Int32).toNatClampNeg)), some (.inl (zI h (zR h l0 29) (1 : Int32).toNatClampNeg)), some (.inl (zI h (zR h l0 29) (2 : Int32).toNatClampNeg)), some (.inl (zI h (zR h l0 29) (3 : Int32).toNatClampNeg))] (v.toList ++ []) h15))) : zWp zm101 call K 0 0 51 [some (.inr l0), some (.inl l1), some (.inl l2), o3, o4, o5] [] h := zGo [17, 51, 110, 143, 170, 198, 224] 400 k
set_option maxHeartbeats 2000000 in
set_option maxRecDepth 100000 in
theorem r101_110 {call : zCall} {K : zT} {h : zH} {l0 : Nat} {l1 : Int32} {l2 : Int32} {l3 : Int32} {l4 : Int32} {l5 : Int32} (k : zWp zm101 call K 0 0 224 [some (.inr l0), some (.inl l1), some (.inl l2), some (.inl l3), some (.inl l4), some (.inl l5)] [] h) : zWp zm101 call K 0 0 110 [some (.inr l0), some (.inl l1), some (.inl l2), some (.inl l3), some (.inl l4), some (.inl l5)] [] h := zGo [17, 51, 110, 143, 170, 198, 224] 400 k
set_option maxHeartbeats 2000000 in
set_option maxRecDepth 100000 in
theorem r101_143 {call : zCall} {K : zT} {h : zH} {l0 : Nat} {l1 : Int32} {l2 : Int32} {l3 : Int32} {l4 : Int32} {l5 : Int32} (k : zWp zm101 call K 0 0 224 [some (.inr l0), some (.inl l1), some (.inl l2), some (.inl l3), some (.inl l4), some (.inl l5)] [] h) : zWp zm101 call K 0 0 143 [some (.inr l0), some (.inl l1), some (.inl l2), some (.inl l3), some (.inl l4), some (.inl l5)] [] h := zGo [17, 51, 110, 143, 170, 198, 224] 400 k
set_option maxHeartbeats 2000000 in
set_option maxRecDepth 100000 in
theorem r101_170 {call : zCall} {K : zT} {h : zH} {l0 : Nat} {l1 : Int32} {l2 : Int32} {l3 : Int32} {l4 : Int32} {l5 : Int32} (k : zWp zm101 call K 0 0 224 [some (.inr l0), some (.inl l1), some (.inl l2), some (.inl l3), some (.inl l4), some (.inl l5)] [] h) : zWp zm101 call K 0 0 170 [some (.inr l0), some (.inl l1), some (.inl l2), some (.inl l3), some (.inl l4), some (.inl l5)] [] h := zGo [17, 51, 110, 143, 170, 198, 224] 400 k
set_option maxHeartbeats 2000000 in
set_option maxRecDepth 100000 in
theorem r101_198 {call : zCall} {K : zT} {h : zH} {l0 : Nat} {l1 : Int32} {l2 : Int32} {l3 : Int32} {l4 : Int32} {l5 : Int32} (k : zWp zm101 call K 0 0 224 [some (.inr l0), some (.inl l1), some (.inl l2), some (.inl l3), some (.inl l4), some (.inl l5)] [] h) : zWp zm101 call K 0 0 198 [some (.inr l0), some (.inl l1), some (.inl l2), some (.inl l3), some (.inl l4), some (.inl l5)] [] h := zGo [17, 51, 110, 143, 170, 198, 224] 400 k
set_option maxHeartbeats 2000000 in
set_option maxRecDepth 100000 in
theorem r101_224 {call : zCall} {K : zT} {h : zH} {l0 : Nat} {l1 : Int32} {l2 : Int32} {l3 : Int32} {l4 : Int32} {l5 : Int32} (k : K (some (.inl (((10 : Int32) * l4) + l5))) h) : zWp zm101 call K 0 0 224 [some (.inr l0), some (.inl l1), some (.inl l2), some (.inl l3), some (.inl l4), some (.inl l5)] [] h := zGo [17, 51, 110, 143, 170, 198, 224] 400 k
set_option maxHeartbeats 2000000 in
set_option maxRecDepth 100000 in
theorem r102_0 {call : zCall} {K : zT} {h : zH} {l0 : Nat} {l1 : Int32} (k : (l1 < 0 → ((0 : Int32) = 0 ∨ (0 : Int32) = 1) ∧ K (some (.inl (0 : Int32))) h) ∧ (¬ l1 < 0 → zK h l0 = 21 ∧ (l1 < (zI h l0 27) → zK h l0 = 21 ∧ ∃ Q : zT, call 88 [.inr l0, .inl l1] h Q ∧ ∀ v h1, Q v h1 → zWp zm102 call K 0 0 19 [some (.inr l0), some (.inl l1)] (v.toList ++ []) h1) ∧ (¬ l1 < (zI h l0 27) → ((0 : Int32) = 0 ∨ (0 : Int32) = 1) ∧ K (some (.inl (0 : Int32))) h))) : zWp zm102 call K 0 0 0 [some (.inr l0), some (.inl l1)] [] h := zGo [19] 400 k
set_option maxHeartbeats 2000000 in
set_option maxRecDepth 100000 in
theorem r102_19 {call : zCall} {K : zT} {h : zH} {l0 : Nat} {l1 : Int32} (k : ((1 : Int32) = 0 ∨ (1 : Int32) = 1) ∧ K (some (.inl (1 : Int32))) h) : zWp zm102 call K 0 0 19 [some (.inr l0), some (.inl l1)] [] h := zGo [19] 400 k
set_option maxHeartbeats 2000000 in
set_option maxRecDepth 100000 in
theorem r103_0 {call : zCall} {K : zT} {h : zH} {l0 : Nat} {l1 : Int32} {o2 : Option zV} (k : (l1 < 0 → ((0 : Int32) = 0 ∨ (0 : Int32) = 1) ∧ K (some (.inl (0 : Int32))) h) ∧ (¬ l1 < 0 → zK h l0 = 21 ∧ ((zI h l0 27) ≤ l1 → ((0 : Int32) = 0 ∨ (0 : Int32) = 1) ∧ K (some (.inl (0 : Int32))) h) ∧ (¬ (zI h l0 27) ≤ l1 → zK h l0 = 21 ∧ (¬ (zI h l0 27) = (24 : Int32) → zWp zm103 call K 0 0 25 [some (.inr l0), some (.inl l1), some (.inl (0 : Int32))] [] h) ∧ ((zI h l0 27) = (24 : Int32) → ((0 : Int32) = 0 ∨ (0 : Int32) = 1) ∧ K (some (.inl (0 : Int32))) h)))) : zWp zm103 call K 0 0 0 [some (.inr l0), some (.inl l1), o2] [] h := zGo [25] 400 k
set_option maxHeartbeats 2000000 in
set_option maxRecDepth 100000 in
theorem r103_25 {call : zCall} {K : zT} {h : zH} {l0 : Nat} {l1 : Int32} {l2 : Int32} (k : ((8 : Int32) ≤ l2 → zK h l0 = 21 ∧ zK h l0 = 21 ∧ ∀ h1, h1 = zwI h l0 27 ((zI h l0 27) + (1 : Int32)) → ((1 : Int32) = 0 ∨ (1 : Int32) = 1) ∧ K (some (.inl (1 : Int32))) h1) ∧ (¬ (8 : Int32) ≤ l2 → zK h l0 = 21 ∧ zK h l0 = 21 ∧ zK h l0 = 21 ∧ (zK h (zR h l0 28) = 1 ∨ zK h (zR h l0 28) = 101) ∧ vp_in (((8 : Int32) * l1) + l2) (zL h (zR h l0 28)) ∧ zK h (zR h l0 28) = 1 ∧ vp_in (((8 : Int32) * (zI h l0 27)) + l2) (zL h (zR h l0 28)) ∧ ∀ h2, h2 = zwI h (zR h l0 28) (((8 : Int32) * (zI h l0 27)) + l2).toNatClampNeg (zI h (zR h l0 28) (((8 : Int32) * l1) + l2).toNatClampNeg) → zWp zm103 call K 0 0 25 [some (.inr l0), some (.inl l1), some (.inl (l2 + (1 : Int32)))] [] h2)) : zWp zm103 call K 0 0 25 [some (.inr l0), some (.inl l1), some (.inl l2)] [] h := zGo [25] 400 k
set_option maxHeartbeats 2000000 in
set_option maxRecDepth 100000 in
theorem r104_0 {call : zCall} {K : zT} {h : zH} {l0 : Nat} (k : zK h l0 = 21 ∧ K (some (.inl (zI h l0 27))) h) : zWp zm104 call K 0 0 0 [some (.inr l0)] [] h := zGo [] 400 k
set_option maxHeartbeats 2000000 in
set_option maxRecDepth 100000 in
theorem r105_0 {call : zCall} {K : zT} {h : zH} {l0 : Nat} {l1 : Int32} {l2 : Int32} (k : (l1 < 0 → K (some (.inl (-9 : Int32))) h) ∧ (¬ l1 < 0 → zK h l0 = 21 ∧ ((zI h l0 27) ≤ l1 → K (some (.inl (-9 : Int32))) h) ∧ (¬ (zI h l0 27) ≤ l1 → ∃ Q : zT, call 75 [.inl l2, .inl (0 : Int32), .inl (7 : Int32)] h Q ∧ ∀ v h1, Q v h1 → zWp zm105 call K 0 0 19 [some (.inr l0), some (.inl l1), some (.inl l2)] (v.toList ++ []) h1))) : zWp zm105 call K 0 0 0 [some (.inr l0), some (.inl l1), some (.inl l2)] [] h := zGo [19] 400 k
set_option maxHeartbeats 2000000 in
set_option maxRecDepth 100000 in
theorem r105_19 {call : zCall} {K : zT} {h : zH} {l0 : Nat} {l1 : Int32} {l2 : Int32} {s0 : Int32} (k : (s0 = 0 → zK h l0 = 21 ∧ (zK h (zR h l0 28) = 1 ∨ zK h (zR h l0 28) = 101) ∧ vp_in (((8 : Int32) * l1) + l2) (zL h (zR h l0 28)) ∧ K (some (.inl (zI h (zR h l0 28) (((8 : Int32) * l1) + l2).toNatClampNeg))) h) ∧ (¬ s0 = 0 → K (some (.inl (-9 : Int32))) h)) : zWp zm105 call K 0 0 19 [some (.inr l0), some (.inl l1), some (.inl l2)] [.inl s0] h := zGo [19] 400 k
set_option maxHeartbeats 2000000 in
set_option maxRecDepth 100000 in
theorem r106_0 {call : zCall} {K : zT} {h : zH} {l0 : Nat} {l1 : Int32} {o2 : Option zV} {o3 : Option zV} (k : zK h l0 = 21 ∧ (zK h (zR h l0 17) = 1 ∨ zK h (zR h l0 17) = 101) ∧ vp_in l1 (zL h (zR h l0 17)) ∧ zK h l0 = 21 ∧ (zK h (zR h l0 18) = 1 ∨ zK h (zR h l0 18) = 101) ∧ vp_in l1 (zL h (zR h l0 18)) ∧ zK h l0 = 21 ∧ (zK h (zR h l0 19) = 1 ∨ zK h (zR h l0 19) = 101) ∧ vp_in l1 (zL h (zR h l0 19)) ∧ (¬ (zI h (zR h l0 19) l1.toNatClampNeg) = (1 : Int32) → zK h l0 = 21 ∧ (zK h (zR h l0 19) = 1 ∨ zK h (zR h l0 19) = 101) ∧ vp_in l1 (zL h (zR h l0 19)) ∧ (¬ (zI h (zR h l0 19) l1.toNatClampNeg) = (3 : Int32) → zK h l0 = 21 ∧ ∃ Q : zT, call 86 [.inr l0, .inl l1, .inl (3 : Int32)] h Q ∧ ∀ v h1, Q v h1 → zWp zm106 call K 0 0 73 [some (.inr l0), some (.inl l1), some (.inl (zI h (zR h l0 17) l1.toNatClampNeg)), some (.inl (zI h (zR h l0 18) l1.toNatClampNeg))] (v.toList ++ []) h1) ∧ ((zI h (zR h l0 19) l1.toNatClampNeg) = (3 : Int32) → zK h l0 = 21 ∧ zK h l0 = 21 ∧ ∃ Q : zT, call 91 [.inr l0, .inl (zI h (zR h l0 18) l1.toNatClampNeg)] h Q ∧ ∀ v h2, Q v h2 → zWp zm106 call K 0 0 64 [some (.inr l0), some (.inl l1), some (.inl (zI h (zR h l0 17) l1.toNatClampNeg)), some (.inl (zI h (zR h l0 18) l1.toNatClampNeg))] (v.toList ++ [.inr (zR h l0 26)]) h2)) ∧ ((zI h (zR h l0 19) l1.toNatClampNeg) = (1 : Int32) → zK h l0 = 21 ∧ (zK h (zR h l0 21) = 1 ∨ zK h (zR h l0 21) = 101) ∧ vp_in l1 (zL h (zR h l0 21)) ∧ zK h l0 = 21 ∧ (zK h (zR h l0 23) = 1 ∨ zK h (zR h l0 23) = 101) ∧ vp_in l1 (zL h (zR h l0 23)) ∧ zK h l0 = 21 ∧ ∃ Q : zT, call 95 [.inr l0, .inl (zI h (zR h l0 17) l1.toNatClampNeg), .inl (zI h (zR h l0 21) l1.toNatClampNeg), .inl (zI h (zR h l0 23) l1.toNatClampNeg), .inl (zI h (zR h l0 18) l1.toNatClampNeg)] h Q ∧ ∀ v h3, Q v h3 → zWp zm106 call K 0 0 42 [some (.inr l0), some (.inl l1), some (.inl (zI h (zR h l0 17) l1.toNatClampNeg)), some (.inl (zI h (zR h l0 18) l1.toNatClampNeg))] (v.toList ++ []) h3)) : zWp zm106 call K 0 0 0 [some (.inr l0), some (.inl l1), o2, o3] [] h := zGo [42, 64, 73] 400 k
set_option maxHeartbeats 2000000 in
set_option maxRecDepth 100000 in
theorem r106_42 {call : zCall} {K : zT} {h : zH} {l0 : Nat} {l1 : Int32} {l2 : Int32} {l3 : Int32} (k : zK h l0 = 21 ∧ ∃ Q : zT, call 86 [.inr l0, .inl l1, .inl (3 : Int32)] h Q ∧ ∀ v h1, Q v h1 → zWp zm106 call K 0 0 73 [some (.inr l0), some (.inl l1), some (.inl l2), some (.inl l3)] (v.toList ++ []) h1) : zWp zm106 call K 0 0 42 [some (.inr l0), some (.inl l1), some (.inl l2), some (.inl l3)] [] h := zGo [42, 64, 73] 400 k
set_option maxHeartbeats 2000000 in
set_option maxRecDepth 100000 in
theorem r106_64 {call : zCall} {K : zT} {h : zH} {l0 : Nat} {l1 : Int32} {l2 : Int32} {l3 : Int32} {s0 : Nat} {s1 : Int32} (k : zK h s0 = 1 ∧ vp_in s1 (zL h s0) ∧ ∀ h1, h1 = zwI h s0 s1.toNatClampNeg (-3 : Int32) → zK h1 l0 = 21 ∧ ∃ Q : zT, call 86 [.inr l0, .inl l1, .inl (3 : Int32)] h1 Q ∧ ∀ v h2, Q v h2 → zWp zm106 call K 0 0 73 [some (.inr l0), some (.inl l1), some (.inl l2), some (.inl l3)] (v.toList ++ []) h2) : zWp zm106 call K 0 0 64 [some (.inr l0), some (.inl l1), some (.inl l2), some (.inl l3)] [.inl s1, .inr s0] h := zGo [42, 64, 73] 400 k
set_option maxHeartbeats 2000000 in
set_option maxRecDepth 100000 in
theorem r106_73 {call : zCall} {K : zT} {h : zH} {l0 : Nat} {l1 : Int32} {l2 : Int32} {l3 : Int32} (k : K none h) : zWp zm106 call K 0 0 73 [some (.inr l0), some (.inl l1), some (.inl l2), some (.inl l3)] [] h := zGo [42, 64, 73] 400 k
set_option maxHeartbeats 2000000 in
set_option maxRecDepth 100000 in
theorem r107_0 {call : zCall} {K : zT} {h : zH} {l0 : Nat} {o1 : Option zV} {o2 : Option zV} (k : zK h l0 = 21 ∧ zK h l0 = 21 ∧ ∀ h1, h1 = zwI h l0 1 ((zI h l0 1) + (1 : Int32)) → zWp zm107 call K 0 0 12 [some (.inr l0), some (.inl (0 : Int32)), o2] [] h1) : zWp zm107 call K 0 0 0 [some (.inr l0), o1, o2] [] h := zGo [12, 22, 58, 75, 127, 153, 161, 184, 207] 400 k
set_option maxHeartbeats 2000000 in
set_option maxRecDepth 100000 in
theorem r107_12 {call : zCall} {K : zT} {h : zH} {l0 : Nat} {l1 : Int32} {o2 : Option zV} (k : zK h l0 = 21 ∧ ((zI h l0 0) < l1 → zWp zm107 call K 0 0 75 [some (.inr l0), some (.inl (2 : Int32)), o2] [] h) ∧ (¬ (zI h l0 0) < l1 → zWp zm107 call K 0 0 22 [some (.inr l0), some (.inl l1), some (.inl (0 : Int32))] [] h)) : zWp zm107 call K 0 0 12 [some (.inr l0), some (.inl l1), o2] [] h := zGo [12, 22, 58, 75, 127, 153, 161, 184, 207] 400 k
set_option maxHeartbeats 2000000 in
set_option maxRecDepth 100000 in
theorem r107_22 {call : zCall} {K : zT} {h : zH} {l0 : Nat} {l1 : Int32} {l2 : Int32} (k : zK h l0 = 21 ∧ ((zI h l0 16) ≤ l2 → zWp zm107 call K 0 0 12 [some (.inr l0), some (.inl (l1 + (1 : Int32))), some (.inl l2)] [] h) ∧ (¬ (zI h l0 16) ≤ l2 → zK h l0 = 21 ∧ (zK h (zR h l0 17) = 1 ∨ zK h (zR h l0 17) = 101) ∧ vp_in l2 (zL h (zR h l0 17)) ∧ (¬ (zI h (zR h l0 17) l2.toNatClampNeg) = l1 → zWp zm107 call K 0 0 22 [some (.inr l0), some (.inl l1), some (.inl (l2 + (1 : Int32)))] [] h) ∧ ((zI h (zR h l0 17) l2.toNatClampNeg) = l1 → zK h l0 = 21 ∧ (zK h (zR h l0 22) = 1 ∨ zK h (zR h l0 22) = 101) ∧ vp_in l2 (zL h (zR h l0 22)) ∧ zK h l0 = 21 ∧ (¬ (zI h (zR h l0 22) l2.toNatClampNeg) = (zI h l0 1) → zWp zm107 call K 0 0 22 [some (.inr l0), some (.inl l1), some (.inl (l2 + (1 : Int32)))] [] h) ∧ ((zI h (zR h l0 22) l2.toNatClampNeg) = (zI h l0 1) → zK h l0 = 21 ∧ ∃ Q : zT, call 106 [.inr l0, .inl l2] h Q ∧ ∀ v h1, Q v h1 → zWp zm107 call K 0 0 58 [some (.inr l0), some (.inl l1), some (.inl l2)] (v.toList ++ []) h1)))) : zWp zm107 call K 0 0 22 [some (.inr l0), some (.inl l1), some (.inl l2)] [] h := zGo [12, 22, 58, 75, 127, 153, 161, 184, 207] 400 k
set_option maxHeartbeats 2000000 in
set_option maxRecDepth 100000 in
theorem r107_58 {call : zCall} {K : zT} {h : zH} {l0 : Nat} {l1 : Int32} {l2 : Int32} (k : zWp zm107 call K 0 0 22 [some (.inr l0), some (.inl l1), some (.inl l2)] [] h) : zWp zm107 call K 0 0 58 [some (.inr l0), some (.inl l1), some (.inl l2)] [] h := zGo [12, 22, 58, 75, 127, 153, 161, 184, 207] 400 k
set_option maxHeartbeats 2000000 in
set_option maxRecDepth 100000 in
theorem r107_75 {call : zCall} {K : zT} {h : zH} {l0 : Nat} {l1 : Int32} {o2 : Option zV} (k : ((10 : Int32) ≤ l1 → zWp zm107 call K 0 0 127 [some (.inr l0), some (.inl (0 : Int32)), o2] [] h) ∧ (¬ (10 : Int32) ≤ l1 → zK h l0 = 21 ∧ zK h l0 = 21 ∧ (zK h (zR h l0 13) = 1 ∨ zK h (zR h l0 13) = 101) ∧ vp_in l1 (zL h (zR h l0 13)) ∧ ((zI h (zR h l0 13) l1.toNatClampNeg) < 0 → zK h l0 = 21 ∧ (zK h (zR h l0 13) = 1 ∨ zK h (zR h l0 13) = 101) ∧ vp_in l1 (zL h (zR h l0 13)) ∧ zK h (zR h l0 13) = 1 ∧ vp_in l1 (zL h (zR h l0 13)) ∧ ∀ h1, h1 = zwI h (zR h l0 13) l1.toNatClampNeg (zI h (zR h l0 13) l1.toNatClampNeg) → zWp zm107 call K 0 0 75 [some (.inr l0), some (.inl (l1 + (1 : Int32))), o2] [] h1) ∧ (¬ (zI h (zR h l0 13) l1.toNatClampNeg) < 0 → zK h l0 = 21 ∧ (zK h (zR h l0 14) = 1 ∨ zK h (zR h l0 14) = 101) ∧ vp_in l1 (zL h (zR h l0 14)) ∧ zK h l0 = 21 ∧ (¬ (zI h (zR h l0 14) l1.toNatClampNeg) = (zI h l0 1) → zK h l0 = 21 ∧ (zK h (zR h l0 13) = 1 ∨ zK h (zR h l0 13) = 101) ∧ vp_in l1 (zL h (zR h l0 13)) ∧ zK h (zR h l0 13) = 1 ∧ vp_in l1 (zL h (zR h l0 13)) ∧ ∀ h2, h2 = zwI h (zR h l0 13) l1.toNatClampNeg (zI h (zR h l0 13) l1.toNatClampNeg) → zWp zm107 call K 0 0 75 [some (.inr l0), some (.inl (l1 + (1 : Int32))), o2] [] h2) ∧ ((zI h (zR h l0 14) l1.toNatClampNeg) = (zI h l0 1) → zK h (zR h l0 13) = 1 ∧ vp_in l1 (zL h (zR h l0 13)) ∧ ∀ h3, h3 = zwI h (zR h l0 13) l1.toNatClampNeg (-1 : Int32) → zWp zm107 call K 0 0 75 [some (.inr l0), some (.inl (l1 + (1 : Int32))), o2] [] h3)))) : zWp zm107 call K 0 0 75 [some (.inr l0), some (.inl l1), o2] [] h := zGo [12, 22, 58, 75, 127, 153, 161, 184, 207] 400 k
set_option maxHeartbeats 2000000 in
set_option maxRecDepth 100000 in
theorem r107_127 {call : zCall} {K : zT} {h : zH} {l0 : Nat} {l1 : Int32} {o2 : Option zV} (k : zK h l0 = 21 ∧ ((zI h l0 8) ≤ l1 → zK h l0 = 21 ∧ K (some (.inl (zI h l0 1))) h) ∧ (¬ (zI h l0 8) ≤ l1 → zK h l0 = 21 ∧ (zK h (zR h l0 10) = 1 ∨ zK h (zR h l0 10) = 101) ∧ vp_in l1 (zL h (zR h l0 10)) ∧ zK h l0 = 21 ∧ (zK h (zR h l0 9) = 1 ∨ zK h (zR h l0 9) = 101) ∧ vp_in l1 (zL h (zR h l0 9)) ∧ zK h l0 = 21 ∧ ∃ Q : zT, call 83 [.inr l0, .inl (0 : Int32), .inl (2 : Int32), .inl (zI h (zR h l0 10) l1.toNatClampNeg), .inl (zI h (zR h l0 9) l1.toNatClampNeg)] h Q ∧ ∀ v h1, Q v h1 → zWp zm107 call K 0 0 153 [some (.inr l0), some (.inl l1), o2] (v.toList ++ []) h1)) : zWp zm107 call K 0 0 127 [some (.inr l0), some (.inl l1), o2] [] h := zGo [12, 22, 58, 75, 127, 153, 161, 184, 207] 400 k
set_option maxHeartbeats 2000000 in
set_option maxRecDepth 100000 in
theorem r107_153 {call : zCall} {K : zT} {h : zH} {l0 : Nat} {l1 : Int32} {o2 : Option zV} {s0 : Int32} (k : (0 ≤ s0 → zWp zm107 call K 0 0 207 [some (.inr l0), some (.inl l1), o2] [] h) ∧ (¬ 0 ≤ s0 → zK h l0 = 21 ∧ ∃ Q : zT, call 81 [.inr l0, .inl (0 : Int32)] h Q ∧ ∀ v h1, Q v h1 → zWp zm107 call K 0 0 161 [some (.inr l0), some (.inl l1), o2] (v.toList ++ []) h1)) : zWp zm107 call K 0 0 153 [some (.inr l0), some (.inl l1), o2] [.inl s0] h := zGo [12, 22, 58, 75, 127, 153, 161, 184, 207] 400 k
set_option maxHeartbeats 2000000 in
set_option maxRecDepth 100000 in
theorem r107_161 {call : zCall} {K : zT} {h : zH} {l0 : Nat} {l1 : Int32} {o2 : Option zV} {s0 : Int32} (k : ((4 : Int32) ≤ s0 → zWp zm107 call K 0 0 207 [some (.inr l0), some (.inl l1), o2] [] h) ∧ (¬ (4 : Int32) ≤ s0 → zK h l0 = 21 ∧ (zK h (zR h l0 10) = 1 ∨ zK h (zR h l0 10) = 101) ∧ vp_in l1 (zL h (zR h l0 10)) ∧ zK h l0 = 21 ∧ (zK h (zR h l0 9) = 1 ∨ zK h (zR h l0 9) = 101) ∧ vp_in l1 (zL h (zR h l0 9)) ∧ zK h l0 = 21 ∧ ∃ Q : zT, call 84 [.inr l0, .inl (0 : Int32), .inl (2 : Int32), .inl (zI h (zR h l0 10) l1.toNatClampNeg), .inl (zI h (zR h l0 9) l1.toNatClampNeg), .inl (4 : Int32)] h Q ∧ ∀ v h1, Q v h1 → zWp zm107 call K 0 0 184 [some (.inr l0), some (.inl l1), o2] (v.toList ++ []) h1)) : zWp zm107 call K 0 0 161 [some (.inr l0), some (.inl l1), o2] [.inl s0] h := zGo [12, 22, 58, 75, 127, 153, 161, 184, 207] 400 k
set_option maxHeartbeats 2000000 in
set_option maxRecDepth 100000 in
theorem r107_184 {call : zCall} {K : zT} {h : zH} {l0 : Nat} {l1 : Int32} {o2 : Option zV} {s0 : Int32} (k : zK h l0 = 21 ∧ (zK h (zR h l0 9) = 1 ∨ zK h (zR h l0 9) = 101) ∧ vp_in l1 (zL h (zR h l0 9)) ∧ zK h l0 = 21 ∧ (zK h (zR h l0 10) = 1 ∨ zK h (zR h l0 10) = 101) ∧ vp_in l1 (zL h (zR h l0 10)) ∧ zK h l0 = 21 ∧ ∃ Q : zT, call 87 [.inr l0, .inl (0 : Int32), .inl (zI h (zR h l0 9) l1.toNatClampNeg), .inl (13 : Int32), .inl (zI h (zR h l0 10) l1.toNatClampNeg), .inl s0, .inl (0 : Int32), .inl (0 : Int32)] h Q ∧ ∀ v h1, Q v h1 → zWp zm107 call K 0 0 207 [some (.inr l0), some (.inl l1), some (.inl s0)] (v.toList ++ []) h1) : zWp zm107 call K 0 0 184 [some (.inr l0), some (.inl l1), o2] [.inl s0] h := zGo [12, 22, 58, 75, 127, 153, 161, 184, 207] 400 k
set_option maxHeartbeats 2000000 in
set_option maxRecDepth 100000 in
theorem r107_207 {call : zCall} {K : zT} {h : zH} {l0 : Nat} {l1 : Int32} {o2 : Option zV} (k : zWp zm107 call K 0 0 127 [some (.inr l0), some (.inl (l1 + (1 : Int32))), o2] [] h) : zWp zm107 call K 0 0 207 [some (.inr l0), some (.inl l1), o2] [] h := zGo [12, 22, 58, 75, 127, 153, 161, 184, 207] 400 k
set_option maxHeartbeats 2000000 in
set_option maxRecDepth 100000 in
theorem r108_0 {call : zCall} {K : zT} {h : zH} {l0 : Nat} {l1 : Int32} {l2 : Int32} (k : zK h l0 = 21 ∧ ∃ Q : zT, call 76 [.inr l0, .inl l1] h Q ∧ ∀ v h1, Q v h1 → zWp zm108 call K 0 0 5 [some (.inr l0), some (.inl l1), some (.inl l2)] (v.toList ++ []) h1) : zWp zm108 call K 0 0 0 [some (.inr l0), some (.inl l1), some (.inl l2)] [] h := zGo [5, 14] 400 k
set_option maxHeartbeats 2000000 in
set_option maxRecDepth 100000 in
theorem r108_5 {call : zCall} {K : zT} {h : zH} {l0 : Nat} {l1 : Int32} {l2 : Int32} {s0 : Int32} (k : (s0 = 0 → ((0 : Int32) = 0 ∨ (0 : Int32) = 1) ∧ K (some (.inl (0 : Int32))) h) ∧ (¬ s0 = 0 → ∃ Q : zT, call 75 [.inl l2, .inl (0 : Int32), .inl (3 : Int32)] h Q ∧ ∀ v h1, Q v h1 → zWp zm108 call K 0 0 14 [some (.inr l0), some (.inl l1), some (.inl l2)] (v.toList ++ []) h1)) : zWp zm108 call K 0 0 5 [some (.inr l0), some (.inl l1), some (.inl l2)] [.inl s0] h := zGo [5, 14] 400 k
set_option maxHeartbeats 2000000 in
set_option maxRecDepth 100000 in
theorem r108_14 {call : zCall} {K : zT} {h : zH} {l0 : Nat} {l1 : Int32} {l2 : Int32} {s0 : Int32} (k : (¬ s0 = 0 → ((0 : Int32) = 0 ∨ (0 : Int32) = 1) ∧ K (some (.inl (0 : Int32))) h) ∧ (s0 = 0 → zK h l0 = 21 ∧ zK h (zR h l0 11) = 2 ∧ vp_in (((4 : Int32) * l1) + l2) (zL h (zR h l0 11)) ∧ ((zI h (zR h l0 11) (((4 : Int32) * l1) + l2).toNatClampNeg) = 0 → ((0 : Int32) = 0 ∨ (0 : Int32) = 1) ∧ K (some (.inl (0 : Int32))) h) ∧ (¬ (zI h (zR h l0 11) (((4 : Int32) * l1) + l2).toNatClampNeg) = 0 → ((1 : Int32) = 0 ∨ (1 : Int32) = 1) ∧ K (some (.inl (1 : Int32))) h))) : zWp zm108 call K 0 0 14 [some (.inr l0), some (.inl l1), some (.inl l2)] [.inl s0] h := zGo [5, 14] 400 k
set_option maxHeartbeats 2000000 in
set_option maxRecDepth 100000 in
theorem r109_0 {call : zCall} {K : zT} {h : zH} {l0 : Nat} {l1 : Int32} (k : ∃ Q : zT, call 75 [.inl l1, .inl (0 : Int32), .inl (3 : Int32)] h Q ∧ ∀ v h1, Q v h1 → zWp zm109 call K 0 0 6 [some (.inr l0), some (.inl l1)] (v.toList ++ []) h1) : zWp zm109 call K 0 0 0 [some (.inr l0), some (.inl l1)] [] h := zGo [6] 400 k
set_option maxHeartbeats 2000000 in
set_option maxRecDepth 100000 in
theorem r109_6 {call : zCall} {K : zT} {h : zH} {l0 : Nat} {l1 : Int32} {s0 : Int32} (k : (s0 = 0 → zK h l0 = 21 ∧ (zK h (zR h l0 3) = 1 ∨ zK h (zR h l0 3) = 101) ∧ vp_in l1 (zL h (zR h l0 3)) ∧ K (some (.inl (zI h (zR h l0 3) l1.toNatClampNeg))) h) ∧ (¬ s0 = 0 → K (some (.inl (-9 : Int32))) h)) : zWp zm109 call K 0 0 6 [some (.inr l0), some (.inl l1)] [.inl s0] h := zGo [6] 400 k
set_option maxHeartbeats 2000000 in
set_option maxRecDepth 100000 in
theorem r110_0 {call : zCall} {K : zT} {h : zH} {l0 : Nat} {l1 : Int32} {l2 : Int32} (k : zK h l0 = 21 ∧ ∃ Q : zT, call 76 [.inr l0, .inl l1] h Q ∧ ∀ v h1, Q v h1 → zWp zm110 call K 0 0 5 [some (.inr l0), some (.inl l1), some (.inl l2)] (v.toList ++ []) h1) : zWp zm110 call K 0 0 0 [some (.inr l0), some (.inl l1), some (.inl l2)] [] h := zGo [5, 14] 400 k
set_option maxHeartbeats 2000000 in
set_option maxRecDepth 100000 in
theorem r110_5 {call : zCall} {K : zT} {h : zH} {l0 : Nat} {l1 : Int32} {l2 : Int32} {s0 : Int32} (k : (s0 = 0 → K (some (.inl (-9 : Int32))) h) ∧ (¬ s0 = 0 → ∃ Q : zT, call 75 [.inl l2, .inl (0 : Int32), .inl (3 : Int32)] h Q ∧ ∀ v h1, Q v h1 → zWp zm110 call K 0 0 14 [some (.inr l0), some (.inl l1), some (.inl l2)] (v.toList ++ []) h1)) : zWp zm110 call K 0 0 5 [some (.inr l0), some (.inl l1), some (.inl l2)] [.inl s0] h := zGo [5, 14] 400 k
set_option maxHeartbeats 2000000 in
set_option maxRecDepth 100000 in
theorem r110_14 {call : zCall} {K : zT} {h : zH} {l0 : Nat} {l1 : Int32} {l2 : Int32} {s0 : Int32} (k : (s0 = 0 → zK h l0 = 21 ∧ (zK h (zR h l0 12) = 1 ∨ zK h (zR h l0 12) = 101) ∧ vp_in (((4 : Int32) * l1) + l2) (zL h (zR h l0 12)) ∧ K (some (.inl (zI h (zR h l0 12) (((4 : Int32) * l1) + l2).toNatClampNeg))) h) ∧ (¬ s0 = 0 → K (some (.inl (-9 : Int32))) h)) : zWp zm110 call K 0 0 14 [some (.inr l0), some (.inl l1), some (.inl l2)] [.inl s0] h := zGo [5, 14] 400 k
set_option maxHeartbeats 2000000 in
set_option maxRecDepth 100000 in
theorem r111_0 {call : zCall} {K : zT} {h : zH} {l0 : Nat} {l1 : Int32} (k : zK h l0 = 21 ∧ ∃ Q : zT, call 75 [.inl l1, .inl (0 : Int32), .inl (zI h l0 0)] h Q ∧ ∀ v h1, Q v h1 → zWp zm111 call K 0 0 9 [some (.inr l0), some (.inl l1)] (v.toList ++ []) h1) : zWp zm111 call K 0 0 0 [some (.inr l0), some (.inl l1)] [] h := zGo [9, 22] 400 k
set_option maxHeartbeats 2000000 in
set_option maxRecDepth 100000 in
theorem r111_9 {call : zCall} {K : zT} {h : zH} {l0 : Nat} {l1 : Int32} {s0 : Int32} (k : (s0 = 0 → zK h l0 = 21 ∧ ∃ Q : zT, call 81 [.inr l0, .inl l1] h Q ∧ ∀ v h1, Q v h1 → zWp zm111 call K 0 0 22 [some (.inr l0), some (.inl l1)] (v.toList ++ []) h1) ∧ (¬ s0 = 0 → zWp zm111 call K 0 0 22 [some (.inr l0), some (.inl l1)] [.inl (-9 : Int32)] h)) : zWp zm111 call K 0 0 9 [some (.inr l0), some (.inl l1)] [.inl s0] h := zGo [9, 22] 400 k
set_option maxHeartbeats 2000000 in
set_option maxRecDepth 100000 in
theorem r111_22 {call : zCall} {K : zT} {h : zH} {l0 : Nat} {l1 : Int32} {s0 : Int32} (k : K (some (.inl s0)) h) : zWp zm111 call K 0 0 22 [some (.inr l0), some (.inl l1)] [.inl s0] h := zGo [9, 22] 400 k
set_option maxHeartbeats 2000000 in
set_option maxRecDepth 100000 in
theorem r112_0 {call : zCall} {K : zT} {h : zH} {l0 : Nat} {l1 : Int32} {l2 : Int32} {o3 : Option zV} {o4 : Option zV} (k : zWp zm112 call K 0 0 5 [some (.inr l0), some (.inl l1), some (.inl l2), some (.inl l2), some (.inl (0 : Int32))] [] h) : zWp zm112 call K 0 0 0 [some (.inr l0), some (.inl l1), some (.inl l2), o3, o4] [] h := zGo [5] 400 k
set_option maxHeartbeats 2000000 in
set_option maxRecDepth 100000 in
theorem r112_5 {call : zCall} {K : zT} {h : zH} {l0 : Nat} {l1 : Int32} {l2 : Int32} {l3 : Int32} {l4 : Int32} (k : zK h l0 = 21 ∧ ((zI h l0 16) ≤ l4 → K (some (.inl (-9 : Int32))) h) ∧ (¬ (zI h l0 16) ≤ l4 → (l2 < 0 → K (some (.inl (-9 : Int32))) h) ∧ (¬ l2 < 0 → zK h l0 = 21 ∧ (zK h (zR h l0 17) = 1 ∨ zK h (zR h l0 17) = 101) ∧ vp_in l4 (zL h (zR h l0 17)) ∧ (¬ (zI h (zR h l0 17) l4.toNatClampNeg) = l1 → zWp zm112 call K 0 0 5 [some (.inr l0), some (.inl l1), some (.inl l2), some (.inl l3), some (.inl (l4 + (1 : Int32)))] [] h) ∧ ((zI h (zR h l0 17) l4.toNatClampNeg) = l1 → (¬ l3 = 0 → zWp zm112 call K 0 0 5 [some (.inr l0), some (.inl l1), some (.inl l2), some (.inl (l3 + (-1 : Int32))), some (.inl (l4 + (1 : Int32)))] [] h) ∧ (l3 = 0 → zK h l0 = 21 ∧ (zK h (zR h l0 18) = 1 ∨ zK h (zR h l0 18) = 101) ∧ vp_in l4 (zL h (zR h l0 18)) ∧ K (some (.inl (zI h (zR h l0 18) l4.toNatClampNeg))) h))))) : zWp zm112 call K 0 0 5 [some (.inr l0), some (.inl l1), some (.inl l2), some (.inl l3), some (.inl l4)] [] h := zGo [5] 400 k
set_option maxHeartbeats 2000000 in
set_option maxRecDepth 100000 in
theorem r113_0 {call : zCall} {K : zT} {h : zH} {l0 : Nat} {l1 : Int32} (k : (l1 < 0 → K (some (.inl (-1 : Int32))) h) ∧ (¬ l1 < 0 → zK h l0 = 21 ∧ (l1 < (zI h l0 8) → zK h l0 = 21 ∧ (zK h (zR h l0 9) = 1 ∨ zK h (zR h l0 9) = 101) ∧ vp_in l1 (zL h (zR h l0 9)) ∧ zK h l0 = 21 ∧ (zK h (zR h l0 10) = 1 ∨ zK h (zR h l0 10) = 101) ∧ vp_in l1 (zL h (zR h l0 10)) ∧ K (some (.inl (((4 : Int32) * (zI h (zR h l0 9) l1.toNatClampNeg)) + (zI h (zR h l0 10) l1.toNatClampNeg)))) h) ∧ (¬ l1 < (zI h l0 8) → K (some (.inl (-1 : Int32))) h))) : zWp zm113 call K 0 0 0 [some (.inr l0), some (.inl l1)] [] h := zGo [] 400 k
set_option maxHeartbeats 2000000 in
set_option maxRecDepth 100000 in
theorem r114_0 {call : zCall} {K : zT} {h : zH} {l0 : Nat} {l1 : Int32} {o2 : Option zV} {o3 : Option zV} {o4 : Option zV} (k : ¬ (100 : Int32) = 0 ∧ zK h l0 = 21 ∧ ∃ Q : zT, call 76 [.inr l0, .inl (l1 / (100 : Int32))] h Q ∧ ∀ v h1, Q v h1 → zWp zm114 call K 0 0 17 [some (.inr l0), some (.inl l1), some (.inl (l1 / (100 : Int32))), some (.inl (l1 - ((100 : Int32) * (l1 / (100 : Int32))))), o4] (v.toList ++ []) h1) : zWp zm114 call K 0 0 0 [some (.inr l0), some (.inl l1), o2, o3, o4] [] h := zGo [17, 26] 400 k
set_option maxHeartbeats 2000000 in
set_option maxRecDepth 100000 in
theorem r114_17 {call : zCall} {K : zT} {h : zH} {l0 : Nat} {l1 : Int32} {l2 : Int32} {l3 : Int32} {o4 : Option zV} {s0 : Int32} (k : (s0 = 0 → K (some (.inl (-9 : Int32))) h) ∧ (¬ s0 = 0 → ∃ Q : zT, call 75 [.inl l3, .inl (0 : Int32), .inl (1 : Int32)] h Q ∧ ∀ v h1, Q v h1 → zWp zm114 call K 0 0 26 [some (.inr l0), some (.inl l1), some (.inl l2), some (.inl l3), o4] (v.toList ++ []) h1)) : zWp zm114 call K 0 0 17 [some (.inr l0), some (.inl l1), some (.inl l2), some (.inl l3), o4] [.inl s0] h := zGo [17, 26] 400 k
set_option maxHeartbeats 2000000 in
set_option maxRecDepth 100000 in
theorem r114_26 {call : zCall} {K : zT} {h : zH} {l0 : Nat} {l1 : Int32} {l2 : Int32} {l3 : Int32} {o4 : Option zV} {s0 : Int32} (k : (s0 = 0 → zK h l0 = 21 ∧ (zK h (zR h l0 13) = 1 ∨ zK h (zR h l0 13) = 101) ∧ vp_in (((2 : Int32) * l2) + l3) (zL h (zR h l0 13)) ∧ zK h l0 = 21 ∧ zK h (zR h l0 13) = 1 ∧ vp_in (((2 : Int32) * l2) + l3) (zL h (zR h l0 13)) ∧ ∀ h1, h1 = zwI h (zR h l0 13) (((2 : Int32) * l2) + l3).toNatClampNeg (-1 : Int32) → K (some (.inl (zI h (zR h l0 13) (((2 : Int32) * l2) + l3).toNatClampNeg))) h1) ∧ (¬ s0 = 0 → K (some (.inl (-9 : Int32))) h)) : zWp zm114 call K 0 0 26 [some (.inr l0), some (.inl l1), some (.inl l2), some (.inl l3), o4] [.inl s0] h := zGo [17, 26] 400 k
end
section
/-! ===== the reference: its object, at m; only ints are ever written ===== -/
def gM (h : zH) (m : Nat) : Prop := zK h m = 21 ∧ (zR h m 2 = m + 1 ∧ zR h m 3 = m + 2 ∧ zR h m 5 = m + 3 ∧ zR h m 6 = m + 4 ∧ zR h m 7 = m + 5 ∧ zR h m 9 = m + 6 ∧ zR h m 10 = m + 7 ∧ zR h m 11 = m + 8 ∧ zR h m 12 = m + 9 ∧ zR h m 13 = m + 10 ∧ zR h m 14 = m + 11 ∧ zR h m 15 = m + 12 ∧ zR h m 17 = m + 13 ∧ zR h m 18 = m + 14 ∧ zR h m 19 = m + 15 ∧ zR h m 20 = m + 16 ∧ zR h m 21 = m + 17 ∧ zR h m 22 = m + 18 ∧ zR h m 23 = m + 19 ∧ zR h m 25 = m + 20 ∧ zR h m 26 = m + 21 ∧ zR h m 28 = m + 22 ∧ zR h m 29 = m + 23) ∧ (zK h (m + 1) = 1 ∧ zK h (m + 2) = 1 ∧ zK h (m + 3) = 1 ∧ zK h (m + 4) = 1 ∧ zK h (m + 5) = 2 ∧ zK h (m + 6) = 1 ∧ zK h (m + 7) = 1 ∧ zK h (m + 8) = 2 ∧ zK h (m + 9) = 1 ∧ zK h (m + 10) = 1 ∧ zK h (m + 11) = 1 ∧ zK h (m + 12) = 1 ∧ zK h (m + 13) = 1 ∧ zK h (m + 14) = 1 ∧ zK h (m + 15) = 1 ∧ zK h (m + 16) = 1 ∧ zK h (m + 17) = 1 ∧ zK h (m + 18) = 1 ∧ zK h (m + 19) = 1 ∧ zK h (m + 20) = 1 ∧ zK h (m + 21) = 1 ∧ zK h (m + 22) = 1 ∧ zK h (m + 23) = 1) ∧ (zL h (m + 1) = 4 ∧ zL h (m + 2) = 4 ∧ zL h (m + 3) = 6 ∧ zL h (m + 4) = 6 ∧ zL h (m + 5) = 6 ∧ zL h (m + 6) = 7 ∧ zL h (m + 7) = 7 ∧ zL h (m + 8) = 20 ∧ zL h (m + 9) = 20 ∧ zL h (m + 10) = 10 ∧ zL h (m + 11) = 10 ∧ zL h (m + 12) = 5 ∧ zL h (m + 13) = 12 ∧ zL h (m + 14) = 12 ∧ zL h (m + 15) = 12 ∧ zL h (m + 16) = 12 ∧ zL h (m + 17) = 12 ∧ zL h (m + 18) = 12 ∧ zL h (m + 19) = 12 ∧ zL h (m + 20) = 520 ∧ zL h (m + 21) = 520 ∧ zL h (m + 22) = 192 ∧ zL h (m + 23) = 8)
/-- only ints changed, in the cells of A -/
def zJ (A : Nat → Prop) (h h' : zH) : Prop := (∀ b, zK h' b = zK h b) ∧ (∀ b, zL h' b = zL h b) ∧ zN h' = zN h ∧ (∀ a j, zR h' a j = zR h a j) ∧ ∀ b, ¬ A b → ∀ j, zI h' b j = zI h b j
theorem zJ.rf {A : Nat → Prop} {h : zH} : zJ A h h := ⟨fun _ => rfl, fun _ => rfl, rfl, fun _ _ => rfl, fun _ _ _ => rfl⟩
theorem zJ.tr {A : Nat → Prop} {h h1 h2 : zH} (a : zJ A h h1) (b : zJ A h1 h2) : zJ A h h2 := ⟨fun q => (b.1 q).trans (a.1 q), fun q => (b.2.1 q).trans (a.2.1 q), b.2.2.1.trans a.2.2.1, fun q j => (b.2.2.2.1 q j).trans (a.2.2.2.1 q j), fun q hq j => (b.2.2.2.2 q hq j).trans (a.2.2.2.2 q hq j)⟩
theorem zJ.wd {A B : Nat → Prop} {h h' : zH} (a : zJ A h h') (hAB : ∀ b, A b → B b) : zJ B h h' := ⟨a.1, a.2.1, a.2.2.1, a.2.2.2.1, fun q hq j => a.2.2.2.2 q (fun z => hq (hAB q z)) j⟩
theorem zJ.wI {A : Nat → Prop} {h : zH} {a k : Nat} {v : Int32} (ha : A a) : zJ A h (zwI h a k v) := ⟨fun _ => rfl, fun _ => rfl, rfl, fun _ _ => rfl, fun b hb j => by rw [zI_wI, if_neg (fun q => hb (by rw [q.1]; exact ha))]⟩
theorem zJ.same {A : Nat → Prop} {h h' : zH} (a : zJ A h h') : zSame A h h' := ⟨a.1, a.2.1, a.2.2.1, fun b hb j => ⟨a.2.2.2.2 b hb j, a.2.2.2.1 b j⟩⟩
theorem gM_J {A : Nat → Prop} {h h' : zH} {m : Nat} (s : zJ A h h') (g : gM h m) : gM h' m := by
  unfold gM at g ⊢
  simp only [s.1, s.2.1, s.2.2.2.1]
  exact g
/-- one row of the one list of dialogues -/
def rG (h : zH) (m j : Nat) (p : Nat × (Nat → Int32)) : Prop := zI h (m + 13) j = nI p.1 ∧ zI h (m + 14) j = p.2 0 ∧ zI h (m + 15) j + 1 = p.2 1 ∧ zI h (m + 16) j = p.2 3 ∧ zI h (m + 17) j = p.2 2 ∧ zI h (m + 18) j = p.2 4 ∧ zI h (m + 19) j = p.2 5
def mT (h : zH) (m : Nat) (T : List (Nat → Int32)) : Prop := T.length ≤ 6 ∧ zI h m 4 = nI T.length ∧ ∀ j t, T[j]? = some t → zI h (m + 3) j = t 0 ∧ zI h (m + 4) j = t 1 ∧ zI h (m + 5) j = t 2
def mC (h : zH) (m w : Nat) (C : List Int32) : Prop := C.length ≤ 6 ∧ zI h m 8 = nI C.length ∧ ∀ j c, C[j]? = some c → ∃ a b : Nat, a ≤ w ∧ b < 4 ∧ zI h (m + 6) j = nI a ∧ zI h (m + 7) j = nI b ∧ c = nI (4 * a + b)
def mG (h : zH) (m : Nat) (G : List (Nat × (Nat → Int32))) : Prop := G.length ≤ 12 ∧ zI h m 16 = nI G.length ∧ ∀ j p, G[j]? = some p → rG h m j p
def mQ (h : zH) (m : Nat) (Q : List (Int32 × Int32)) : Prop := Q.length ≤ 520 ∧ zI h m 24 = nI Q.length ∧ ∀ (j : Nat) (q : Int32 × Int32), Q[j]? = some q → zI h (m + 20) j = q.1 ∧ zI h (m + 21) j = q.2
def mF (h : zH) (m : Nat) (F : List (Nat → Int32)) : Prop := F.length ≤ 24 ∧ zI h m 27 = nI F.length ∧ ∀ j f, F[j]? = some f → ∀ i, i < 8 → zI h (m + 22) (8 * j + i) = sPart f (nI i)
/-- the heap holds the state at m; the dialogues as the one list G -/
def MH (h : zH) (m w : Nat) (S : sS) (G : List (Nat × (Nat → Int32))) : Prop := gM h m ∧ zI h m 0 = nI w ∧ zI h m 1 = sClk S ∧ (∀ s, s < 4 → zI h (m + 1) s = sDg S s) ∧ (∀ s, s < 4 → zI h (m + 2) s = sLo S s) ∧ mT h m (sT S) ∧ mC h m w (sC S) ∧ (∀ k, k < 4 * (w + 1) → zI h (m + 8) k = sHe S k) ∧ (∀ k, k < 4 * (w + 1) → zI h (m + 9) k = sSt S k) ∧
  (∀ k, k < 10 → zI h (m + 10) k = sO S k ∧ zI h (m + 11) k = sU S k) ∧ (∀ v, v ≤ w → zI h (m + 12) v = sL S v) ∧ mG h m G ∧ mQ h m (sQ S) ∧ mF h m (sF S)
theorem rG_J {A : Nat → Prop} {h h' : zH} {m j : Nat} {p : Nat × (Nat → Int32)} (s : zJ A h h') (hA : ∀ b, m + 13 ≤ b → b ≤ m + 19 → ¬ A b) (r : rG h m j p) : rG h' m j p := by
  unfold rG at r ⊢
  rw [s.2.2.2.2 (m + 13) (hA _ (by omega) (by omega)) j, s.2.2.2.2 (m + 14) (hA _ (by omega) (by omega)) j, s.2.2.2.2 (m + 15) (hA _ (by omega) (by omega)) j, s.2.2.2.2 (m + 16) (hA _ (by omega) (by omega)) j, s.2.2.2.2 (m + 17) (hA _ (by omega) (by omega)) j, s.2.2.2.2 (m + 18) (hA _ (by omega) (by omega)) j, s.2.2.2.2 (m + 19) (hA _ (by omega) (by omega)) j]
  exact r
theorem mT_J {A : Nat → Prop} {h h' : zH} {m : Nat} {T : List (Nat → Int32)} (s : zJ A h h') (h0 : zI h' m 4 = zI h m 4) (h3 : ¬ A (m + 3)) (h4 : ¬ A (m + 4)) (h5 : ¬ A (m + 5)) (x : mT h m T) : mT h' m T :=
  ⟨x.1, h0.trans x.2.1, fun j t ht => ⟨(s.2.2.2.2 _ h3 j).trans (x.2.2 j t ht).1, (s.2.2.2.2 _ h4 j).trans (x.2.2 j t ht).2.1, (s.2.2.2.2 _ h5 j).trans (x.2.2 j t ht).2.2⟩⟩
theorem mC_J {A : Nat → Prop} {h h' : zH} {m w : Nat} {C : List Int32} (s : zJ A h h') (h0 : zI h' m 8 = zI h m 8) (h6 : ¬ A (m + 6)) (h7 : ¬ A (m + 7)) (x : mC h m w C) : mC h' m w C :=
  ⟨x.1, h0.trans x.2.1, fun j c hc => by
    obtain ⟨a, b, e1, e2, e3, e4, e5⟩ := x.2.2 j c hc
    exact ⟨a, b, e1, e2, (s.2.2.2.2 _ h6 j).trans e3, (s.2.2.2.2 _ h7 j).trans e4, e5⟩⟩
theorem mG_J {A : Nat → Prop} {h h' : zH} {m : Nat} {G : List (Nat × (Nat → Int32))} (s : zJ A h h') (h0 : zI h' m 16 = zI h m 16) (hA : ∀ b, m + 13 ≤ b → b ≤ m + 19 → ¬ A b) (x : mG h m G) : mG h' m G :=
  ⟨x.1, h0.trans x.2.1, fun j p hp => rG_J s hA (x.2.2 j p hp)⟩
theorem mQ_J {A : Nat → Prop} {h h' : zH} {m : Nat} {Q : List (Int32 × Int32)} (s : zJ A h h') (h0 : zI h' m 24 = zI h m 24) (h1 : ¬ A (m + 20)) (h2 : ¬ A (m + 21)) (x : mQ h m Q) : mQ h' m Q :=
  ⟨x.1, h0.trans x.2.1, fun j q hq => ⟨(s.2.2.2.2 _ h1 j).trans (x.2.2 j q hq).1, (s.2.2.2.2 _ h2 j).trans (x.2.2 j q hq).2⟩⟩
theorem mF_J {A : Nat → Prop} {h h' : zH} {m : Nat} {F : List (Nat → Int32)} (s : zJ A h h') (h0 : zI h' m 27 = zI h m 27) (h1 : ¬ A (m + 22)) (x : mF h m F) : mF h' m F :=
  ⟨x.1, h0.trans x.2.1, fun j f hf i hi => (s.2.2.2.2 _ h1 _).trans (x.2.2 j f hf i hi)⟩
def yA (m : Nat) : Nat → Prop := fun q => m ≤ q ∧ q < m + 24
/-- the flights move -/
theorem MH.F {h h' : zH} {m w : Nat} {S : sS} {G : List (Nat × (Nat → Int32))} {F : List (Nat → Int32)} (X : MH h m w S G) (s : zJ (fun q => q = m ∨ q = m + 22 ∨ q = m + 23) h h') (h0 : ∀ k, k ≠ 27 → zI h' m k = zI h m k) (x : mF h' m F) : MH h' m w (stF S F) G := by
  obtain ⟨x1, x2, x3, x4, x5, x6, x7, x8, x9, x10, x11, x12, x13, x14⟩ := X
  exact ⟨gM_J s x1, (h0 0 (by decide)).trans x2, (h0 1 (by decide)).trans x3, fun k hk => (s.2.2.2.2 _ (by omega) k).trans (x4 k hk), fun k hk => (s.2.2.2.2 _ (by omega) k).trans (x5 k hk), mT_J s (h0 4 (by decide)) (by omega) (by omega) (by omega) x6, mC_J s (h0 8 (by decide)) (by omega) (by omega) x7, fun k hk => (s.2.2.2.2 _ (by omega) k).trans (x8 k hk), fun k hk => (s.2.2.2.2 _ (by omega) k).trans (x9 k hk),
    fun k hk => ⟨(s.2.2.2.2 _ (by omega) k).trans (x10 k hk).1, (s.2.2.2.2 _ (by omega) k).trans (x10 k hk).2⟩, fun k hk => (s.2.2.2.2 _ (by omega) k).trans (x11 k hk), mG_J s (h0 16 (by decide)) (fun b h1 h2 => by omega) x12, mQ_J s (h0 24 (by decide)) (by omega) (by omega) x13, x⟩
/-- the dialogues move -/
theorem MH.G {h h' : zH} {m w : Nat} {S S' : sS} {G G' : List (Nat × (Nat → Int32))} (X : MH h m w S G) (s : zJ (fun q => q = m ∨ q = m + 12 ∨ (m + 13 ≤ q ∧ q ≤ m + 19)) h h') (h0 : ∀ k, k ≠ 16 → zI h' m k = zI h m k) (hl : ∀ v, v ≤ w → zI h' (m + 12) v = sL S' v) (x : mG h' m G')
    (e1 : sClk S' = sClk S) (e2 : sDg S' = sDg S) (e3 : sLo S' = sLo S) (e4 : sT S' = sT S) (e5 : sC S' = sC S) (e6 : sHe S' = sHe S) (e7 : sSt S' = sSt S) (e8 : sO S' = sO S) (e9 : sU S' = sU S) (e10 : sQ S' = sQ S) (e11 : sF S' = sF S) : MH h' m w S' G' := by
  obtain ⟨x1, x2, x3, x4, x5, x6, x7, x8, x9, x10, x11, x12, x13, x14⟩ := X
  unfold MH
  rw [e1, e2, e3, e4, e5, e6, e7, e8, e9, e10, e11]
  exact ⟨gM_J s x1, (h0 0 (by decide)).trans x2, (h0 1 (by decide)).trans x3, fun k hk => (s.2.2.2.2 _ (by omega) k).trans (x4 k hk), fun k hk => (s.2.2.2.2 _ (by omega) k).trans (x5 k hk), mT_J s (h0 4 (by decide)) (by omega) (by omega) (by omega) x6, mC_J s (h0 8 (by decide)) (by omega) (by omega) x7, fun k hk => (s.2.2.2.2 _ (by omega) k).trans (x8 k hk), fun k hk => (s.2.2.2.2 _ (by omega) k).trans (x9 k hk),
    fun k hk => ⟨(s.2.2.2.2 _ (by omega) k).trans (x10 k hk).1, (s.2.2.2.2 _ (by omega) k).trans (x10 k hk).2⟩, hl, x, mQ_J s (h0 24 (by decide)) (by omega) (by omega) x13, mF_J s (h0 27 (by decide)) (by omega) x14⟩
theorem MH.C {h h' : zH} {m w : Nat} {S : sS} {G : List (Nat × (Nat → Int32))} {C : List Int32} (X : MH h m w S G) (s : zJ (fun q => q = m ∨ q = m + 6 ∨ q = m + 7) h h') (h0 : ∀ k, k ≠ 8 → zI h' m k = zI h m k) (x : mC h' m w C) : MH h' m w (stC S C) G := by
  obtain ⟨x1, x2, x3, x4, x5, x6, x7, x8, x9, x10, x11, x12, x13, x14⟩ := X
  exact ⟨gM_J s x1, (h0 0 (by decide)).trans x2, (h0 1 (by decide)).trans x3, fun k hk => (s.2.2.2.2 _ (by omega) k).trans (x4 k hk), fun k hk => (s.2.2.2.2 _ (by omega) k).trans (x5 k hk), mT_J s (h0 4 (by decide)) (by omega) (by omega) (by omega) x6, x, fun k hk => (s.2.2.2.2 _ (by omega) k).trans (x8 k hk), fun k hk => (s.2.2.2.2 _ (by omega) k).trans (x9 k hk),
    fun k hk => ⟨(s.2.2.2.2 _ (by omega) k).trans (x10 k hk).1, (s.2.2.2.2 _ (by omega) k).trans (x10 k hk).2⟩, fun k hk => (s.2.2.2.2 _ (by omega) k).trans (x11 k hk), mG_J s (h0 16 (by decide)) (fun b h1 h2 => by omega) x12, mQ_J s (h0 24 (by decide)) (by omega) (by omega) x13, mF_J s (h0 27 (by decide)) (by omega) x14⟩
theorem MH.T {h h' : zH} {m w : Nat} {S : sS} {G : List (Nat × (Nat → Int32))} {T : List (Nat → Int32)} (X : MH h m w S G) (s : zJ (fun q => q = m ∨ (m + 3 ≤ q ∧ q ≤ m + 5)) h h') (h0 : ∀ k, k ≠ 4 → zI h' m k = zI h m k) (x : mT h' m T) : MH h' m w (stT S T) G := by
  obtain ⟨x1, x2, x3, x4, x5, x6, x7, x8, x9, x10, x11, x12, x13, x14⟩ := X
  exact ⟨gM_J s x1, (h0 0 (by decide)).trans x2, (h0 1 (by decide)).trans x3, fun k hk => (s.2.2.2.2 _ (by omega) k).trans (x4 k hk), fun k hk => (s.2.2.2.2 _ (by omega) k).trans (x5 k hk), x, mC_J s (h0 8 (by decide)) (by omega) (by omega) x7, fun k hk => (s.2.2.2.2 _ (by omega) k).trans (x8 k hk), fun k hk => (s.2.2.2.2 _ (by omega) k).trans (x9 k hk),
    fun k hk => ⟨(s.2.2.2.2 _ (by omega) k).trans (x10 k hk).1, (s.2.2.2.2 _ (by omega) k).trans (x10 k hk).2⟩, fun k hk => (s.2.2.2.2 _ (by omega) k).trans (x11 k hk), mG_J s (h0 16 (by decide)) (fun b h1 h2 => by omega) x12, mQ_J s (h0 24 (by decide)) (by omega) (by omega) x13, mF_J s (h0 27 (by decide)) (by omega) x14⟩
theorem MH.Q {h h' : zH} {m w : Nat} {S : sS} {G : List (Nat × (Nat → Int32))} {Q : List (Int32 × Int32)} (X : MH h m w S G) (s : zJ (fun q => q = m ∨ q = m + 20 ∨ q = m + 21) h h') (h0 : ∀ k, k ≠ 24 → zI h' m k = zI h m k) (x : mQ h' m Q) : MH h' m w (stQ S Q) G := by
  obtain ⟨x1, x2, x3, x4, x5, x6, x7, x8, x9, x10, x11, x12, x13, x14⟩ := X
  exact ⟨gM_J s x1, (h0 0 (by decide)).trans x2, (h0 1 (by decide)).trans x3, fun k hk => (s.2.2.2.2 _ (by omega) k).trans (x4 k hk), fun k hk => (s.2.2.2.2 _ (by omega) k).trans (x5 k hk), mT_J s (h0 4 (by decide)) (by omega) (by omega) (by omega) x6, mC_J s (h0 8 (by decide)) (by omega) (by omega) x7, fun k hk => (s.2.2.2.2 _ (by omega) k).trans (x8 k hk), fun k hk => (s.2.2.2.2 _ (by omega) k).trans (x9 k hk),
    fun k hk => ⟨(s.2.2.2.2 _ (by omega) k).trans (x10 k hk).1, (s.2.2.2.2 _ (by omega) k).trans (x10 k hk).2⟩, fun k hk => (s.2.2.2.2 _ (by omega) k).trans (x11 k hk), mG_J s (h0 16 (by decide)) (fun b h1 h2 => by omega) x12, x, mF_J s (h0 27 (by decide)) (by omega) x14⟩
/-- digits, location, held, standing, owners, untils move -/
theorem MH.A {h h' : zH} {m w : Nat} {S S' : sS} {G : List (Nat × (Nat → Int32))} (X : MH h m w S G) (s : zJ (fun q => q = m + 1 ∨ q = m + 2 ∨ (m + 8 ≤ q ∧ q ≤ m + 11)) h h') (y1 : ∀ k, k < 4 → zI h' (m + 1) k = sDg S' k) (y2 : ∀ k, k < 4 → zI h' (m + 2) k = sLo S' k) (y3 : ∀ k, k < 4 * (w + 1) → zI h' (m + 8) k = sHe S' k) (y4 : ∀ k, k < 4 * (w + 1) → zI h' (m + 9) k = sSt S' k) (y5 : ∀ k, k < 10 → zI h' (m + 10) k = sO S' k ∧ zI h' (m + 11) k = sU S' k)
    (e1 : sClk S' = sClk S) (e4 : sT S' = sT S) (e5 : sC S' = sC S) (e10 : sQ S' = sQ S) (e11 : sF S' = sF S) (e12 : sL S' = sL S) : MH h' m w S' G := by
  obtain ⟨x1, x2, x3, x4, x5, x6, x7, x8, x9, x10, x11, x12, x13, x14⟩ := X
  have h0 : ∀ k, zI h' m k = zI h m k := fun k => s.2.2.2.2 m (by omega) k
  unfold MH
  rw [e1, e4, e5, e10, e11, e12]
  exact ⟨gM_J s x1, (h0 0).trans x2, (h0 1).trans x3, y1, y2, mT_J s (h0 4) (by omega) (by omega) (by omega) x6, mC_J s (h0 8) (by omega) (by omega) x7, y3, y4, y5, fun k hk => (s.2.2.2.2 _ (by omega) k).trans (x11 k hk), mG_J s (h0 16) (fun b h1 h2 => by omega) x12, mQ_J s (h0 24) (by omega) (by omega) x13, mF_J s (h0 27) (by omega) x14⟩
theorem MH.Clk {h : zH} {m w : Nat} {S : sS} {G : List (Nat × (Nat → Int32))} {x : Int32} (X : MH h m w S G) : MH (zwI h m 1 x) m w (stClk S x) G := by
  obtain ⟨x1, x2, x3, x4, x5, x6, x7, x8, x9, x10, x11, x12, x13, x14⟩ := X
  have s : zJ (fun q => q = m) h (zwI h m 1 x) := zJ.wI rfl
  have h0 : ∀ k, k ≠ 1 → zI (zwI h m 1 x) m k = zI h m k := fun k hk => zI_ok hk
  exact ⟨gM_J s x1, (h0 0 (by decide)).trans x2, zI_at, fun k hk => (s.2.2.2.2 _ (by omega) k).trans (x4 k hk), fun k hk => (s.2.2.2.2 _ (by omega) k).trans (x5 k hk), mT_J s (h0 4 (by decide)) (by omega) (by omega) (by omega) x6, mC_J s (h0 8 (by decide)) (by omega) (by omega) x7, fun k hk => (s.2.2.2.2 _ (by omega) k).trans (x8 k hk), fun k hk => (s.2.2.2.2 _ (by omega) k).trans (x9 k hk),
    fun k hk => ⟨(s.2.2.2.2 _ (by omega) k).trans (x10 k hk).1, (s.2.2.2.2 _ (by omega) k).trans (x10 k hk).2⟩, fun k hk => (s.2.2.2.2 _ (by omega) k).trans (x11 k hk), mG_J s (h0 16 (by decide)) (fun b h1 h2 => by omega) x12, mQ_J s (h0 24 (by decide)) (by omega) (by omega) x13, mF_J s (h0 27 (by decide)) (by omega) x14⟩
end
section
/-! ===== the reference's small methods ===== -/
theorem MH.clk {h : zH} {m w : Nat} {S : sS} {G : List (Nat × (Nat → Int32))} (X : MH h m w S G) : zI h m 1 = sClk S := X.2.2.1
theorem MH.dg {h : zH} {m w : Nat} {S : sS} {G : List (Nat × (Nat → Int32))} (X : MH h m w S G) {s : Nat} (hs : s < 4) : zI h (m + 1) s = sDg S s := X.2.2.2.1 s hs
theorem MH.lo {h : zH} {m w : Nat} {S : sS} {G : List (Nat × (Nat → Int32))} (X : MH h m w S G) {s : Nat} (hs : s < 4) : zI h (m + 2) s = sLo S s := X.2.2.2.2.1 s hs
theorem MH.t {h : zH} {m w : Nat} {S : sS} {G : List (Nat × (Nat → Int32))} (X : MH h m w S G) : mT h m (sT S) := X.2.2.2.2.2.1
theorem MH.c {h : zH} {m w : Nat} {S : sS} {G : List (Nat × (Nat → Int32))} (X : MH h m w S G) : mC h m w (sC S) := X.2.2.2.2.2.2.1
theorem MH.he {h : zH} {m w : Nat} {S : sS} {G : List (Nat × (Nat → Int32))} (X : MH h m w S G) {k : Nat} (hk : k < 4 * (w + 1)) : zI h (m + 8) k = sHe S k := X.2.2.2.2.2.2.2.1 k hk
theorem MH.st {h : zH} {m w : Nat} {S : sS} {G : List (Nat × (Nat → Int32))} (X : MH h m w S G) {k : Nat} (hk : k < 4 * (w + 1)) : zI h (m + 9) k = sSt S k := X.2.2.2.2.2.2.2.2.1 k hk
theorem MH.ou {h : zH} {m w : Nat} {S : sS} {G : List (Nat × (Nat → Int32))} (X : MH h m w S G) {k : Nat} (hk : k < 10) : zI h (m + 10) k = sO S k ∧ zI h (m + 11) k = sU S k := X.2.2.2.2.2.2.2.2.2.1 k hk
theorem MH.l {h : zH} {m w : Nat} {S : sS} {G : List (Nat × (Nat → Int32))} (X : MH h m w S G) {v : Nat} (hv : v ≤ w) : zI h (m + 12) v = sL S v := X.2.2.2.2.2.2.2.2.2.2.1 v hv
theorem MH.gg {h : zH} {m w : Nat} {S : sS} {G : List (Nat × (Nat → Int32))} (X : MH h m w S G) : mG h m G := X.2.2.2.2.2.2.2.2.2.2.2.1
theorem MH.q {h : zH} {m w : Nat} {S : sS} {G : List (Nat × (Nat → Int32))} (X : MH h m w S G) : mQ h m (sQ S) := X.2.2.2.2.2.2.2.2.2.2.2.2.1
theorem MH.f {h : zH} {m w : Nat} {S : sS} {G : List (Nat × (Nat → Int32))} (X : MH h m w S G) : mF h m (sF S) := X.2.2.2.2.2.2.2.2.2.2.2.2.2
theorem c75 {d : Nat} {h : zH} {n : Nat} {x : Int32} (hn : n + 1 < 2 ^ 31) : zD (d + 1) 75 [.inl x, .inl 0, .inl (nI n)] h (fun v h' => v = some (.inl (if (ix (n + 1) x).isSome then 0 else 1)) ∧ h = h') := by
  refine zD_of rfl (r75_0 ⟨fun q => ⟨Or.inr rfl, by rw [ix_neg q]; rfl, rfl⟩, fun q => ?_⟩)
  obtain ⟨k, hk, rfl⟩ := nI_of q
  rw [nI_leI hk (by omega)]
  refine ⟨fun q2 => ⟨Or.inl rfl, by rw [ix_nI (by omega) (by omega)]; rfl, rfl⟩, fun q2 => ⟨Or.inr rfl, by rw [ix_ge (by omega) hk]; rfl, rfl⟩⟩
theorem c76 {d : Nat} {h : zH} {m w : Nat} {S : sS} {G : List (Nat × (Nat → Int32))} {x : Int32} (hw : w ≤ 4) (X : MH h m w S G) : zD (d + 2) 76 [.inr m, .inl x] h (fun v h' => v = some (.inl (if (iv w x).isSome then 1 else 0)) ∧ h = h') := by
  have key : zD (d + 1) 75 [.inl x, .inl 1, .inl (nI w)] h (fun v h' => v = some (.inl (if (iv w x).isSome then 0 else 1)) ∧ h = h') := by
    refine zD_of rfl (r75_0 ⟨fun q => ⟨Or.inr rfl, ?_, rfl⟩, fun q => ?_⟩)
    · by_cases hm : x < 0
      · rw [iv_neg hm]; rfl
      · obtain ⟨n, hn, rfl⟩ := nI_of hm
        have q : n < 1 := (nI_ltI hn (by decide)).mp (show nI n < nI 1 from q)
        rw [show n = 0 by omega, iv_0 hw]; rfl
    · have hm : ¬ x < 0 := fun e => q (by rw [Int32.lt_iff_toInt_lt] at e ⊢; have e1 : (1 : Int32).toInt = 1 := rfl; have e0 : (0 : Int32).toInt = 0 := rfl; omega)
      obtain ⟨n, hn, rfl⟩ := nI_of hm
      have q : ¬ n < 1 := fun z => q (show nI n < nI 1 from (nI_ltI hn (by decide)).mpr z)
      rw [nI_leI hn (by omega)]
      exact ⟨fun q2 => ⟨Or.inl rfl, by rw [iv_nI hw (by omega) q2]; rfl, rfl⟩, fun q2 => ⟨Or.inr rfl, by rw [iv_ge (by omega) hn]; rfl, rfl⟩⟩
  refine zD_of rfl (r76_0 ?_)
  rw [X.2.1]
  refine ⟨X.1.1, _, key, ?_⟩
  rintro r _ ⟨rfl, rfl⟩
  refine r76_9 ⟨fun q => ⟨Or.inl rfl, ?_, rfl⟩, fun q => ⟨Or.inr rfl, ?_, rfl⟩⟩
  · cases ho : iv w x with
    | none => rfl
    | some a => rw [ho] at q; exact absurd rfl q
  · cases ho : iv w x with
    | none => rw [ho] at q; exact absurd (show (1 : Int32) = 0 from q) (by decide)
    | some a => rfl
theorem c77 {d : Nat} {h : zH} {c : Nat} (hc : c ≤ 5) : zD (d + 1) 77 [.inl (nI c)] h (fun v h' => v = some (.inl (nI (10 ^ c))) ∧ h = h') := by
  refine zD_of rfl (r77_0 ?_)
  suffices H : ∀ n j, c - j = n → j ≤ c → zWp zm77 (zD d) (fun v h' => v = some (.inl (nI (10 ^ c))) ∧ h = h') 0 0 4 [some (.inl (nI c)), some (.inl (nI (10 ^ j))), some (.inl (nI j))] [] h from H _ 0 rfl (Nat.zero_le _)
  intro n
  induction n with
  | zero =>
    intro j hm hj
    have : j = c := by omega
    subst this
    exact r77_4 ⟨fun _ => ⟨rfl, rfl⟩, fun q => absurd (nI_le (Nat.le_refl _) (by omega)) q⟩
  | succ n ih =>
    intro j hm hj
    refine r77_4 ⟨fun q => absurd q (nI_ge (by omega) (by omega)), fun _ => ?_⟩
    rw [nI_1, show (10 : Int32) = nI 10 from rfl, pk_mul, ← Nat.pow_succ]
    exact ih (j + 1) (by omega) (by omega)
theorem c81 {d : Nat} {h : zH} {m w v : Nat} {S : sS} {G : List (Nat × (Nat → Int32))} (hw : w ≤ 4) (hv : v ≤ 4) (hG : ∀ p ∈ G, p.1 ≤ w) (X : MH h m w S G) : zD (d + 1) 81 [.inr m, .inl (nI v)] h (fun r h' => r = some (.inl (nI (flt v G).length)) ∧ h = h') := by
  obtain ⟨y1, y2, y3⟩ := X.gg
  obtain ⟨k0, ⟨r1, r2, r3, r4, r5, r6, r7, r8, r9, r10, r11, r12, r13, r14, r15, r16, r17, r18, r19, r20, r21, r22, r23⟩, ⟨k1, k2, k3, k4, k5, k6, k7, k8, k9, k10, k11, k12, k13, k14, k15, k16, k17, k18, k19, k20, k21, k22, k23⟩, ⟨l1, l2, l3, l4, l5, l6, l7, l8, l9, l10, l11, l12, l13, l14, l15, l16, l17, l18, l19, l20, l21, l22, l23⟩⟩ := X.1
  refine zD_of rfl (r81_0 ?_)
  suffices H : ∀ n j, G.length - j = n → j ≤ G.length → zWp zm81 (zD d) (fun r h' => r = some (.inl (nI (flt v G).length)) ∧ h = h') 0 0 4 [some (.inr m), some (.inl (nI v)), some (.inl (nI (flt v (G.take j)).length)), some (.inl (nI j))] [] h from H _ 0 rfl (Nat.zero_le _)
  intro n
  induction n with
  | zero =>
    intro j hm hj
    have : j = G.length := by omega
    subst this
    refine r81_4 ?_
    simp only [k0, r1, r2, r3, r4, r5, r6, r7, r8, r9, r10, r11, r12, r13, r14, r15, r16, r17, r18, r19, r20, r21, r22, r23, k1, k2, k3, k4, k5, k6, k7, k8, k9, k10, k11, k12, k13, k14, k15, k16, k17, k18, k19, k20, k21, k22, k23, l1, l2, l3, l4, l5, l6, l7, l8, l9, l10, l11, l12, l13, l14, l15, l16, l17, l18, l19, l20, l21, l22, l23, true_and, true_or, or_true, y2, List.take_length]
    exact ⟨fun _ => trivial, fun q => absurd (nI_le (Nat.le_refl _) (by omega)) q⟩
  | succ n ih =>
    intro j hm hj
    have hlt : j < G.length := by omega
    obtain ⟨p, hp⟩ := at_lt hlt
    have hpw := hG p (List.mem_of_getElem? hp)
    have et : flt v (G.take (j + 1)) = if p.1 = v then flt v (G.take j) ++ [p.2] else flt v (G.take j) := by
      rw [List.take_add_one, hp]
      exact flt_app v (G.take j) p.1 p.2
    refine r81_4 ?_
    simp only [k0, r1, r2, r3, r4, r5, r6, r7, r8, r9, r10, r11, r12, r13, r14, r15, r16, r17, r18, r19, r20, r21, r22, r23, k1, k2, k3, k4, k5, k6, k7, k8, k9, k10, k11, k12, k13, k14, k15, k16, k17, k18, k19, k20, k21, k22, k23, l1, l2, l3, l4, l5, l6, l7, l8, l9, l10, l11, l12, l13, l14, l15, l16, l17, l18, l19, l20, l21, l22, l23, true_and, true_or, or_true, y2, nI_clamp (show j < 2 ^ 31 by omega), (y3 j p hp).1, nI_1, nI_eq (show p.1 < 2 ^ 31 by omega) (show v < 2 ^ 31 by omega)]
    refine ⟨fun q => absurd q (nI_ge hlt (by omega)), fun _ => ⟨vp_in_nI (by omega) (by omega), fun q => ?_, fun q => ?_⟩⟩
    · have := ih (j + 1) (by omega) (by omega)
      rw [et, if_neg q] at this; exact this
    · have := ih (j + 1) (by omega) (by omega)
      rw [et, if_pos q, List.length_append] at this; exact this
def pF (v : Nat) (n : Int32) : (Nat × (Nat → Int32)) → Bool := fun p => decide (p.1 = v) && pNum n p.2
theorem c82 {d : Nat} {h : zH} {m w v : Nat} {S : sS} {G : List (Nat × (Nat → Int32))} {n : Int32} (hw : w ≤ 4) (hv : v ≤ 4) (hG : ∀ p ∈ G, p.1 ≤ w) (X : MH h m w S G) : zD (d + 1) 82 [.inr m, .inl (nI v), .inl n] h (fun r h' => r = some (.inl (sIx (pF v n) G 0)) ∧ h = h') := by
  obtain ⟨y1, y2, y3⟩ := X.gg
  obtain ⟨k0, ⟨r1, r2, r3, r4, r5, r6, r7, r8, r9, r10, r11, r12, r13, r14, r15, r16, r17, r18, r19, r20, r21, r22, r23⟩, ⟨k1, k2, k3, k4, k5, k6, k7, k8, k9, k10, k11, k12, k13, k14, k15, k16, k17, k18, k19, k20, k21, k22, k23⟩, ⟨l1, l2, l3, l4, l5, l6, l7, l8, l9, l10, l11, l12, l13, l14, l15, l16, l17, l18, l19, l20, l21, l22, l23⟩⟩ := X.1
  refine zD_of rfl (r82_0 ?_)
  suffices H : ∀ k j, G.length - j = k → j ≤ G.length → sIx (pF v n) G j = sIx (pF v n) G 0 → zWp zm82 (zD d) (fun r h' => r = some (.inl (sIx (pF v n) G 0)) ∧ h = h') 0 0 2 [some (.inr m), some (.inl (nI v)), some (.inl n), some (.inl (nI j))] [] h from H _ 0 rfl (Nat.zero_le _) rfl
  intro k
  induction k with
  | zero =>
    intro j hm hj hs
    refine r82_2 ?_
    simp only [k0, r1, r2, r3, r4, r5, r6, r7, r8, r9, r10, r11, r12, r13, r14, r15, r16, r17, r18, r19, r20, r21, r22, r23, k1, k2, k3, k4, k5, k6, k7, k8, k9, k10, k11, k12, k13, k14, k15, k16, k17, k18, k19, k20, k21, k22, k23, l1, l2, l3, l4, l5, l6, l7, l8, l9, l10, l11, l12, l13, l14, l15, l16, l17, l18, l19, l20, l21, l22, l23, true_and, true_or, or_true, y2]
    exact ⟨fun _ => ⟨by rw [← hs, sIx_end (by omega)], trivial⟩, fun q => absurd (nI_le (by omega) (by omega)) q⟩
  | succ k ih =>
    intro j hm hj hs
    have hlt : j < G.length := by omega
    obtain ⟨p, hp⟩ := at_lt hlt
    have hpw := hG p (List.mem_of_getElem? hp)
    obtain ⟨z1, z2, -⟩ := y3 j p hp
    refine r82_2 ?_
    simp only [k0, r1, r2, r3, r4, r5, r6, r7, r8, r9, r10, r11, r12, r13, r14, r15, r16, r17, r18, r19, r20, r21, r22, r23, k1, k2, k3, k4, k5, k6, k7, k8, k9, k10, k11, k12, k13, k14, k15, k16, k17, k18, k19, k20, k21, k22, k23, l1, l2, l3, l4, l5, l6, l7, l8, l9, l10, l11, l12, l13, l14, l15, l16, l17, l18, l19, l20, l21, l22, l23, true_and, true_or, or_true, y2, nI_clamp (show j < 2 ^ 31 by omega), z1, z2, nI_1, nI_eq (show p.1 < 2 ^ 31 by omega) (show v < 2 ^ 31 by omega)]
    refine ⟨fun q => absurd q (nI_ge hlt (by omega)), fun _ => ⟨vp_in_nI (by omega) (by omega), fun q => ?_, fun q1 => ⟨vp_in_nI (by omega) (by omega), fun q => ?_, fun q2 => ?_⟩⟩⟩
    · exact ih (j + 1) (by omega) (by omega) (by rw [← hs, sIx_miss hp (by simp [pF, q])])
    · exact ih (j + 1) (by omega) (by omega) (by rw [← hs, sIx_miss hp (by simp [pF, pNum, q])])
    · exact ⟨by rw [← hs, sIx_hit hp (by simp [pF, pNum, q1, q2])], trivial⟩
def pAb (v : Nat) (kd ot su : Int32) : (Nat × (Nat → Int32)) → Bool := fun p => decide (p.1 = v) && pFind kd ot su p.2
theorem i32_add1 {a b : Int32} : a = b ↔ a + 1 = b + 1 := ⟨fun e => by rw [e], fun e => by
  have h1 : a + 1 - 1 = b + 1 - 1 := by rw [e]
  rwa [Int32.add_sub_cancel, Int32.add_sub_cancel] at h1⟩
theorem c83 {d : Nat} {h : zH} {m w v : Nat} {S : sS} {G : List (Nat × (Nat → Int32))} {kd ot su : Int32} (hw : w ≤ 4) (hv : v ≤ 4) (hG : ∀ p ∈ G, p.1 ≤ w) (X : MH h m w S G) : zD (d + 1) 83 [.inr m, .inl (nI v), .inl kd, .inl su, .inl ot] h (fun r h' => r = some (.inl (sIx (pAb v (kd + 1) ot su) G 0)) ∧ h = h') := by
  obtain ⟨y1, y2, y3⟩ := X.gg
  obtain ⟨k0, ⟨r1, r2, r3, r4, r5, r6, r7, r8, r9, r10, r11, r12, r13, r14, r15, r16, r17, r18, r19, r20, r21, r22, r23⟩, ⟨k1, k2, k3, k4, k5, k6, k7, k8, k9, k10, k11, k12, k13, k14, k15, k16, k17, k18, k19, k20, k21, k22, k23⟩, ⟨l1, l2, l3, l4, l5, l6, l7, l8, l9, l10, l11, l12, l13, l14, l15, l16, l17, l18, l19, l20, l21, l22, l23⟩⟩ := X.1
  refine zD_of rfl (r83_0 ?_)
  suffices H : ∀ k j, G.length - j = k → j ≤ G.length → sIx (pAb v (kd + 1) ot su) G j = sIx (pAb v (kd + 1) ot su) G 0 → zWp zm83 (zD d) (fun r h' => r = some (.inl (sIx (pAb v (kd + 1) ot su) G 0)) ∧ h = h') 0 0 3 [some (.inr m), some (.inl (nI v)), some (.inl kd), some (.inl su), some (.inl ot), some (.inl (nI j))] [] h from H _ 0 rfl (Nat.zero_le _) rfl
  intro k
  induction k with
  | zero =>
    intro j hm hj hs
    refine r83_3 ?_
    simp only [k0, r1, r2, r3, r4, r5, r6, r7, r8, r9, r10, r11, r12, r13, r14, r15, r16, r17, r18, r19, r20, r21, r22, r23, k1, k2, k3, k4, k5, k6, k7, k8, k9, k10, k11, k12, k13, k14, k15, k16, k17, k18, k19, k20, k21, k22, k23, l1, l2, l3, l4, l5, l6, l7, l8, l9, l10, l11, l12, l13, l14, l15, l16, l17, l18, l19, l20, l21, l22, l23, true_and, true_or, or_true, y2]
    exact ⟨fun _ => ⟨by rw [← hs, sIx_end (by omega)], trivial⟩, fun q => absurd (nI_le (by omega) (by omega)) q⟩
  | succ k ih =>
    intro j hm hj hs
    have hlt : j < G.length := by omega
    obtain ⟨p, hp⟩ := at_lt hlt
    have hpw := hG p (List.mem_of_getElem? hp)
    obtain ⟨z1, z2, z3, z4, z5, -⟩ := y3 j p hp
    have ek : (zI h (m + 15) j = kd) = (p.2 1 = kd + 1) := by rw [← z3]; exact propext i32_add1
    refine r83_3 ?_
    simp only [k0, r1, r2, r3, r4, r5, r6, r7, r8, r9, r10, r11, r12, r13, r14, r15, r16, r17, r18, r19, r20, r21, r22, r23, k1, k2, k3, k4, k5, k6, k7, k8, k9, k10, k11, k12, k13, k14, k15, k16, k17, k18, k19, k20, k21, k22, k23, l1, l2, l3, l4, l5, l6, l7, l8, l9, l10, l11, l12, l13, l14, l15, l16, l17, l18, l19, l20, l21, l22, l23, true_and, true_or, or_true, y2, nI_clamp (show j < 2 ^ 31 by omega), z1, z4, z5, ek, nI_1, nI_eq (show p.1 < 2 ^ 31 by omega) (show v < 2 ^ 31 by omega)]
    refine ⟨fun q => absurd q (nI_ge hlt (by omega)), fun _ => ⟨vp_in_nI (by omega) (by omega), fun q => ?_, fun q1 => ⟨vp_in_nI (by omega) (by omega), fun q => ?_, fun q2 => ⟨vp_in_nI (by omega) (by omega), fun q => ?_, fun q3 => ⟨vp_in_nI (by omega) (by omega), fun q => ?_, fun q4 => ?_⟩⟩⟩⟩⟩
    · exact ih (j + 1) (by omega) (by omega) (by rw [← hs, sIx_miss hp (by simp [pAb, q])])
    · exact ih (j + 1) (by omega) (by omega) (by rw [← hs, sIx_miss hp (by simp [pAb, pFind, q])])
    · exact ih (j + 1) (by omega) (by omega) (by rw [← hs, sIx_miss hp (by simp [pAb, pFind, q])])
    · exact ih (j + 1) (by omega) (by omega) (by rw [← hs, sIx_miss hp (by simp [pAb, pFind, q])])
    · exact ⟨by rw [← hs, sIx_hit hp (by simp [pAb, pFind, q1, q2, q3, q4])], trivial⟩
theorem c91 {d : Nat} {h : zH} {m w : Nat} {S : sS} {G : List (Nat × (Nat → Int32))} {n : Int32} (X : MH h m w S G) : zD (d + 1) 91 [.inr m, .inl n] h (fun r h' => r = some (.inl (sIx (fun q => decide (q.1 = n)) (sQ S) 0)) ∧ h = h') := by
  obtain ⟨y1, y2, y3⟩ := X.q
  obtain ⟨k0, ⟨r1, r2, r3, r4, r5, r6, r7, r8, r9, r10, r11, r12, r13, r14, r15, r16, r17, r18, r19, r20, r21, r22, r23⟩, ⟨k1, k2, k3, k4, k5, k6, k7, k8, k9, k10, k11, k12, k13, k14, k15, k16, k17, k18, k19, k20, k21, k22, k23⟩, ⟨l1, l2, l3, l4, l5, l6, l7, l8, l9, l10, l11, l12, l13, l14, l15, l16, l17, l18, l19, l20, l21, l22, l23⟩⟩ := X.1
  refine zD_of rfl (r91_0 ?_)
  suffices H : ∀ k j, (sQ S).length - j = k → j ≤ (sQ S).length → sIx (fun q => decide (q.1 = n)) (sQ S) j = sIx (fun q => decide (q.1 = n)) (sQ S) 0 → zWp zm91 (zD d) (fun r h' => r = some (.inl (sIx (fun q => decide (q.1 = n)) (sQ S) 0)) ∧ h = h') 0 0 2 [some (.inr m), some (.inl n), some (.inl (nI j))] [] h from H _ 0 rfl (Nat.zero_le _) rfl
  intro k
  induction k with
  | zero =>
    intro j hm hj hs
    refine r91_2 ?_
    simp only [k0, r1, r2, r3, r4, r5, r6, r7, r8, r9, r10, r11, r12, r13, r14, r15, r16, r17, r18, r19, r20, r21, r22, r23, k1, k2, k3, k4, k5, k6, k7, k8, k9, k10, k11, k12, k13, k14, k15, k16, k17, k18, k19, k20, k21, k22, k23, l1, l2, l3, l4, l5, l6, l7, l8, l9, l10, l11, l12, l13, l14, l15, l16, l17, l18, l19, l20, l21, l22, l23, true_and, true_or, or_true, y2]
    exact ⟨fun _ => ⟨by rw [← hs, sIx_end (by omega)], trivial⟩, fun q => absurd (nI_le (by omega) (by omega)) q⟩
  | succ k ih =>
    intro j hm hj hs
    have hlt : j < (sQ S).length := by omega
    obtain ⟨p, hp⟩ := at_lt hlt
    refine r91_2 ?_
    simp only [k0, r1, r2, r3, r4, r5, r6, r7, r8, r9, r10, r11, r12, r13, r14, r15, r16, r17, r18, r19, r20, r21, r22, r23, k1, k2, k3, k4, k5, k6, k7, k8, k9, k10, k11, k12, k13, k14, k15, k16, k17, k18, k19, k20, k21, k22, k23, l1, l2, l3, l4, l5, l6, l7, l8, l9, l10, l11, l12, l13, l14, l15, l16, l17, l18, l19, l20, l21, l22, l23, true_and, true_or, or_true, y2, nI_clamp (show j < 2 ^ 31 by omega), (y3 j p hp).1, nI_1]
    refine ⟨fun q => absurd q (nI_ge hlt (by omega)), fun _ => ⟨vp_in_nI (by omega) (by omega), fun q => ?_, fun q => ?_⟩⟩
    · exact ih (j + 1) (by omega) (by omega) (by rw [← hs, sIx_miss hp (by simpa using q)])
    · exact ⟨by rw [← hs, sIx_hit hp (by simpa using q)], trivial⟩
theorem c93 {d : Nat} {h : zH} {m w a b : Nat} {S : sS} {G : List (Nat × (Nat → Int32))} (hw : w ≤ 4) (ha : a ≤ 4) (hb : b < 4) (X : MH h m w S G) : zD (d + 1) 93 [.inr m, .inl (nI a), .inl (nI b)] h (fun r h' => r = some (.inl (sIx (fun x => decide (x = nI (4 * a + b))) (sC S) 0)) ∧ h = h') := by
  obtain ⟨y1, y2, y3⟩ := X.c
  obtain ⟨k0, ⟨r1, r2, r3, r4, r5, r6, r7, r8, r9, r10, r11, r12, r13, r14, r15, r16, r17, r18, r19, r20, r21, r22, r23⟩, ⟨k1, k2, k3, k4, k5, k6, k7, k8, k9, k10, k11, k12, k13, k14, k15, k16, k17, k18, k19, k20, k21, k22, k23⟩, ⟨l1, l2, l3, l4, l5, l6, l7, l8, l9, l10, l11, l12, l13, l14, l15, l16, l17, l18, l19, l20, l21, l22, l23⟩⟩ := X.1
  refine zD_of rfl (r93_0 ?_)
  suffices H : ∀ k j, (sC S).length - j = k → j ≤ (sC S).length → sIx (fun x => decide (x = nI (4 * a + b))) (sC S) j = sIx (fun x => decide (x = nI (4 * a + b))) (sC S) 0 → zWp zm93 (zD d) (fun r h' => r = some (.inl (sIx (fun x => decide (x = nI (4 * a + b))) (sC S) 0)) ∧ h = h') 0 0 2 [some (.inr m), some (.inl (nI a)), some (.inl (nI b)), some (.inl (nI j))] [] h from H _ 0 rfl (Nat.zero_le _) rfl
  intro k
  induction k with
  | zero =>
    intro j hm hj hs
    refine r93_2 ?_
    simp only [k0, r1, r2, r3, r4, r5, r6, r7, r8, r9, r10, r11, r12, r13, r14, r15, r16, r17, r18, r19, r20, r21, r22, r23, k1, k2, k3, k4, k5, k6, k7, k8, k9, k10, k11, k12, k13, k14, k15, k16, k17, k18, k19, k20, k21, k22, k23, l1, l2, l3, l4, l5, l6, l7, l8, l9, l10, l11, l12, l13, l14, l15, l16, l17, l18, l19, l20, l21, l22, l23, true_and, true_or, or_true, y2]
    exact ⟨fun _ => ⟨by rw [← hs, sIx_end (by omega)], trivial⟩, fun q => absurd (nI_le (by omega) (by omega)) q⟩
  | succ k ih =>
    intro j hm hj hs
    have hlt : j < (sC S).length := by omega
    obtain ⟨c, hc⟩ := at_lt hlt
    obtain ⟨a', b', z1, z2, z3, z4, z5⟩ := y3 j c hc
    refine r93_2 ?_
    simp only [k0, r1, r2, r3, r4, r5, r6, r7, r8, r9, r10, r11, r12, r13, r14, r15, r16, r17, r18, r19, r20, r21, r22, r23, k1, k2, k3, k4, k5, k6, k7, k8, k9, k10, k11, k12, k13, k14, k15, k16, k17, k18, k19, k20, k21, k22, k23, l1, l2, l3, l4, l5, l6, l7, l8, l9, l10, l11, l12, l13, l14, l15, l16, l17, l18, l19, l20, l21, l22, l23, true_and, true_or, or_true, y2, nI_clamp (show j < 2 ^ 31 by omega), z3, z4, nI_1, nI_eq (show a' < 2 ^ 31 by omega) (show a < 2 ^ 31 by omega), nI_eq (show b' < 2 ^ 31 by omega) (show b < 2 ^ 31 by omega)]
    have ec : (c = nI (4 * a + b)) ↔ 4 * a' + b' = 4 * a + b := by rw [z5]; exact nI_eq (by omega) (by omega)
    refine ⟨fun q => absurd q (nI_ge hlt (by omega)), fun _ => ⟨vp_in_nI (by omega) (by omega), fun q => ?_, fun q1 => ⟨vp_in_nI (by omega) (by omega), fun q => ?_, fun q2 => ?_⟩⟩⟩
    · exact ih (j + 1) (by omega) (by omega) (by rw [← hs, sIx_miss hc (decide_eq_false (fun z => q (by have := ec.mp z; omega)))])
    · exact ih (j + 1) (by omega) (by omega) (by rw [← hs, sIx_miss hc (decide_eq_false (fun z => q (by have := ec.mp z; omega)))])
    · exact ⟨by rw [← hs, sIx_hit hc (decide_eq_true (ec.mpr (by omega)))], trivial⟩
theorem c80 {d : Nat} {h : zH} {m w sn : Nat} {S : sS} {G : List (Nat × (Nat → Int32))} (hs : sn < 4) (X : MH h m w S G) (ok : okT (sT S)) : zD (d + 2) 80 [.inr m, .inl (nI sn)] h (fun r h' => r = some (.inl (sReach (sDg S sn) (sT S) (-1) 0)) ∧ h = h') := by
  obtain ⟨c1, c2, c3⟩ := X.t
  obtain ⟨k0, ⟨r1, r2, r3, r4, r5, r6, r7, r8, r9, r10, r11, r12, r13, r14, r15, r16, r17, r18, r19, r20, r21, r22, r23⟩, ⟨k1, k2, k3, k4, k5, k6, k7, k8, k9, k10, k11, k12, k13, k14, k15, k16, k17, k18, k19, k20, k21, k22, k23⟩, ⟨l1, l2, l3, l4, l5, l6, l7, l8, l9, l10, l11, l12, l13, l14, l15, l16, l17, l18, l19, l20, l21, l22, l23⟩⟩ := X.1
  refine zD_of rfl (r80_0 ?_)
  suffices H : ∀ k j b y, (sT S).length - j = k → j ≤ (sT S).length → (y = 0 ∨ y = 1) → sReach (sDg S sn) ((sT S).drop j) b y = sReach (sDg S sn) (sT S) (-1) 0 → zWp zm80 (zD (d + 1)) (fun r h' => r = some (.inl (sReach (sDg S sn) (sT S) (-1) 0)) ∧ h = h') 0 0 7 [some (.inr m), some (.inl (nI sn)), some (.inl b), some (.inl y), some (.inl (nI j))] [] h from H _ 0 _ _ rfl (Nat.zero_le _) (Or.inl rfl) rfl
  intro k
  induction k with
  | zero =>
    intro j b y hm hj hy hs'
    rw [List.drop_eq_nil_of_le (by omega)] at hs'
    refine r80_7 ?_
    simp only [k0, r1, r2, r3, r4, r5, r6, r7, r8, r9, r10, r11, r12, r13, r14, r15, r16, r17, r18, r19, r20, r21, r22, r23, k1, k2, k3, k4, k5, k6, k7, k8, k9, k10, k11, k12, k13, k14, k15, k16, k17, k18, k19, k20, k21, k22, k23, l1, l2, l3, l4, l5, l6, l7, l8, l9, l10, l11, l12, l13, l14, l15, l16, l17, l18, l19, l20, l21, l22, l23, true_and, true_or, or_true, c2]
    exact ⟨fun _ => ⟨hy, by rw [← hs']; rfl, trivial⟩, fun q => absurd (nI_le (by omega) (by omega)) q⟩
  | succ k ih =>
    intro j b y hm hj hy hs'
    have hlt : j < (sT S).length := by omega
    obtain ⟨t, ht⟩ := at_lt hlt
    obtain ⟨t0, t1, t2⟩ := c3 j t ht
    obtain ⟨⟨n, hn, e1⟩, hy2⟩ := ok t (List.mem_of_getElem? ht)
    rw [drop_at ht] at hs'
    have e5 : (5 : Int32) - t 1 = nI (5 - n) := by rw [e1]; exact pk_sub (a := 5) hn
    have hten : sTen (5 - t 1) = nI (10 ^ (5 - n)) := by unfold sTen; rw [e5, nI_clamp (by omega)]
    have hlt10 : 10 ^ (5 - n) < 2 ^ 31 := Nat.lt_of_le_of_lt (Nat.pow_le_pow_right (by decide) (show 5 - n ≤ 5 by omega)) (by decide)
    have hne : ¬ nI (10 ^ (5 - n)) = 0 := nI_ne0 (Nat.pos_of_ne_zero (by exact Nat.ne_of_gt (Nat.pow_pos (by decide)))) hlt10
    refine r80_7 ?_
    simp only [k0, r1, r2, r3, r4, r5, r6, r7, r8, r9, r10, r11, r12, r13, r14, r15, r16, r17, r18, r19, r20, r21, r22, r23, k1, k2, k3, k4, k5, k6, k7, k8, k9, k10, k11, k12, k13, k14, k15, k16, k17, k18, k19, k20, k21, k22, k23, l1, l2, l3, l4, l5, l6, l7, l8, l9, l10, l11, l12, l13, l14, l15, l16, l17, l18, l19, l20, l21, l22, l23, true_and, true_or, or_true, c2, nI_clamp (show j < 2 ^ 31 by omega), nI_clamp (show sn < 2 ^ 31 by omega), t1, X.dg hs, e5]
    refine ⟨fun q => absurd q (nI_ge hlt (by omega)), fun _ => ⟨vp_in_nI (by omega) (by omega), vp_in_nI (by omega) (by omega), _, c77 (by omega), ?_⟩⟩
    rintro r _ ⟨rfl, rfl⟩
    refine r80_34 ?_
    simp only [k0, r1, r2, r3, r4, r5, r6, r7, r8, r9, r10, r11, r12, r13, r14, r15, r16, r17, r18, r19, r20, r21, r22, r23, k1, k2, k3, k4, k5, k6, k7, k8, k9, k10, k11, k12, k13, k14, k15, k16, k17, k18, k19, k20, k21, k22, k23, l1, l2, l3, l4, l5, l6, l7, l8, l9, l10, l11, l12, l13, l14, l15, l16, l17, l18, l19, l20, l21, l22, l23, true_and, true_or, or_true, nI_clamp (show j < 2 ^ 31 by omega), t0, t1, t2, nI_1]
    refine ⟨hne, vp_in_nI (by omega) (by omega), fun q => ?_, fun q2 => ⟨vp_in_nI (by omega) (by omega), fun q => ?_, fun q1 => ⟨vp_in_nI (by omega) (by omega), vp_in_nI (by omega) (by omega), ?_⟩⟩⟩
    · refine ih (j + 1) b y (by omega) (by omega) hy ?_
      rw [← hs']
      show _ = if _ then _ else _
      rw [hten, if_neg (fun z => q z.2)]
    · refine ih (j + 1) b y (by omega) (by omega) hy ?_
      rw [← hs']
      show _ = if _ then _ else _
      rw [if_neg (fun z => absurd z.1 (by rw [Int32.not_lt]; exact q))]
    · refine ih (j + 1) _ _ (by omega) (by omega) hy2 ?_
      rw [← hs']
      show _ = if _ then _ else _
      rw [hten, if_pos ⟨by rw [← Int32.not_le]; exact q1, q2⟩]
end
section
/-! ===== the reference's writers ===== -/
theorem yAJ {m : Nat} {A : Nat → Prop} {h h' : zH} (s : zJ A h h') (hA : ∀ q, A q → m ≤ q ∧ q < m + 24) : zJ (yA m) h h' := s.wd hA
theorem MH.push {h : zH} {m w n : Nat} {S : sS} {G : List (Nat × (Nat → Int32))} {a b c e k p q : Int32} (X : MH h m w S G) (hn : (sF S).length = n) (hlt : n < 24) :
    MH (zwI (zwI (zwI (zwI (zwI (zwI (zwI (zwI (zwI h (m + 22) (8 * n) a) (m + 22) (8 * n + 1) b) (m + 22) (8 * n + 2) (c / 10)) (m + 22) (8 * n + 3) (c - c / 10 * 10)) (m + 22) (8 * n + 4) e) (m + 22) (8 * n + 5) k) (m + 22) (8 * n + 6) p) (m + 22) (8 * n + 7) q) m 27 (nI n + 1)) m w (oSend S (sRow [a, b, c, e, k, p, q])) G ∧
    zJ (yA m) h (zwI (zwI (zwI (zwI (zwI (zwI (zwI (zwI (zwI h (m + 22) (8 * n) a) (m + 22) (8 * n + 1) b) (m + 22) (8 * n + 2) (c / 10)) (m + 22) (8 * n + 3) (c - c / 10 * 10)) (m + 22) (8 * n + 4) e) (m + 22) (8 * n + 5) k) (m + 22) (8 * n + 6) p) (m + 22) (8 * n + 7) q) m 27 (nI n + 1)) := by
  obtain ⟨y1, y2, y3⟩ := X.f
  have x22_0 : ∀ (h : zH) (k i : Nat) (v : Int32), zI (zwI h (m + 22) k v) m i = zI h m i := fun _ _ _ _ => zI_oa (by omega)
  have sJ : ∀ (hh : zH) (j : Nat) (v : Int32), zJ (fun q => q = m ∨ q = m + 22 ∨ q = m + 23) hh (zwI hh (m + 22) j v) := fun _ _ _ => zJ.wI (Or.inr (Or.inl rfl))
  have sM : ∀ (hh : zH) (j : Nat) (v : Int32), zJ (fun q => q = m ∨ q = m + 22 ∨ q = m + 23) hh (zwI hh m j v) := fun _ _ _ => zJ.wI (Or.inl rfl)
  have s9 := ((((((((sJ h (8 * n) a).tr (sJ _ (8 * n + 1) b)).tr (sJ _ (8 * n + 2) (c / 10))).tr (sJ _ (8 * n + 3) (c - c / 10 * 10))).tr (sJ _ (8 * n + 4) e)).tr (sJ _ (8 * n + 5) k)).tr (sJ _ (8 * n + 6) p)).tr (sJ _ (8 * n + 7) q)).tr (sM _ 27 (nI n + 1))
  refine ⟨?_, s9.wd (fun q hq => by unfold yA; omega)⟩
  have hF : oSend S (sRow [a, b, c, e, k, p, q]) = stF S (sF S ++ [sRow [a, b, c, e, k, p, q]]) := by unfold oSend sSnd; rw [hn, if_neg (by omega)]
  rw [hF]
  refine X.F s9 (fun i hi => ?_) ⟨?_, ?_, fun j f hf i hi => ?_⟩
  · rw [zI_ok hi]; simp only [x22_0]
  · rw [List.length_append, hn]; exact hlt
  · rw [zI_at, nI_1, List.length_append, hn]; rfl
  · by_cases hj : j < n
    · rw [List.getElem?_append_left (by omega)] at hf
      rw [zI_oa (by omega), zI_ok (by omega), zI_ok (by omega), zI_ok (by omega), zI_ok (by omega), zI_ok (by omega), zI_ok (by omega), zI_ok (by omega), zI_ok (by omega)]
      exact y3 j f hf i hi
    · have hl := lt_at hf
      rw [List.length_append, hn] at hl
      have hl : j < n + 1 := hl
      have ej : j = n := by omega
      subst ej
      rw [List.getElem?_append_right (by omega), hn, Nat.sub_self] at hf
      cases hf
      rw [zI_oa (by omega)]
      have : i = 0 ∨ i = 1 ∨ i = 2 ∨ i = 3 ∨ i = 4 ∨ i = 5 ∨ i = 6 ∨ i = 7 := by omega
      rcases this with rfl | rfl | rfl | rfl | rfl | rfl | rfl | rfl
      · rw [zI_ok (by omega), zI_ok (by omega), zI_ok (by omega), zI_ok (by omega), zI_ok (by omega), zI_ok (by omega), zI_ok (by omega)]; exact zI_at
      · rw [zI_ok (by omega), zI_ok (by omega), zI_ok (by omega), zI_ok (by omega), zI_ok (by omega), zI_ok (by omega), zI_at]; rfl
      · rw [zI_ok (by omega), zI_ok (by omega), zI_ok (by omega), zI_ok (by omega), zI_ok (by omega), zI_at]; rfl
      · rw [zI_ok (by omega), zI_ok (by omega), zI_ok (by omega), zI_ok (by omega), zI_at]; rfl
      · rw [zI_ok (by omega), zI_ok (by omega), zI_ok (by omega), zI_at]; rfl
      · rw [zI_ok (by omega), zI_ok (by omega), zI_at]; rfl
      · rw [zI_ok (by omega), zI_at]; rfl
      · rw [zI_at]; rfl
theorem c87 {d : Nat} {h : zH} {m w : Nat} {S : sS} {G : List (Nat × (Nat → Int32))} {a b c e k p q : Int32} (X : MH h m w S G) : zD (d + 1) 87 [.inr m, .inl a, .inl b, .inl c, .inl e, .inl k, .inl p, .inl q] h (fun r h' => r = none ∧ MH h' m w (oSend S (sRow [a, b, c, e, k, p, q])) G ∧ zJ (yA m) h h') := by
  obtain ⟨y1, y2, y3⟩ := X.f
  obtain ⟨n, hn⟩ : ∃ n, (sF S).length = n := ⟨_, rfl⟩
  rw [hn] at y1 y2
  have x22_0 : ∀ (h : zH) (k i : Nat) (v : Int32), zI (zwI h (m + 22) k v) m i = zI h m i := fun _ _ _ _ => zI_oa (by omega)
  have n10 : ((10 : Int32) = 0) = False := by simp
  have i0 : (8 : Int32) * nI n = nI (8 * n) := by rw [show (8 : Int32) = nI 8 from rfl, pk_mul]
  have i1 : nI (8 * n) + 1 = nI (8 * n + 1) := nI_1 _
  have i2 : nI (8 * n) + 2 = nI (8 * n + 2) := by rw [show (2 : Int32) = nI 2 from rfl, nI_add]
  have i3 : nI (8 * n) + 3 = nI (8 * n + 3) := by rw [show (3 : Int32) = nI 3 from rfl, nI_add]
  have i4 : nI (8 * n) + 4 = nI (8 * n + 4) := by rw [show (4 : Int32) = nI 4 from rfl, nI_add]
  have i5 : nI (8 * n) + 5 = nI (8 * n + 5) := by rw [show (5 : Int32) = nI 5 from rfl, nI_add]
  have i6 : nI (8 * n) + 6 = nI (8 * n + 6) := by rw [show (6 : Int32) = nI 6 from rfl, nI_add]
  have i7 : nI (8 * n) + 7 = nI (8 * n + 7) := by rw [show (7 : Int32) = nI 7 from rfl, nI_add]
  have e24 : (nI n = 24) ↔ n = 24 := nI_eq (b := 24) (by omega) (by decide)
  have j0 := nI_clamp (show 8 * n < 2 ^ 31 by omega)
  have j1 := nI_clamp (show 8 * n + 1 < 2 ^ 31 by omega)
  have j2 := nI_clamp (show 8 * n + 2 < 2 ^ 31 by omega)
  have j3 := nI_clamp (show 8 * n + 3 < 2 ^ 31 by omega)
  have j4 := nI_clamp (show 8 * n + 4 < 2 ^ 31 by omega)
  have j5 := nI_clamp (show 8 * n + 5 < 2 ^ 31 by omega)
  have j6 := nI_clamp (show 8 * n + 6 < 2 ^ 31 by omega)
  have j7 := nI_clamp (show 8 * n + 7 < 2 ^ 31 by omega)
  have v8 : ∀ j, n < 24 → j < 8 → vp_in (nI (8 * n + j)) 192 := fun j h1 h2 => vp_in_nI (by omega) (by omega)
  refine zD_of rfl (r87_0 ?_)
  obtain ⟨k0, ⟨r1, r2, r3, r4, r5, r6, r7, r8, r9, r10, r11, r12, r13, r14, r15, r16, r17, r18, r19, r20, r21, r22, r23⟩, ⟨k1, k2, k3, k4, k5, k6, k7, k8, k9, k10, k11, k12, k13, k14, k15, k16, k17, k18, k19, k20, k21, k22, k23⟩, ⟨l1, l2, l3, l4, l5, l6, l7, l8, l9, l10, l11, l12, l13, l14, l15, l16, l17, l18, l19, l20, l21, l22, l23⟩⟩ := X.1
  simp only [k0, r1, r2, r3, r4, r5, r6, r7, r8, r9, r10, r11, r12, r13, r14, r15, r16, r17, r18, r19, r20, r21, r22, r23, k1, k2, k3, k4, k5, k6, k7, k8, k9, k10, k11, k12, k13, k14, k15, k16, k17, k18, k19, k20, k21, k22, k23, l1, l2, l3, l4, l5, l6, l7, l8, l9, l10, l11, l12, l13, l14, l15, l16, l17, l18, l19, l20, l21, l22, l23, true_and, true_or, or_true, zK_wI, zL_wI, zR_wI, forall_eq, x22_0, y2, e24, n10, not_false_eq_true, i0, i1, i2, i3, i4, i5, i6, i7, j0, j1, j2, j3, j4, j5, j6, j7]
  clear k0 r1 r2 r3 r4 r5 r6 r7 r8 r9 r10 r11 r12 r13 r14 r15 r16 r17 r18 r19 r20 r21 r22 r23 k1 k2 k3 k4 k5 k6 k7 k8 k9 k10 k11 k12 k13 k14 k15 k16 k17 k18 k19 k20 k21 k22 k23 l1 l2 l3 l4 l5 l6 l7 l8 l9 l10 l11 l12 l13 l14 l15 l16 l17 l18 l19 l20 l21 l22 l23
  refine ⟨fun q24 => ?_, fun q24 => ⟨?_, zJ.rf⟩⟩
  rotate_left
  · unfold oSend sSnd; rw [hn, if_pos q24]; exact X
  have hlt : n < 24 := by omega
  exact ⟨v8 0 hlt (by decide), v8 1 hlt (by decide), v8 2 hlt (by decide), v8 3 hlt (by decide), v8 4 hlt (by decide), v8 5 hlt (by decide), v8 6 hlt (by decide), v8 7 hlt (by decide), X.push hn hlt⟩
theorem c95 {d : Nat} {h : zH} {m w : Nat} {S : sS} {G : List (Nat × (Nat → Int32))} {a b c e : Int32} (X : MH h m w S G) : zD (d + 2) 95 [.inr m, .inl a, .inl b, .inl c, .inl e] h (fun r h' => r = none ∧ MH h' m w (oSend S (sRow [a, b, 40, 0, e, c, 0])) G ∧ zJ (yA m) h h') := by
  refine zD_of rfl (r95_0 ⟨X.1.1, _, c87 X, ?_⟩)
  rintro r h1 ⟨rfl, X1, s1⟩
  exact r95_13 ⟨rfl, X1, s1⟩
end
section
/-! ===== the reference's writers: dialogues ===== -/
theorem rG_mv {h h' : zH} {m j i : Nat} {p : Nat × (Nat → Int32)} (e : ∀ t, t < 7 → zI h' (m + (13 + t)) i = zI h (m + (13 + t)) j) (r : rG h m j p) : rG h' m i p := by
  unfold rG at r ⊢
  rw [show zI h' (m + 13) i = zI h (m + 13) j from e 0 (by decide), show zI h' (m + 14) i = zI h (m + 14) j from e 1 (by decide), show zI h' (m + 15) i = zI h (m + 15) j from e 2 (by decide), show zI h' (m + 16) i = zI h (m + 16) j from e 3 (by decide), show zI h' (m + 17) i = zI h (m + 17) j from e 4 (by decide), show zI h' (m + 18) i = zI h (m + 18) j from e 5 (by decide), show zI h' (m + 19) i = zI h (m + 19) j from e 6 (by decide)]
  exact r
/-- seven writes, one in each column -/
def w7 (h : zH) (m j : Nat) (a b c e k p q : Int32) : zH := zwI (zwI (zwI (zwI (zwI (zwI (zwI h (m + 13) j a) (m + 14) j b) (m + 15) j c) (m + 16) j e) (m + 17) j k) (m + 18) j p) (m + 19) j q
theorem w7_J {h : zH} {m j : Nat} {a b c e k p q : Int32} : zJ (fun q => m + 13 ≤ q ∧ q ≤ m + 19) h (w7 h m j a b c e k p q) := by
  have sJ : ∀ (hh : zH) (t : Nat) (v : Int32), t < 7 → zJ (fun q => m + 13 ≤ q ∧ q ≤ m + 19) hh (zwI hh (m + (13 + t)) j v) := fun _ t _ ht => zJ.wI ⟨by omega, by omega⟩
  exact ((((((sJ h 0 a (by decide)).tr (sJ _ 1 b (by decide))).tr (sJ _ 2 c (by decide))).tr (sJ _ 3 e (by decide))).tr (sJ _ 4 k (by decide))).tr (sJ _ 5 p (by decide))).tr (sJ _ 6 q (by decide))
theorem w7_ne {h : zH} {m j i b' : Nat} {a b c e k p q : Int32} (hi : i ≠ j) : zI (w7 h m j a b c e k p q) b' i = zI h b' i := by
  unfold w7
  rw [zI_ok hi, zI_ok hi, zI_ok hi, zI_ok hi, zI_ok hi, zI_ok hi, zI_ok hi]
theorem w7_13 {h : zH} {m j : Nat} {a b c e k p q : Int32} : zI (w7 h m j a b c e k p q) (m + 13) j = a := by
  unfold w7; rw [zI_oa (by omega), zI_oa (by omega), zI_oa (by omega), zI_oa (by omega), zI_oa (by omega), zI_oa (by omega), zI_at]
theorem w7_14 {h : zH} {m j : Nat} {a b c e k p q : Int32} : zI (w7 h m j a b c e k p q) (m + 14) j = b := by
  unfold w7; rw [zI_oa (by omega), zI_oa (by omega), zI_oa (by omega), zI_oa (by omega), zI_oa (by omega), zI_at]
theorem w7_15 {h : zH} {m j : Nat} {a b c e k p q : Int32} : zI (w7 h m j a b c e k p q) (m + 15) j = c := by
  unfold w7; rw [zI_oa (by omega), zI_oa (by omega), zI_oa (by omega), zI_oa (by omega), zI_at]
theorem w7_16 {h : zH} {m j : Nat} {a b c e k p q : Int32} : zI (w7 h m j a b c e k p q) (m + 16) j = e := by
  unfold w7; rw [zI_oa (by omega), zI_oa (by omega), zI_oa (by omega), zI_at]
theorem w7_17 {h : zH} {m j : Nat} {a b c e k p q : Int32} : zI (w7 h m j a b c e k p q) (m + 17) j = k := by
  unfold w7; rw [zI_oa (by omega), zI_oa (by omega), zI_at]
theorem w7_18 {h : zH} {m j : Nat} {a b c e k p q : Int32} : zI (w7 h m j a b c e k p q) (m + 18) j = p := by
  unfold w7; rw [zI_oa (by omega), zI_at]
theorem w7_19 {h : zH} {m j : Nat} {a b c e k p q : Int32} : zI (w7 h m j a b c e k p q) (m + 19) j = q := by
  unfold w7; rw [zI_at]
theorem MH.beg {h : zH} {m w v n : Nat} {S : sS} {G : List (Nat × (Nat → Int32))} {kd su wi la : Int32} (hv : v ≤ w) (X : MH h m w S G) (hn : G.length = n) (hlt : n < 12) :
    MH (zwI (w7 (zwI h (m + 12) v (sL S v + 1)) m n (nI v) (sL S v + 1) kd su wi (sClk S + la) 0) m 16 (nI n + 1)) m w (oBegin S v (kd + 1) wi su (sClk S + la) 0) (G ++ [(v, sRow [sL S v + 1, kd + 1, wi, su, sClk S + la, 0])]) ∧
    zJ (yA m) h (zwI (w7 (zwI h (m + 12) v (sL S v + 1)) m n (nI v) (sL S v + 1) kd su wi (sClk S + la) 0) m 16 (nI n + 1)) := by
  obtain ⟨y1, y2, y3⟩ := X.gg
  have s1 : zJ (fun q => q = m ∨ q = m + 12 ∨ (m + 13 ≤ q ∧ q ≤ m + 19)) h (zwI h (m + 12) v (sL S v + 1)) := zJ.wI (Or.inr (Or.inl rfl))
  have s2 : zJ (fun q => q = m ∨ q = m + 12 ∨ (m + 13 ≤ q ∧ q ≤ m + 19)) (zwI h (m + 12) v (sL S v + 1)) (w7 (zwI h (m + 12) v (sL S v + 1)) m n (nI v) (sL S v + 1) kd su wi (sClk S + la) 0) := w7_J.wd (fun q hq => Or.inr (Or.inr hq))
  have s3 : zJ (fun q => q = m ∨ q = m + 12 ∨ (m + 13 ≤ q ∧ q ≤ m + 19)) (w7 (zwI h (m + 12) v (sL S v + 1)) m n (nI v) (sL S v + 1) kd su wi (sClk S + la) 0) (zwI (w7 (zwI h (m + 12) v (sL S v + 1)) m n (nI v) (sL S v + 1) kd su wi (sClk S + la) 0) m 16 (nI n + 1)) := zJ.wI (Or.inl rfl)
  have s := (s1.tr s2).tr s3
  have sw := w7_J (h := zwI h (m + 12) v (sL S v + 1)) (m := m) (j := n) (a := nI v) (b := sL S v + 1) (c := kd) (e := su) (k := wi) (p := sClk S + la) (q := 0)
  refine ⟨X.G s (fun i hi => ?_) (fun u hu => ?_) ⟨?_, ?_, fun j p hp => ?_⟩ rfl rfl rfl rfl rfl rfl rfl rfl rfl rfl rfl, s.wd (fun q hq => by unfold yA; omega)⟩
  · rw [zI_ok hi, sw.2.2.2.2 m (by omega), zI_oa (by omega)]
  · rw [zI_oa (by omega), sw.2.2.2.2 (m + 12) (by omega)]
    show _ = upd (sL S) v (sL S v + 1) u
    unfold upd
    by_cases e : u = v
    · subst e; rw [if_pos rfl, zI_at]
    · rw [if_neg e, zI_ok e]; exact X.l hu
  · rw [List.length_append, hn]; exact hlt
  · rw [zI_at, nI_1, List.length_append, hn]; rfl
  · by_cases hj : j < n
    · rw [List.getElem?_append_left (by omega)] at hp
      refine rG_mv (fun t ht => ?_) (y3 j p hp)
      rw [zI_oa (by omega), w7_ne (by omega), zI_oa (by omega)]
    · have hl := lt_at hp
      rw [List.length_append, hn] at hl
      have hl : j < n + 1 := hl
      have ej : j = n := by omega
      subst ej
      rw [List.getElem?_append_right (by omega), hn, Nat.sub_self] at hp
      cases hp
      unfold rG
      rw [zI_oa (by omega), zI_oa (by omega), zI_oa (by omega), zI_oa (by omega), zI_oa (by omega), zI_oa (by omega), zI_oa (by omega), w7_13, w7_14, w7_15, w7_16, w7_17, w7_18, w7_19]
      exact ⟨rfl, rfl, rfl, rfl, rfl, rfl, rfl⟩
theorem c84 {d : Nat} {h : zH} {m w v : Nat} {S : sS} {G : List (Nat × (Nat → Int32))} {kd su wi la : Int32} (hw : w ≤ 4) (hv : v ≤ w) (hG : G.length < 12) (X : MH h m w S G) : zD (d + 1) 84 [.inr m, .inl (nI v), .inl kd, .inl su, .inl wi, .inl la] h (fun r h' => r = some (.inl (sL S v + 1)) ∧ MH h' m w (oBegin S v (kd + 1) wi su (sClk S + la) 0) (G ++ [(v, sRow [sL S v + 1, kd + 1, wi, su, sClk S + la, 0])]) ∧ zJ (yA m) h h') := by
  obtain ⟨y1, y2, y3⟩ := X.gg
  obtain ⟨n, hn⟩ : ∃ n, G.length = n := ⟨_, rfl⟩
  rw [hn] at y1 y2 hG
  have x12_0 : ∀ (h : zH) (k i : Nat) (v : Int32), zI (zwI h (m + 12) k v) m i = zI h m i := fun _ _ _ _ => zI_oa (by omega)
  have x13_0 : ∀ (h : zH) (k i : Nat) (v : Int32), zI (zwI h (m + 13) k v) m i = zI h m i := fun _ _ _ _ => zI_oa (by omega)
  have x13_12 : ∀ (h : zH) (k i : Nat) (v : Int32), zI (zwI h (m + 13) k v) (m + 12) i = zI h (m + 12) i := fun _ _ _ _ => zI_oa (by omega)
  have x14_0 : ∀ (h : zH) (k i : Nat) (v : Int32), zI (zwI h (m + 14) k v) m i = zI h m i := fun _ _ _ _ => zI_oa (by omega)
  have x14_12 : ∀ (h : zH) (k i : Nat) (v : Int32), zI (zwI h (m + 14) k v) (m + 12) i = zI h (m + 12) i := fun _ _ _ _ => zI_oa (by omega)
  have x15_0 : ∀ (h : zH) (k i : Nat) (v : Int32), zI (zwI h (m + 15) k v) m i = zI h m i := fun _ _ _ _ => zI_oa (by omega)
  have x15_12 : ∀ (h : zH) (k i : Nat) (v : Int32), zI (zwI h (m + 15) k v) (m + 12) i = zI h (m + 12) i := fun _ _ _ _ => zI_oa (by omega)
  have x16_0 : ∀ (h : zH) (k i : Nat) (v : Int32), zI (zwI h (m + 16) k v) m i = zI h m i := fun _ _ _ _ => zI_oa (by omega)
  have x16_12 : ∀ (h : zH) (k i : Nat) (v : Int32), zI (zwI h (m + 16) k v) (m + 12) i = zI h (m + 12) i := fun _ _ _ _ => zI_oa (by omega)
  have x17_0 : ∀ (h : zH) (k i : Nat) (v : Int32), zI (zwI h (m + 17) k v) m i = zI h m i := fun _ _ _ _ => zI_oa (by omega)
  have x17_12 : ∀ (h : zH) (k i : Nat) (v : Int32), zI (zwI h (m + 17) k v) (m + 12) i = zI h (m + 12) i := fun _ _ _ _ => zI_oa (by omega)
  have x18_0 : ∀ (h : zH) (k i : Nat) (v : Int32), zI (zwI h (m + 18) k v) m i = zI h m i := fun _ _ _ _ => zI_oa (by omega)
  have x18_12 : ∀ (h : zH) (k i : Nat) (v : Int32), zI (zwI h (m + 18) k v) (m + 12) i = zI h (m + 12) i := fun _ _ _ _ => zI_oa (by omega)
  have x19_0 : ∀ (h : zH) (k i : Nat) (v : Int32), zI (zwI h (m + 19) k v) m i = zI h m i := fun _ _ _ _ => zI_oa (by omega)
  have x19_12 : ∀ (h : zH) (k i : Nat) (v : Int32), zI (zwI h (m + 19) k v) (m + 12) i = zI h (m + 12) i := fun _ _ _ _ => zI_oa (by omega)
  have x0_12 : ∀ (h : zH) (k i : Nat) (v : Int32), zI (zwI h m k v) (m + 12) i = zI h (m + 12) i := fun _ _ _ _ => zI_oa (by omega)
  have ck := X.clk
  have lv := X.l hv
  have j0 := nI_clamp (show n < 2 ^ 31 by omega)
  have j1 := nI_clamp (show v < 2 ^ 31 by omega)
  have v1 : vp_in (nI v) 5 := vp_in_nI (by omega) (by omega)
  have v2 : vp_in (nI n) 12 := vp_in_nI (by omega) (by omega)
  refine zD_of rfl (r84_0 ?_)
  obtain ⟨k0, ⟨r1, r2, r3, r4, r5, r6, r7, r8, r9, r10, r11, r12, r13, r14, r15, r16, r17, r18, r19, r20, r21, r22, r23⟩, ⟨k1, k2, k3, k4, k5, k6, k7, k8, k9, k10, k11, k12, k13, k14, k15, k16, k17, k18, k19, k20, k21, k22, k23⟩, ⟨l1, l2, l3, l4, l5, l6, l7, l8, l9, l10, l11, l12, l13, l14, l15, l16, l17, l18, l19, l20, l21, l22, l23⟩⟩ := X.1
  simp only [k0, r1, r2, r3, r4, r5, r6, r7, r8, r9, r10, r11, r12, r13, r14, r15, r16, r17, r18, r19, r20, r21, r22, r23, k1, k2, k3, k4, k5, k6, k7, k8, k9, k10, k11, k12, k13, k14, k15, k16, k17, k18, k19, k20, k21, k22, k23, l1, l2, l3, l4, l5, l6, l7, l8, l9, l10, l11, l12, l13, l14, l15, l16, l17, l18, l19, l20, l21, l22, l23, true_and, true_or, or_true, zK_wI, zL_wI, zR_wI, forall_eq, x12_0, x13_0, x13_12, x14_0, x14_12, x15_0, x15_12, x16_0, x16_12, x17_0, x17_12, x18_0, x18_12, x19_0, x19_12, x0_12, zI_at, y2, ck, lv, j0, j1, v1, v2]
  exact X.beg hv hn hG
theorem c85 {d : Nat} {h : zH} {m w k : Nat} {S : sS} {G : List (Nat × (Nat → Int32))} (X : MH h m w S G) (hk : k < G.length) : zD (d + 1) 85 [.inr m, .inl (nI k)] h (fun r h' => r = none ∧ MH h' m w S (G.eraseIdx k) ∧ zJ (yA m) h h') := by
  obtain ⟨y1, y2, y3⟩ := X.gg
  obtain ⟨n, hn⟩ : ∃ n, G.length = n := ⟨_, rfl⟩
  have hel : (G.eraseIdx k).length = G.length - 1 := List.length_eraseIdx_of_lt hk
  rw [hn] at y1 y2 hk hel
  refine zD_of rfl (r85_0 ⟨X.1.1, X.1.1, fun h1 e1 => ?_⟩)
  have s1 : zJ (fun q => q = m ∨ q = m + 12 ∨ (m + 13 ≤ q ∧ q ≤ m + 19)) h h1 := by rw [e1]; exact zJ.wI (Or.inl rfl)
  suffices H : ∀ t j h3, n - 1 - j = t → k ≤ j → j ≤ n - 1 → zJ (fun q => q = m ∨ q = m + 12 ∨ (m + 13 ≤ q ∧ q ≤ m + 19)) h h3 → (∀ i, i ≠ 16 → zI h3 m i = zI h m i) → (∀ i, zI h3 (m + 12) i = zI h (m + 12) i) → zI h3 m 16 = nI (n - 1) → (∀ i y, i < j → (G.eraseIdx k)[i]? = some y → rG h3 m i y) → (∀ i y, j ≤ i → G[i]? = some y → rG h3 m i y) → zWp zm85 (zD d) (fun r h' => r = none ∧ MH h' m w S (G.eraseIdx k) ∧ zJ (yA m) h h') 0 0 12 [some (.inr m), some (.inl (nI k)), some (.inl (nI j))] [] h3 from
    H _ k h1 rfl (Nat.le_refl _) (by omega) s1 (fun i hi => by rw [e1, zI_ok hi]) (fun i => by rw [e1, zI_oa (by omega)]) (by rw [e1, zI_at, y2]; exact pk_sub (b := 1) (by omega)) (fun i y hi hy => by
      rw [List.getElem?_eraseIdx, if_pos hi] at hy
      exact rG_mv (fun t ht => by rw [e1, zI_oa (by omega)]) (y3 i y hy)) (fun i y _ hy => rG_mv (fun t ht => by rw [e1, zI_oa (by omega)]) (y3 i y hy))
  intro t
  induction t with
  | zero =>
    intro j h3 ht hk1 hj s3 h0 h12 h16 hlo hhi
    refine r85_12 ?_
    have g3 := gM_J s3 X.1
    simp only [g3.1, h16, true_and]
    refine ⟨fun _ => ⟨X.G s3 h0 (fun v hv => (h12 v).trans (X.l hv)) ⟨by omega, by rw [h16, hel], fun i y hy => hlo i y (by have := lt_at hy; omega) hy⟩ rfl rfl rfl rfl rfl rfl rfl rfl rfl rfl rfl, s3.wd (fun q hq => by unfold yA; omega)⟩, fun q => absurd (nI_le (by omega) (by omega)) q⟩
  | succ t ih =>
    intro j h3 ht hk1 hj s3 h0 h12 h16 hlo hhi
    have g3 := gM_J s3 X.1
    have j0 := nI_clamp (show j < 2 ^ 31 by omega)
    have j1 := nI_clamp (show j + 1 < 2 ^ 31 by omega)
    have v1 : vp_in (nI j) 12 := vp_in_nI (by omega) (by omega)
    have v2 : vp_in (nI (j + 1)) 12 := vp_in_nI (by omega) (by omega)
    have q1 : ¬ nI (n - 1) ≤ nI j := nI_ge (by omega) (by omega)
    obtain ⟨z, hz⟩ := at_lt (show j + 1 < G.length by omega)
    have sw := w7_J (h := h3) (m := m) (j := j) (a := zI h3 (m + 13) (j + 1)) (b := zI h3 (m + 14) (j + 1)) (c := zI h3 (m + 15) (j + 1)) (e := zI h3 (m + 16) (j + 1)) (k := zI h3 (m + 17) (j + 1)) (p := zI h3 (m + 18) (j + 1)) (q := zI h3 (m + 19) (j + 1))
    have nxt := ih (j + 1) _ (by omega) (by omega) (by omega) (s3.tr (sw.wd (fun q hq => Or.inr (Or.inr hq)))) (fun i hi => by rw [sw.2.2.2.2 m (by omega)]; exact h0 i hi) (fun i => by rw [sw.2.2.2.2 (m + 12) (by omega)]; exact h12 i) (by rw [sw.2.2.2.2 m (by omega)]; exact h16) (fun i y hi hy => by
      by_cases e : i = j
      · subst e
        rw [List.getElem?_eraseIdx, if_neg (by omega), hz] at hy
        cases hy
        have rz := hhi (i + 1) z (by omega) hz
        unfold rG at rz ⊢
        rw [w7_13, w7_14, w7_15, w7_16, w7_17, w7_18, w7_19]
        exact rz
      · exact rG_mv (fun t ht => by rw [w7_ne e]) (hlo i y (by omega) hy)) (fun i y hi hy => rG_mv (fun t ht => by rw [w7_ne (by omega)]) (hhi i y (by omega) hy))
    have x13_14 : ∀ (h : zH) (k i : Nat) (v : Int32), zI (zwI h (m + 13) k v) (m + 14) i = zI h (m + 14) i := fun _ _ _ _ => zI_oa (by omega)
    have x13_15 : ∀ (h : zH) (k i : Nat) (v : Int32), zI (zwI h (m + 13) k v) (m + 15) i = zI h (m + 15) i := fun _ _ _ _ => zI_oa (by omega)
    have x13_16 : ∀ (h : zH) (k i : Nat) (v : Int32), zI (zwI h (m + 13) k v) (m + 16) i = zI h (m + 16) i := fun _ _ _ _ => zI_oa (by omega)
    have x13_17 : ∀ (h : zH) (k i : Nat) (v : Int32), zI (zwI h (m + 13) k v) (m + 17) i = zI h (m + 17) i := fun _ _ _ _ => zI_oa (by omega)
    have x13_18 : ∀ (h : zH) (k i : Nat) (v : Int32), zI (zwI h (m + 13) k v) (m + 18) i = zI h (m + 18) i := fun _ _ _ _ => zI_oa (by omega)
    have x13_19 : ∀ (h : zH) (k i : Nat) (v : Int32), zI (zwI h (m + 13) k v) (m + 19) i = zI h (m + 19) i := fun _ _ _ _ => zI_oa (by omega)
    have x14_13 : ∀ (h : zH) (k i : Nat) (v : Int32), zI (zwI h (m + 14) k v) (m + 13) i = zI h (m + 13) i := fun _ _ _ _ => zI_oa (by omega)
    have x14_15 : ∀ (h : zH) (k i : Nat) (v : Int32), zI (zwI h (m + 14) k v) (m + 15) i = zI h (m + 15) i := fun _ _ _ _ => zI_oa (by omega)
    have x14_16 : ∀ (h : zH) (k i : Nat) (v : Int32), zI (zwI h (m + 14) k v) (m + 16) i = zI h (m + 16) i := fun _ _ _ _ => zI_oa (by omega)
    have x14_17 : ∀ (h : zH) (k i : Nat) (v : Int32), zI (zwI h (m + 14) k v) (m + 17) i = zI h (m + 17) i := fun _ _ _ _ => zI_oa (by omega)
    have x14_18 : ∀ (h : zH) (k i : Nat) (v : Int32), zI (zwI h (m + 14) k v) (m + 18) i = zI h (m + 18) i := fun _ _ _ _ => zI_oa (by omega)
    have x14_19 : ∀ (h : zH) (k i : Nat) (v : Int32), zI (zwI h (m + 14) k v) (m + 19) i = zI h (m + 19) i := fun _ _ _ _ => zI_oa (by omega)
    have x15_13 : ∀ (h : zH) (k i : Nat) (v : Int32), zI (zwI h (m + 15) k v) (m + 13) i = zI h (m + 13) i := fun _ _ _ _ => zI_oa (by omega)
    have x15_14 : ∀ (h : zH) (k i : Nat) (v : Int32), zI (zwI h (m + 15) k v) (m + 14) i = zI h (m + 14) i := fun _ _ _ _ => zI_oa (by omega)
    have x15_16 : ∀ (h : zH) (k i : Nat) (v : Int32), zI (zwI h (m + 15) k v) (m + 16) i = zI h (m + 16) i := fun _ _ _ _ => zI_oa (by omega)
    have x15_17 : ∀ (h : zH) (k i : Nat) (v : Int32), zI (zwI h (m + 15) k v) (m + 17) i = zI h (m + 17) i := fun _ _ _ _ => zI_oa (by omega)
    have x15_18 : ∀ (h : zH) (k i : Nat) (v : Int32), zI (zwI h (m + 15) k v) (m + 18) i = zI h (m + 18) i := fun _ _ _ _ => zI_oa (by omega)
    have x15_19 : ∀ (h : zH) (k i : Nat) (v : Int32), zI (zwI h (m + 15) k v) (m + 19) i = zI h (m + 19) i := fun _ _ _ _ => zI_oa (by omega)
    have x16_13 : ∀ (h : zH) (k i : Nat) (v : Int32), zI (zwI h (m + 16) k v) (m + 13) i = zI h (m + 13) i := fun _ _ _ _ => zI_oa (by omega)
    have x16_14 : ∀ (h : zH) (k i : Nat) (v : Int32), zI (zwI h (m + 16) k v) (m + 14) i = zI h (m + 14) i := fun _ _ _ _ => zI_oa (by omega)
    have x16_15 : ∀ (h : zH) (k i : Nat) (v : Int32), zI (zwI h (m + 16) k v) (m + 15) i = zI h (m + 15) i := fun _ _ _ _ => zI_oa (by omega)
    have x16_17 : ∀ (h : zH) (k i : Nat) (v : Int32), zI (zwI h (m + 16) k v) (m + 17) i = zI h (m + 17) i := fun _ _ _ _ => zI_oa (by omega)
    have x16_18 : ∀ (h : zH) (k i : Nat) (v : Int32), zI (zwI h (m + 16) k v) (m + 18) i = zI h (m + 18) i := fun _ _ _ _ => zI_oa (by omega)
    have x16_19 : ∀ (h : zH) (k i : Nat) (v : Int32), zI (zwI h (m + 16) k v) (m + 19) i = zI h (m + 19) i := fun _ _ _ _ => zI_oa (by omega)
    have x17_13 : ∀ (h : zH) (k i : Nat) (v : Int32), zI (zwI h (m + 17) k v) (m + 13) i = zI h (m + 13) i := fun _ _ _ _ => zI_oa (by omega)
    have x17_14 : ∀ (h : zH) (k i : Nat) (v : Int32), zI (zwI h (m + 17) k v) (m + 14) i = zI h (m + 14) i := fun _ _ _ _ => zI_oa (by omega)
    have x17_15 : ∀ (h : zH) (k i : Nat) (v : Int32), zI (zwI h (m + 17) k v) (m + 15) i = zI h (m + 15) i := fun _ _ _ _ => zI_oa (by omega)
    have x17_16 : ∀ (h : zH) (k i : Nat) (v : Int32), zI (zwI h (m + 17) k v) (m + 16) i = zI h (m + 16) i := fun _ _ _ _ => zI_oa (by omega)
    have x17_18 : ∀ (h : zH) (k i : Nat) (v : Int32), zI (zwI h (m + 17) k v) (m + 18) i = zI h (m + 18) i := fun _ _ _ _ => zI_oa (by omega)
    have x17_19 : ∀ (h : zH) (k i : Nat) (v : Int32), zI (zwI h (m + 17) k v) (m + 19) i = zI h (m + 19) i := fun _ _ _ _ => zI_oa (by omega)
    have x18_13 : ∀ (h : zH) (k i : Nat) (v : Int32), zI (zwI h (m + 18) k v) (m + 13) i = zI h (m + 13) i := fun _ _ _ _ => zI_oa (by omega)
    have x18_14 : ∀ (h : zH) (k i : Nat) (v : Int32), zI (zwI h (m + 18) k v) (m + 14) i = zI h (m + 14) i := fun _ _ _ _ => zI_oa (by omega)
    have x18_15 : ∀ (h : zH) (k i : Nat) (v : Int32), zI (zwI h (m + 18) k v) (m + 15) i = zI h (m + 15) i := fun _ _ _ _ => zI_oa (by omega)
    have x18_16 : ∀ (h : zH) (k i : Nat) (v : Int32), zI (zwI h (m + 18) k v) (m + 16) i = zI h (m + 16) i := fun _ _ _ _ => zI_oa (by omega)
    have x18_17 : ∀ (h : zH) (k i : Nat) (v : Int32), zI (zwI h (m + 18) k v) (m + 17) i = zI h (m + 17) i := fun _ _ _ _ => zI_oa (by omega)
    have x18_19 : ∀ (h : zH) (k i : Nat) (v : Int32), zI (zwI h (m + 18) k v) (m + 19) i = zI h (m + 19) i := fun _ _ _ _ => zI_oa (by omega)
    have x19_13 : ∀ (h : zH) (k i : Nat) (v : Int32), zI (zwI h (m + 19) k v) (m + 13) i = zI h (m + 13) i := fun _ _ _ _ => zI_oa (by omega)
    have x19_14 : ∀ (h : zH) (k i : Nat) (v : Int32), zI (zwI h (m + 19) k v) (m + 14) i = zI h (m + 14) i := fun _ _ _ _ => zI_oa (by omega)
    have x19_15 : ∀ (h : zH) (k i : Nat) (v : Int32), zI (zwI h (m + 19) k v) (m + 15) i = zI h (m + 15) i := fun _ _ _ _ => zI_oa (by omega)
    have x19_16 : ∀ (h : zH) (k i : Nat) (v : Int32), zI (zwI h (m + 19) k v) (m + 16) i = zI h (m + 16) i := fun _ _ _ _ => zI_oa (by omega)
    have x19_17 : ∀ (h : zH) (k i : Nat) (v : Int32), zI (zwI h (m + 19) k v) (m + 17) i = zI h (m + 17) i := fun _ _ _ _ => zI_oa (by omega)
    have x19_18 : ∀ (h : zH) (k i : Nat) (v : Int32), zI (zwI h (m + 19) k v) (m + 18) i = zI h (m + 18) i := fun _ _ _ _ => zI_oa (by omega)
    refine r85_12 ?_
    obtain ⟨k0, ⟨r1, r2, r3, r4, r5, r6, r7, r8, r9, r10, r11, r12, r13, r14, r15, r16, r17, r18, r19, r20, r21, r22, r23⟩, ⟨k1, k2, k3, k4, k5, k6, k7, k8, k9, k10, k11, k12, k13, k14, k15, k16, k17, k18, k19, k20, k21, k22, k23⟩, ⟨l1, l2, l3, l4, l5, l6, l7, l8, l9, l10, l11, l12, l13, l14, l15, l16, l17, l18, l19, l20, l21, l22, l23⟩⟩ := g3
    simp only [k0, r1, r2, r3, r4, r5, r6, r7, r8, r9, r10, r11, r12, r13, r14, r15, r16, r17, r18, r19, r20, r21, r22, r23, k1, k2, k3, k4, k5, k6, k7, k8, k9, k10, k11, k12, k13, k14, k15, k16, k17, k18, k19, k20, k21, k22, k23, l1, l2, l3, l4, l5, l6, l7, l8, l9, l10, l11, l12, l13, l14, l15, l16, l17, l18, l19, l20, l21, l22, l23, true_and, true_or, or_true, zK_wI, zL_wI, zR_wI, forall_eq, x13_14, x13_15, x13_16, x13_17, x13_18, x13_19, x14_13, x14_15, x14_16, x14_17, x14_18, x14_19, x15_13, x15_14, x15_16, x15_17, x15_18, x15_19, x16_13, x16_14, x16_15, x16_17, x16_18, x16_19, x17_13, x17_14, x17_15, x17_16, x17_18, x17_19, x18_13, x18_14, x18_15, x18_16, x18_17, x18_19, x19_13, x19_14, x19_15, x19_16, x19_17, x19_18, h16, nI_1, j0, j1, v1, v2]
    exact ⟨fun q => absurd q q1, fun _ => nxt⟩
end
section
/-! ===== the reference's writers: single cells, end, take out, strike ===== -/
theorem MH.wst {h : zH} {m w k : Nat} {S : sS} {G : List (Nat × (Nat → Int32))} {x : Int32} (X : MH h m w S G) : MH (zwI h (m + 9) k x) m w (oStand S k x) G :=
  X.A (S' := oStand S k x) (zJ.wI (by omega)) (fun j hj => (zI_oa (by omega)).trans (X.dg hj)) (fun j hj => (zI_oa (by omega)).trans (X.lo hj)) (fun j hj => (zI_oa (by omega)).trans (X.he hj)) (fun j hj => by
    show _ = upd (sSt S) k x j
    unfold upd
    by_cases e : j = k
    · subst e; rw [if_pos rfl, zI_at]
    · rw [if_neg e, zI_ok e]; exact X.st hj) (fun j hj => ⟨(zI_oa (by omega)).trans (X.ou hj).1, (zI_oa (by omega)).trans (X.ou hj).2⟩) rfl rfl rfl rfl rfl rfl
theorem MH.whe {h : zH} {m w k : Nat} {S : sS} {G : List (Nat × (Nat → Int32))} {x : Int32} (X : MH h m w S G) : MH (zwI h (m + 8) k x) m w (oHold S k x) G :=
  X.A (S' := oHold S k x) (zJ.wI (by omega)) (fun j hj => (zI_oa (by omega)).trans (X.dg hj)) (fun j hj => (zI_oa (by omega)).trans (X.lo hj)) (fun j hj => by
    show _ = upd (sHe S) k x j
    unfold upd
    by_cases e : j = k
    · subst e; rw [if_pos rfl, zI_at]
    · rw [if_neg e, zI_ok e]; exact X.he hj) (fun j hj => (zI_oa (by omega)).trans (X.st hj)) (fun j hj => ⟨(zI_oa (by omega)).trans (X.ou hj).1, (zI_oa (by omega)).trans (X.ou hj).2⟩) rfl rfl rfl rfl rfl rfl
theorem MH.wlo {h : zH} {m w k : Nat} {S : sS} {G : List (Nat × (Nat → Int32))} {x : Int32} (X : MH h m w S G) : MH (zwI h (m + 2) k x) m w (stLo S (upd (sLo S) k x)) G :=
  X.A (S' := stLo S (upd (sLo S) k x)) (zJ.wI (by omega)) (fun j hj => (zI_oa (by omega)).trans (X.dg hj)) (fun j hj => by
    show _ = upd (sLo S) k x j
    unfold upd
    by_cases e : j = k
    · subst e; rw [if_pos rfl, zI_at]
    · rw [if_neg e, zI_ok e]; exact X.lo hj) (fun j hj => (zI_oa (by omega)).trans (X.he hj)) (fun j hj => (zI_oa (by omega)).trans (X.st hj)) (fun j hj => ⟨(zI_oa (by omega)).trans (X.ou hj).1, (zI_oa (by omega)).trans (X.ou hj).2⟩) rfl rfl rfl rfl rfl rfl
theorem MH.wdg {h : zH} {m w k : Nat} {S : sS} {G : List (Nat × (Nat → Int32))} {x : Int32} (X : MH h m w S G) : MH (zwI h (m + 1) k x) m w (stDg S (upd (sDg S) k x)) G :=
  X.A (S' := stDg S (upd (sDg S) k x)) (zJ.wI (by omega)) (fun j hj => by
    show _ = upd (sDg S) k x j
    unfold upd
    by_cases e : j = k
    · subst e; rw [if_pos rfl, zI_at]
    · rw [if_neg e, zI_ok e]; exact X.dg hj) (fun j hj => (zI_oa (by omega)).trans (X.lo hj)) (fun j hj => (zI_oa (by omega)).trans (X.he hj)) (fun j hj => (zI_oa (by omega)).trans (X.st hj)) (fun j hj => ⟨(zI_oa (by omega)).trans (X.ou hj).1, (zI_oa (by omega)).trans (X.ou hj).2⟩) rfl rfl rfl rfl rfl rfl
theorem MH.wO {h : zH} {m w k : Nat} {S : sS} {G : List (Nat × (Nat → Int32))} {x : Int32} (X : MH h m w S G) : MH (zwI h (m + 10) k x) m w (stO S (upd (sO S) k x)) G :=
  X.A (S' := stO S (upd (sO S) k x)) (zJ.wI (by omega)) (fun j hj => (zI_oa (by omega)).trans (X.dg hj)) (fun j hj => (zI_oa (by omega)).trans (X.lo hj)) (fun j hj => (zI_oa (by omega)).trans (X.he hj)) (fun j hj => (zI_oa (by omega)).trans (X.st hj)) (fun j hj => ⟨by
    show _ = upd (sO S) k x j
    unfold upd
    by_cases e : j = k
    · subst e; rw [if_pos rfl, zI_at]
    · rw [if_neg e, zI_ok e]; exact (X.ou hj).1, (zI_oa (by omega)).trans (X.ou hj).2⟩) rfl rfl rfl rfl rfl rfl
theorem MH.wU {h : zH} {m w k : Nat} {S : sS} {G : List (Nat × (Nat → Int32))} {x : Int32} (X : MH h m w S G) : MH (zwI h (m + 11) k x) m w (stU S (upd (sU S) k x)) G :=
  X.A (S' := stU S (upd (sU S) k x)) (zJ.wI (by omega)) (fun j hj => (zI_oa (by omega)).trans (X.dg hj)) (fun j hj => (zI_oa (by omega)).trans (X.lo hj)) (fun j hj => (zI_oa (by omega)).trans (X.he hj)) (fun j hj => (zI_oa (by omega)).trans (X.st hj)) (fun j hj => ⟨(zI_oa (by omega)).trans (X.ou hj).1, by
    show _ = upd (sU S) k x j
    unfold upd
    by_cases e : j = k
    · subst e; rw [if_pos rfl, zI_at]
    · rw [if_neg e, zI_ok e]; exact (X.ou hj).2⟩) rfl rfl rfl rfl rfl rfl
theorem i32_k0 {x y : Int32} (e : x + 1 = y) : (x = 0) = (y = 1) := by
  rw [← e]; exact propext (i32_add1 (a := x) (b := 0))
theorem c86 {d : Nat} {h : zH} {m w k sn : Nat} {S : sS} {G : List (Nat × (Nat → Int32))} {p : Nat × (Nat → Int32)} {how : Int32} (hw : w ≤ 4) (X : MH h m w S G) (hp : G[k]? = some p) (hv : p.1 ≤ w) (hs : sn < 4) (hsn : p.2 3 = nI sn) : zD (d + 2) 86 [.inr m, .inl (nI k), .inl how] h (fun r h' => r = none ∧ MH h' m w (if p.2 1 = 1 then oStand S (4 * p.1 + sn) how else S) (G.eraseIdx k) ∧ zJ (yA m) h h') := by
  obtain ⟨y1, y2, y3⟩ := X.gg
  have hk := lt_at hp
  obtain ⟨z1, z2, z3, z4, z5, -⟩ := y3 k p hp
  have j0 := nI_clamp (show k < 2 ^ 31 by omega)
  have j1 := nI_clamp (show 4 * p.1 + sn < 2 ^ 31 by omega)
  have v1 : vp_in (nI k) 12 := vp_in_nI (by omega) (by omega)
  have v2 : vp_in (nI (4 * p.1 + sn)) 20 := vp_in_nI (by omega) (by omega)
  refine zD_of rfl (r86_0 ?_)
  obtain ⟨k0, ⟨r1, r2, r3, r4, r5, r6, r7, r8, r9, r10, r11, r12, r13, r14, r15, r16, r17, r18, r19, r20, r21, r22, r23⟩, ⟨k1, k2, k3, k4, k5, k6, k7, k8, k9, k10, k11, k12, k13, k14, k15, k16, k17, k18, k19, k20, k21, k22, k23⟩, ⟨l1, l2, l3, l4, l5, l6, l7, l8, l9, l10, l11, l12, l13, l14, l15, l16, l17, l18, l19, l20, l21, l22, l23⟩⟩ := X.1
  simp only [k0, r1, r2, r3, r4, r5, r6, r7, r8, r9, r10, r11, r12, r13, r14, r15, r16, r17, r18, r19, r20, r21, r22, r23, k1, k2, k3, k4, k5, k6, k7, k8, k9, k10, k11, k12, k13, k14, k15, k16, k17, k18, k19, k20, k21, k22, k23, l1, l2, l3, l4, l5, l6, l7, l8, l9, l10, l11, l12, l13, l14, l15, l16, l17, l18, l19, l20, l21, l22, l23, true_and, true_or, or_true, zK_wI, zL_wI, zR_wI, forall_eq, j0, v1, z1, z4, hsn, i32_k0 z3, e4x, j1, v2]
  clear k0 r1 r2 r3 r4 r5 r6 r7 r8 r9 r10 r11 r12 r13 r14 r15 r16 r17 r18 r19 r20 r21 r22 r23 k1 k2 k3 k4 k5 k6 k7 k8 k9 k10 k11 k12 k13 k14 k15 k16 k17 k18 k19 k20 k21 k22 k23 l1 l2 l3 l4 l5 l6 l7 l8 l9 l10 l11 l12 l13 l14 l15 l16 l17 l18 l19 l20 l21 l22 l23
  refine ⟨fun q => ⟨_, c85 X hk, ?_⟩, fun q => ⟨_, c85 X.wst hk, ?_⟩⟩
  · rintro r h1 ⟨rfl, X1, s1⟩
    exact r86_35 ⟨rfl, by rw [if_neg q]; exact X1, s1⟩
  · rintro r h1 ⟨rfl, X1, s1⟩
    exact r86_35 ⟨rfl, by rw [if_pos q]; exact X1, (zJ.wI (by unfold yA; omega)).tr s1⟩
theorem c88 {d : Nat} {h : zH} {m w i : Nat} {S : sS} {G : List (Nat × (Nat → Int32))} (X : MH h m w S G) (hi : i < (sF S).length) : zD (d + 1) 88 [.inr m, .inl (nI i)] h (fun r h' => r = none ∧ MH h' m w (stF S ((sF S).eraseIdx i)) G ∧ zJ (yA m) h h' ∧ ∀ j, zI h' (m + 23) j = zI h (m + 23) j) := by
  obtain ⟨y1, y2, y3⟩ := X.f
  obtain ⟨n, hn⟩ : ∃ n, (sF S).length = n := ⟨_, rfl⟩
  have hel : ((sF S).eraseIdx i).length = (sF S).length - 1 := List.length_eraseIdx_of_lt hi
  rw [hn] at y1 y2 hi hel
  refine zD_of rfl (r88_0 ⟨X.1.1, X.1.1, fun h1 e1 => ?_⟩)
  have s1 : zJ (fun q => q = m ∨ q = m + 22 ∨ q = m + 23) h h1 := by rw [e1]; exact zJ.wI (Or.inl rfl)
  rw [show (8 : Int32) = nI 8 from rfl, pk_mul]
  suffices H : ∀ t j h3, 8 * (n - 1) - j = t → 8 * i ≤ j → j ≤ 8 * (n - 1) → zJ (fun q => q = m ∨ q = m + 22 ∨ q = m + 23) h h3 → (∀ k, k ≠ 27 → zI h3 m k = zI h m k) → (∀ k, zI h3 (m + 23) k = zI h (m + 23) k) → zI h3 m 27 = nI (n - 1) → (∀ q, q < j → zI h3 (m + 22) q = if q < 8 * i then zI h (m + 22) q else zI h (m + 22) (q + 8)) → (∀ q, j ≤ q → zI h3 (m + 22) q = zI h (m + 22) q) → zWp zm88 (zD d) (fun r h' => r = none ∧ MH h' m w (stF S ((sF S).eraseIdx i)) G ∧ zJ (yA m) h h' ∧ ∀ j, zI h' (m + 23) j = zI h (m + 23) j) 0 0 15 [some (.inr m), some (.inl (nI i)), some (.inl (nI j))] [] h3 from
    H _ (8 * i) h1 rfl (Nat.le_refl _) (by omega) s1 (fun k hk => by rw [e1, zI_ok hk]) (fun k => by rw [e1, zI_oa (by omega)]) (by rw [e1, zI_at, y2]; exact pk_sub (b := 1) (by omega)) (fun q hq => by rw [if_pos hq, e1, zI_oa (by omega)]) (fun q _ => by rw [e1, zI_oa (by omega)])
  intro t
  induction t with
  | zero =>
    intro j h3 ht hj1 hj s3 h0 h23 h27 hlo hhi
    refine r88_15 ?_
    have g3 := gM_J s3 X.1
    simp only [g3.1, h27, true_and, show (8 : Int32) = nI 8 from rfl, pk_mul]
    refine ⟨fun _ => ⟨X.F s3 h0 ⟨by omega, by rw [h27, hel], fun q f hf u hu => ?_⟩, s3.wd (fun q hq => by unfold yA; omega), h23⟩, fun q => absurd (nI_le (by omega) (by omega)) q⟩
    have hql := lt_at hf
    rw [hlo _ (by omega)]
    rw [List.getElem?_eraseIdx] at hf
    by_cases e : q < i
    · rw [if_pos e] at hf
      rw [if_pos (by omega)]; exact y3 q f hf u hu
    · rw [if_neg e] at hf
      rw [if_neg (by omega), show 8 * q + u + 8 = 8 * (q + 1) + u by omega]; exact y3 (q + 1) f hf u hu
  | succ t ih =>
    intro j h3 ht hj1 hj s3 h0 h23 h27 hlo hhi
    have g3 := gM_J s3 X.1
    have j0 := nI_clamp (show j < 2 ^ 31 by omega)
    have j1 := nI_clamp (show j + 8 < 2 ^ 31 by omega)
    have v1 : vp_in (nI j) 192 := vp_in_nI (by omega) (by omega)
    have v2 : vp_in (nI (j + 8)) 192 := vp_in_nI (by omega) (by omega)
    have q1 : ¬ nI (8 * (n - 1)) ≤ nI j := nI_ge (by omega) (by omega)
    have i8 : (8 : Int32) * nI (n - 1) = nI (8 * (n - 1)) := by rw [show (8 : Int32) = nI 8 from rfl, pk_mul]
    have a8 : nI j + 8 = nI (j + 8) := by rw [show (8 : Int32) = nI 8 from rfl, nI_add]
    have nxt := ih (j + 1) (zwI h3 (m + 22) j (zI h3 (m + 22) (j + 8))) (by omega) (by omega) (by omega) (s3.tr (zJ.wI (Or.inr (Or.inl rfl)))) (fun k hk => by rw [zI_oa (by omega)]; exact h0 k hk) (fun k => by rw [zI_oa (by omega)]; exact h23 k) (by rw [zI_oa (by omega)]; exact h27) (fun q hq => by
      by_cases e : q = j
      · subst e; rw [zI_at, if_neg (by omega)]; exact hhi _ (by omega)
      · rw [zI_ok e]; exact hlo q (by omega)) (fun q hq => by rw [zI_ok (by omega)]; exact hhi q (by omega))
    refine r88_15 ?_
    obtain ⟨k0, ⟨r1, r2, r3, r4, r5, r6, r7, r8, r9, r10, r11, r12, r13, r14, r15, r16, r17, r18, r19, r20, r21, r22, r23⟩, ⟨k1, k2, k3, k4, k5, k6, k7, k8, k9, k10, k11, k12, k13, k14, k15, k16, k17, k18, k19, k20, k21, k22, k23⟩, ⟨l1, l2, l3, l4, l5, l6, l7, l8, l9, l10, l11, l12, l13, l14, l15, l16, l17, l18, l19, l20, l21, l22, l23⟩⟩ := g3
    simp only [k0, r1, r2, r3, r4, r5, r6, r7, r8, r9, r10, r11, r12, r13, r14, r15, r16, r17, r18, r19, r20, r21, r22, r23, k1, k2, k3, k4, k5, k6, k7, k8, k9, k10, k11, k12, k13, k14, k15, k16, k17, k18, k19, k20, k21, k22, k23, l1, l2, l3, l4, l5, l6, l7, l8, l9, l10, l11, l12, l13, l14, l15, l16, l17, l18, l19, l20, l21, l22, l23, true_and, true_or, or_true, forall_eq, h27, i8, a8, nI_1, j0, j1, v1, v2]
    exact ⟨fun q => absurd q q1, fun _ => nxt⟩
def rC (h : zH) (m w j : Nat) (c : Int32) : Prop := ∃ a b : Nat, a ≤ w ∧ b < 4 ∧ zI h (m + 6) j = nI a ∧ zI h (m + 7) j = nI b ∧ c = nI (4 * a + b)
theorem rC_mv {h h' : zH} {m w i j : Nat} {c : Int32} (e1 : zI h' (m + 6) i = zI h (m + 6) j) (e2 : zI h' (m + 7) i = zI h (m + 7) j) (r : rC h m w j c) : rC h' m w i c := by
  unfold rC; rw [e1, e2]; exact r
theorem c94 {d : Nat} {h : zH} {m w a b : Nat} {S : sS} {G : List (Nat × (Nat → Int32))} (hw : w ≤ 4) (ha : a ≤ 4) (hb : b < 4) (X : MH h m w S G) : zD (d + 2) 94 [.inr m, .inl (nI a), .inl (nI b)] h (fun r h' => r = none ∧ MH h' m w (stC S (sDrop (sC S) (nI (4 * a + b)))) G ∧ zJ (yA m) h h') := by
  obtain ⟨y1, y2, y3⟩ := X.c
  refine zD_of rfl (r94_0 ⟨X.1.1, _, c93 hw ha hb X, ?_⟩)
  rintro r _ ⟨rfl, rfl⟩
  obtain ⟨C, hC⟩ : ∃ C, sC S = C := ⟨_, rfl⟩
  rw [hC] at y1 y2 y3 ⊢
  cases hx : sFx (fun x => decide (x = nI (4 * a + b))) C 0 with
  | none =>
    have e0 : sIx (fun x => decide (x = nI (4 * a + b))) C 0 = -1 := by unfold sIx; rw [hx]
    rw [e0]
    refine r94_6 ⟨fun q => absurd q (by decide), fun _ => ⟨rfl, ?_, zJ.rf⟩⟩
    unfold sDrop; rw [hx, ← hC]; exact X
  | some k =>
    obtain ⟨x, hk, -⟩ := sFx_some hx
    have hkl := lt_at hk
    rw [sIx_pos hx]
    have hsd : sDrop C (nI (4 * a + b)) = C.eraseIdx k := by unfold sDrop; rw [hx]
    rw [hsd]
    have hel : (C.eraseIdx k).length = C.length - 1 := List.length_eraseIdx_of_lt hkl
    refine r94_6 ⟨fun _ => ⟨X.1.1, X.1.1, fun h1 e1 => ?_⟩, fun q => absurd (nI_pos' (by omega)) q⟩
    obtain ⟨n, hn⟩ : ∃ n, C.length = n := ⟨_, rfl⟩
    rw [hn] at y1 y2 hkl hel
    have s1 : zJ (fun q => q = m ∨ q = m + 6 ∨ q = m + 7) h h1 := by rw [e1]; exact zJ.wI (Or.inl rfl)
    suffices H : ∀ t j h3, n - 1 - j = t → k ≤ j → j ≤ n - 1 → zJ (fun q => q = m ∨ q = m + 6 ∨ q = m + 7) h h3 → (∀ i, i ≠ 8 → zI h3 m i = zI h m i) → zI h3 m 8 = nI (n - 1) → (∀ i y, i < j → (C.eraseIdx k)[i]? = some y → rC h3 m w i y) → (∀ i y, j ≤ i → C[i]? = some y → rC h3 m w i y) → zWp zm94 (zD (d + 1)) (fun r h' => r = none ∧ MH h' m w (stC S (C.eraseIdx k)) G ∧ zJ (yA m) h h') 0 0 25 [some (.inr m), some (.inl (nI a)), some (.inl (nI b)), some (.inl (nI k)), some (.inl (nI j))] [] h3 from
      H _ k h1 rfl (Nat.le_refl _) (by omega) s1 (fun i hi => by rw [e1, zI_ok hi]) (by rw [e1, zI_at, y2]; exact pk_sub (b := 1) (by omega)) (fun i y hi hy => by
        rw [List.getElem?_eraseIdx, if_pos hi] at hy
        exact rC_mv (by rw [e1, zI_oa (by omega)]) (by rw [e1, zI_oa (by omega)]) (y3 i y hy)) (fun i y _ hy => rC_mv (by rw [e1, zI_oa (by omega)]) (by rw [e1, zI_oa (by omega)]) (y3 i y hy))
    intro t
    induction t with
    | zero =>
      intro j h3 ht hk1 hj s3 h0 h8 hlo hhi
      refine r94_25 ?_
      have g3 := gM_J s3 X.1
      simp only [g3.1, h8, true_and]
      refine ⟨fun _ => ⟨X.C s3 h0 ⟨by omega, by rw [h8, hel], fun i y hy => hlo i y (by have := lt_at hy; omega) hy⟩, s3.wd (fun q hq => by unfold yA; omega)⟩, fun q => absurd (nI_le (by omega) (by omega)) q⟩
    | succ t ih =>
      intro j h3 ht hk1 hj s3 h0 h8 hlo hhi
      have g3 := gM_J s3 X.1
      have j0 := nI_clamp (show j < 2 ^ 31 by omega)
      have j1 := nI_clamp (show j + 1 < 2 ^ 31 by omega)
      have v1 : vp_in (nI j) 7 := vp_in_nI (by omega) (by omega)
      have v2 : vp_in (nI (j + 1)) 7 := vp_in_nI (by omega) (by omega)
      have q1 : ¬ nI (n - 1) ≤ nI j := nI_ge (by omega) (by omega)
      obtain ⟨z, hz⟩ := at_lt (show j + 1 < C.length by omega)
      have nxt := ih (j + 1) (zwI (zwI h3 (m + 6) j (zI h3 (m + 6) (j + 1))) (m + 7) j (zI h3 (m + 7) (j + 1))) (by omega) (by omega) (by omega) (s3.tr ((zJ.wI (Or.inr (Or.inl rfl))).tr (zJ.wI (Or.inr (Or.inr rfl))))) (fun i hi => by rw [zI_oa (by omega), zI_oa (by omega)]; exact h0 i hi) (by rw [zI_oa (by omega), zI_oa (by omega)]; exact h8) (fun i y hi hy => by
        by_cases e : i = j
        · subst e
          rw [List.getElem?_eraseIdx, if_neg (by omega), hz] at hy
          cases hy
          exact rC_mv (by rw [zI_oa (by omega), zI_at]) (by rw [zI_at]) (hhi (i + 1) z (by omega) hz)
        · exact rC_mv (by rw [zI_ok e, zI_ok e]) (by rw [zI_ok e, zI_ok e]) (hlo i y (by omega) hy)) (fun i y hi hy => rC_mv (by rw [zI_ok (by omega), zI_ok (by omega)]) (by rw [zI_ok (by omega), zI_ok (by omega)]) (hhi i y (by omega) hy))
      have x6_7 : ∀ (h : zH) (k i : Nat) (v : Int32), zI (zwI h (m + 6) k v) (m + 7) i = zI h (m + 7) i := fun _ _ _ _ => zI_oa (by omega)
      refine r94_25 ?_
      obtain ⟨k0, ⟨r1, r2, r3, r4, r5, r6, r7, r8, r9, r10, r11, r12, r13, r14, r15, r16, r17, r18, r19, r20, r21, r22, r23⟩, ⟨k1, k2, k3, k4, k5, k6, k7, k8, k9, k10, k11, k12, k13, k14, k15, k16, k17, k18, k19, k20, k21, k22, k23⟩, ⟨l1, l2, l3, l4, l5, l6, l7, l8, l9, l10, l11, l12, l13, l14, l15, l16, l17, l18, l19, l20, l21, l22, l23⟩⟩ := g3
      simp only [k0, r1, r2, r3, r4, r5, r6, r7, r8, r9, r10, r11, r12, r13, r14, r15, r16, r17, r18, r19, r20, r21, r22, r23, k1, k2, k3, k4, k5, k6, k7, k8, k9, k10, k11, k12, k13, k14, k15, k16, k17, k18, k19, k20, k21, k22, k23, l1, l2, l3, l4, l5, l6, l7, l8, l9, l10, l11, l12, l13, l14, l15, l16, l17, l18, l19, l20, l21, l22, l23, true_and, true_or, or_true, zK_wI, zL_wI, zR_wI, forall_eq, x6_7, h8, nI_1, j0, j1, v1, v2]
      exact ⟨fun q => absurd q q1, fun _ => nxt⟩
end
section
/-! ===== the reference's public questions ===== -/
/-- the heap holds the state at m -/
def MM (h : zH) (m w : Nat) (S : sS) : Prop := ∃ G, MH h m w S G ∧ LG w S G
theorem io1 {α : Type} {o : Option α} (h : (if o.isSome then (0 : Int32) else 1) = 0) : ∃ x, o = some x := by
  cases o with
  | none => exact absurd (show (1 : Int32) = 0 from h) (by decide)
  | some x => exact ⟨x, rfl⟩
theorem io0 {α : Type} {o : Option α} (h : ¬ (if o.isSome then (0 : Int32) else 1) = 0) : o = none := by
  cases o with
  | none => rfl
  | some x => exact absurd rfl h
theorem lx_neg {α : Type} {L : List α} {i : Int32} (h : i < 0) : lx L i = none := by unfold lx; rw [ix_neg h]
theorem lx_lt {α : Type} {L : List α} {i : Int32} (hl : L.length < 2 ^ 31) (h : ¬ i < 0) (h2 : i < nI L.length) : ∃ k x, lx L i = some (k, x) ∧ i = nI k ∧ L[k]? = some x := by
  obtain ⟨k, hk, rfl⟩ := nI_of h
  rw [nI_ltI hk hl] at h2
  obtain ⟨x, hx⟩ := at_lt h2
  exact ⟨k, x, lx_nI (by omega) hx, rfl, hx⟩
theorem lx_ge {α : Type} {L : List α} {i : Int32} (hl : L.length < 2 ^ 31) (h : ¬ i < 0) (h2 : ¬ i < nI L.length) : lx L i = none := by
  obtain ⟨k, hk, rfl⟩ := nI_of h
  rw [nI_ltI hk hl] at h2
  unfold lx; rw [ix_ge (by omega) hk]
theorem i32_nle {a b : Int32} : ¬ a ≤ b ↔ b < a := Int32.not_le
theorem i32_nlt {a b : Int32} : ¬ a < b ↔ b ≤ a := Int32.not_lt
theorem c102 {d : Nat} {h : zH} {m w : Nat} {S : sS} {i : Int32} (X : MM h m w S) : zD (d + 2) 102 [.inr m, .inl i] h (fun r h' => r = some (.inl (oLose S i).1) ∧ MM h' m w (oLose S i).2 ∧ zJ (yA m) h h') := by
  obtain ⟨G, X, L⟩ := X
  obtain ⟨y1, y2, y3⟩ := X.f
  refine zD_of rfl (r102_0 ⟨fun q => ?_, fun q => ⟨X.1.1, ?_⟩⟩)
  · unfold oLose; rw [lx_neg q]; exact ⟨Or.inl rfl, rfl, ⟨G, X, L⟩, zJ.rf⟩
  rw [y2]
  refine ⟨fun q2 => ?_, fun q2 => ?_⟩
  · obtain ⟨k, f, hx, rfl, hf⟩ := lx_lt (by omega) q q2
    unfold oLose; rw [hx]
    refine ⟨X.1.1, _, c88 X (lt_at hf), ?_⟩
    rintro r h1 ⟨rfl, X1, s1, -⟩
    exact r102_19 ⟨Or.inr rfl, rfl, ⟨G, X1, L⟩, s1⟩
  · unfold oLose; rw [lx_ge (by omega) q q2]; exact ⟨Or.inl rfl, rfl, ⟨G, X, L⟩, zJ.rf⟩
theorem c104 {d : Nat} {h : zH} {m w : Nat} {S : sS} (X : MM h m w S) : zD (d + 1) 104 [.inr m] h (fun r h' => r = some (.inl (nI (sF S).length)) ∧ MM h' m w S ∧ zJ (yA m) h h') := by
  obtain ⟨G, X, L⟩ := X
  exact zD_of rfl (r104_0 ⟨X.1.1, by rw [X.f.2.1], ⟨G, X, L⟩, zJ.rf⟩)
theorem sPart_out {f : Nat → Int32} {j : Int32} (h : ix 8 j = none) : sPart f j = -9 := by
  unfold sPart
  rw [if_neg (show ¬ j = 0 from ix_none (by decide) h (n := 0) (by decide)), if_neg (show ¬ j = 1 from ix_none (by decide) h (n := 1) (by decide)), if_neg (show ¬ j = 2 from ix_none (by decide) h (n := 2) (by decide)), if_neg (show ¬ j = 3 from ix_none (by decide) h (n := 3) (by decide)), if_neg (show ¬ j = 4 from ix_none (by decide) h (n := 4) (by decide)), if_neg (show ¬ j = 5 from ix_none (by decide) h (n := 5) (by decide)), if_neg (show ¬ j = 6 from ix_none (by decide) h (n := 6) (by decide)), if_neg (show ¬ j = 7 from ix_none (by decide) h (n := 7) (by decide))]
theorem e8x (a b : Nat) : (8 : Int32) * nI a + nI b = nI (8 * a + b) := by rw [show (8 : Int32) = nI 8 from rfl, pk_mul, nI_add]
theorem e2x (a b : Nat) : (2 : Int32) * nI a + nI b = nI (2 * a + b) := by rw [show (2 : Int32) = nI 2 from rfl, pk_mul, nI_add]
theorem c105 {d : Nat} {h : zH} {m w : Nat} {S : sS} {i j : Int32} (X : MM h m w S) : zD (d + 2) 105 [.inr m, .inl i, .inl j] h (fun r h' => r = some (.inl (oDgram S i j)) ∧ MM h' m w S ∧ zJ (yA m) h h') := by
  obtain ⟨G, X, L⟩ := X
  obtain ⟨y1, y2, y3⟩ := X.f
  refine zD_of rfl (r105_0 ⟨fun q => ?_, fun q => ⟨X.1.1, ?_⟩⟩)
  · unfold oDgram; rw [lx_neg q]; exact ⟨rfl, ⟨G, X, L⟩, zJ.rf⟩
  rw [y2]
  refine ⟨fun q2 => ?_, fun q2 => ⟨_, c75 (n := 7) (by decide), ?_⟩⟩
  · unfold oDgram; rw [lx_ge (by omega) q (by rw [i32_nlt]; exact q2)]; exact ⟨rfl, ⟨G, X, L⟩, zJ.rf⟩
  obtain ⟨k, f, hx, rfl, hf⟩ := lx_lt (by omega) q (i32_nle.mp q2)
  have hk := lt_at hf
  unfold oDgram; rw [hx]
  rintro r _ ⟨rfl, rfl⟩
  refine r105_19 ⟨fun q3 => ?_, fun q3 => ?_⟩
  rotate_left
  · show some (Sum.inl (-9)) = some (Sum.inl (sPart f j)) ∧ _
    rw [sPart_out (io0 q3)]; exact ⟨rfl, ⟨G, X, L⟩, zJ.rf⟩
  obtain ⟨u, hu⟩ := io1 q3
  obtain ⟨hu8, rfl⟩ := ix_some hu
  have j0 := nI_clamp (show 8 * k + u < 2 ^ 31 by omega)
  have v1 : vp_in (nI (8 * k + u)) 192 := vp_in_nI (by omega) (by omega)
  obtain ⟨k0, ⟨r1, r2, r3, r4, r5, r6, r7, r8, r9, r10, r11, r12, r13, r14, r15, r16, r17, r18, r19, r20, r21, r22, r23⟩, ⟨k1, k2, k3, k4, k5, k6, k7, k8, k9, k10, k11, k12, k13, k14, k15, k16, k17, k18, k19, k20, k21, k22, k23⟩, ⟨l1, l2, l3, l4, l5, l6, l7, l8, l9, l10, l11, l12, l13, l14, l15, l16, l17, l18, l19, l20, l21, l22, l23⟩⟩ := X.1
  simp only [k0, r1, r2, r3, r4, r5, r6, r7, r8, r9, r10, r11, r12, r13, r14, r15, r16, r17, r18, r19, r20, r21, r22, r23, k1, k2, k3, k4, k5, k6, k7, k8, k9, k10, k11, k12, k13, k14, k15, k16, k17, k18, k19, k20, k21, k22, k23, l1, l2, l3, l4, l5, l6, l7, l8, l9, l10, l11, l12, l13, l14, l15, l16, l17, l18, l19, l20, l21, l22, l23, true_and, true_or, or_true, e8x, j0, v1, y3 k f hf u hu8]
  exact ⟨⟨G, X, L⟩, zJ.rf⟩
theorem c108 {d : Nat} {h : zH} {m w : Nat} {S : sS} {v s : Int32} (hw : w ≤ 4) (X : MM h m w S) : zD (d + 3) 108 [.inr m, .inl v, .inl s] h (fun r h' => r = some (.inl (oHolds w S v s)) ∧ MM h' m w S ∧ zJ (yA m) h h') := by
  obtain ⟨G, X, L⟩ := X
  refine zD_of rfl (r108_0 ⟨X.1.1, _, c76 hw X, ?_⟩)
  rintro r _ ⟨rfl, rfl⟩
  refine r108_5 ⟨fun q => ?_, fun q => ⟨_, c75 (n := 3) (by decide), ?_⟩⟩
  · unfold oHolds; rw [is0 q]; exact ⟨Or.inl rfl, rfl, ⟨G, X, L⟩, zJ.rf⟩
  obtain ⟨a, ha⟩ := is1 q
  obtain ⟨a1', a2', rfl⟩ := iv_some ha
  rintro r _ ⟨rfl, rfl⟩
  refine r108_14 ⟨fun q => ?_, fun q => ?_⟩
  · unfold oHolds; rw [ha, io0 q]; exact ⟨Or.inl rfl, rfl, ⟨G, X, L⟩, zJ.rf⟩
  obtain ⟨b, hb⟩ := io1 q
  obtain ⟨hb4, rfl⟩ := ix_some hb
  have j0 := nI_clamp (show 4 * a + b < 2 ^ 31 by omega)
  have v1 : vp_in (nI (4 * a + b)) 20 := vp_in_nI (by omega) (by omega)
  have he := X.he (show 4 * a + b < 4 * (w + 1) by omega)
  unfold oHolds; rw [ha, hb]
  obtain ⟨k0, ⟨r1, r2, r3, r4, r5, r6, r7, r8, r9, r10, r11, r12, r13, r14, r15, r16, r17, r18, r19, r20, r21, r22, r23⟩, ⟨k1, k2, k3, k4, k5, k6, k7, k8, k9, k10, k11, k12, k13, k14, k15, k16, k17, k18, k19, k20, k21, k22, k23⟩, ⟨l1, l2, l3, l4, l5, l6, l7, l8, l9, l10, l11, l12, l13, l14, l15, l16, l17, l18, l19, l20, l21, l22, l23⟩⟩ := X.1
  simp only [k0, r1, r2, r3, r4, r5, r6, r7, r8, r9, r10, r11, r12, r13, r14, r15, r16, r17, r18, r19, r20, r21, r22, r23, k1, k2, k3, k4, k5, k6, k7, k8, k9, k10, k11, k12, k13, k14, k15, k16, k17, k18, k19, k20, k21, k22, k23, l1, l2, l3, l4, l5, l6, l7, l8, l9, l10, l11, l12, l13, l14, l15, l16, l17, l18, l19, l20, l21, l22, l23, true_and, true_or, or_true, e4x, j0, v1, he]
  exact ⟨fun q => ⟨by rw [if_pos q], ⟨G, X, L⟩, zJ.rf⟩, fun q => ⟨by rw [if_neg q], ⟨G, X, L⟩, zJ.rf⟩⟩
theorem c109 {d : Nat} {h : zH} {m w : Nat} {S : sS} {s : Int32} (X : MM h m w S) : zD (d + 2) 109 [.inr m, .inl s] h (fun r h' => r = some (.inl (oLoc S s)) ∧ MM h' m w S ∧ zJ (yA m) h h') := by
  obtain ⟨G, X, L⟩ := X
  refine zD_of rfl (r109_0 ⟨_, c75 (n := 3) (by decide), ?_⟩)
  rintro r _ ⟨rfl, rfl⟩
  refine r109_6 ⟨fun q => ?_, fun q => ?_⟩
  rotate_left
  · unfold oLoc; rw [io0 q]; exact ⟨rfl, ⟨G, X, L⟩, zJ.rf⟩
  obtain ⟨b, hb⟩ := io1 q
  obtain ⟨hb4, rfl⟩ := ix_some hb
  have j0 := nI_clamp (show b < 2 ^ 31 by omega)
  have v1 : vp_in (nI b) 4 := vp_in_nI (by omega) (by omega)
  unfold oLoc; rw [hb]
  have lo := X.lo hb4
  obtain ⟨k0, ⟨r1, r2, r3, r4, r5, r6, r7, r8, r9, r10, r11, r12, r13, r14, r15, r16, r17, r18, r19, r20, r21, r22, r23⟩, ⟨k1, k2, k3, k4, k5, k6, k7, k8, k9, k10, k11, k12, k13, k14, k15, k16, k17, k18, k19, k20, k21, k22, k23⟩, ⟨l1, l2, l3, l4, l5, l6, l7, l8, l9, l10, l11, l12, l13, l14, l15, l16, l17, l18, l19, l20, l21, l22, l23⟩⟩ := X.1
  simp only [k0, r1, r2, r3, r4, r5, r6, r7, r8, r9, r10, r11, r12, r13, r14, r15, r16, r17, r18, r19, r20, r21, r22, r23, k1, k2, k3, k4, k5, k6, k7, k8, k9, k10, k11, k12, k13, k14, k15, k16, k17, k18, k19, k20, k21, k22, k23, l1, l2, l3, l4, l5, l6, l7, l8, l9, l10, l11, l12, l13, l14, l15, l16, l17, l18, l19, l20, l21, l22, l23, true_and, true_or, or_true, j0, v1, lo]
  exact ⟨⟨G, X, L⟩, zJ.rf⟩
theorem c110 {d : Nat} {h : zH} {m w : Nat} {S : sS} {v s : Int32} (hw : w ≤ 4) (X : MM h m w S) : zD (d + 3) 110 [.inr m, .inl v, .inl s] h (fun r h' => r = some (.inl (oReg w S v s)) ∧ MM h' m w S ∧ zJ (yA m) h h') := by
  obtain ⟨G, X, L⟩ := X
  refine zD_of rfl (r110_0 ⟨X.1.1, _, c76 hw X, ?_⟩)
  rintro r _ ⟨rfl, rfl⟩
  refine r110_5 ⟨fun q => ?_, fun q => ⟨_, c75 (n := 3) (by decide), ?_⟩⟩
  · unfold oReg; rw [is0 q]; exact ⟨rfl, ⟨G, X, L⟩, zJ.rf⟩
  obtain ⟨a, ha⟩ := is1 q
  obtain ⟨a1', a2', rfl⟩ := iv_some ha
  rintro r _ ⟨rfl, rfl⟩
  refine r110_14 ⟨fun q => ?_, fun q => ?_⟩
  rotate_left
  · unfold oReg; rw [ha, io0 q]; exact ⟨rfl, ⟨G, X, L⟩, zJ.rf⟩
  obtain ⟨b, hb⟩ := io1 q
  obtain ⟨hb4, rfl⟩ := ix_some hb
  have j0 := nI_clamp (show 4 * a + b < 2 ^ 31 by omega)
  have v1 : vp_in (nI (4 * a + b)) 20 := vp_in_nI (by omega) (by omega)
  have st := X.st (show 4 * a + b < 4 * (w + 1) by omega)
  unfold oReg; rw [ha, hb]
  obtain ⟨k0, ⟨r1, r2, r3, r4, r5, r6, r7, r8, r9, r10, r11, r12, r13, r14, r15, r16, r17, r18, r19, r20, r21, r22, r23⟩, ⟨k1, k2, k3, k4, k5, k6, k7, k8, k9, k10, k11, k12, k13, k14, k15, k16, k17, k18, k19, k20, k21, k22, k23⟩, ⟨l1, l2, l3, l4, l5, l6, l7, l8, l9, l10, l11, l12, l13, l14, l15, l16, l17, l18, l19, l20, l21, l22, l23⟩⟩ := X.1
  simp only [k0, r1, r2, r3, r4, r5, r6, r7, r8, r9, r10, r11, r12, r13, r14, r15, r16, r17, r18, r19, r20, r21, r22, r23, k1, k2, k3, k4, k5, k6, k7, k8, k9, k10, k11, k12, k13, k14, k15, k16, k17, k18, k19, k20, k21, k22, k23, l1, l2, l3, l4, l5, l6, l7, l8, l9, l10, l11, l12, l13, l14, l15, l16, l17, l18, l19, l20, l21, l22, l23, true_and, true_or, or_true, e4x, j0, v1, st]
  exact ⟨⟨G, X, L⟩, zJ.rf⟩
theorem c111 {d : Nat} {h : zH} {m w : Nat} {S : sS} {v : Int32} (hw : w ≤ 4) (X : MM h m w S) : zD (d + 2) 111 [.inr m, .inl v] h (fun r h' => r = some (.inl (oDlgs w S v)) ∧ MM h' m w S ∧ zJ (yA m) h h') := by
  obtain ⟨G, X, L⟩ := X
  refine zD_of rfl (r111_0 ?_)
  rw [X.2.1]
  refine ⟨X.1.1, _, c75 (n := w) (by omega), ?_⟩
  rintro r _ ⟨rfl, rfl⟩
  refine r111_9 ⟨fun q => ?_, fun q => r111_22 ?_⟩
  rotate_left
  · unfold oDlgs; rw [io0 q]; exact ⟨rfl, ⟨G, X, L⟩, zJ.rf⟩
  obtain ⟨b, hb⟩ := io1 q
  obtain ⟨hb4, rfl⟩ := ix_some hb
  refine ⟨X.1.1, _, c81 hw (by omega) L.1 X, ?_⟩
  rintro r _ ⟨rfl, rfl⟩
  refine r111_22 ?_
  unfold oDlgs; rw [hb]
  exact ⟨by rw [← L.2 b (by omega)], ⟨G, X, L⟩, zJ.rf⟩
theorem c113 {d : Nat} {h : zH} {m w : Nat} {S : sS} {i : Int32} (X : MM h m w S) : zD (d + 1) 113 [.inr m, .inl i] h (fun r h' => r = some (.inl (oCanc S i)) ∧ MM h' m w S ∧ zJ (yA m) h h') := by
  obtain ⟨G, X, L⟩ := X
  obtain ⟨y1, y2, y3⟩ := X.c
  refine zD_of rfl (r113_0 ⟨fun q => ?_, fun q => ⟨X.1.1, ?_⟩⟩)
  · unfold oCanc; rw [lx_neg q]; exact ⟨rfl, ⟨G, X, L⟩, zJ.rf⟩
  rw [y2]
  refine ⟨fun q2 => ?_, fun q2 => ?_⟩
  rotate_left
  · unfold oCanc; rw [lx_ge (by omega) q q2]; exact ⟨rfl, ⟨G, X, L⟩, zJ.rf⟩
  obtain ⟨k, f, hx, rfl, hf⟩ := lx_lt (by omega) q q2
  have hk := lt_at hf
  unfold oCanc; rw [hx]
  obtain ⟨a, b, ha, hb, e6, e7, e⟩ := y3 k f hf
  have j0 := nI_clamp (show k < 2 ^ 31 by omega)
  have v1 : vp_in (nI k) 7 := vp_in_nI (by omega) (by omega)
  obtain ⟨k0, ⟨r1, r2, r3, r4, r5, r6, r7, r8, r9, r10, r11, r12, r13, r14, r15, r16, r17, r18, r19, r20, r21, r22, r23⟩, ⟨k1, k2, k3, k4, k5, k6, k7, k8, k9, k10, k11, k12, k13, k14, k15, k16, k17, k18, k19, k20, k21, k22, k23⟩, ⟨l1, l2, l3, l4, l5, l6, l7, l8, l9, l10, l11, l12, l13, l14, l15, l16, l17, l18, l19, l20, l21, l22, l23⟩⟩ := X.1
  simp only [k0, r1, r2, r3, r4, r5, r6, r7, r8, r9, r10, r11, r12, r13, r14, r15, r16, r17, r18, r19, r20, r21, r22, r23, k1, k2, k3, k4, k5, k6, k7, k8, k9, k10, k11, k12, k13, k14, k15, k16, k17, k18, k19, k20, k21, k22, k23, l1, l2, l3, l4, l5, l6, l7, l8, l9, l10, l11, l12, l13, l14, l15, l16, l17, l18, l19, l20, l21, l22, l23, true_and, true_or, or_true, j0, v1, e6, e7, e4x, e]
  exact ⟨⟨G, X, L⟩, zJ.rf⟩
theorem c114 {d : Nat} {h : zH} {m w : Nat} {S : sS} {r : Int32} (hw : w ≤ 4) (X : MM h m w S) : zD (d + 3) 114 [.inr m, .inl r] h (fun v h' => v = some (.inl (oCall w S r).1) ∧ MM h' m w (oCall w S r).2 ∧ zJ (yA m) h h') := by
  obtain ⟨G, X, L⟩ := X
  have ec : r / 100 * 100 = 100 * (r / 100) := Int32.mul_comm _ _
  refine zD_of rfl (r114_0 ⟨by decide, X.1.1, _, c76 hw X, ?_⟩)
  rintro v _ ⟨rfl, rfl⟩
  refine r114_17 ⟨fun q => ?_, fun q => ⟨_, c75 (n := 1) (by decide), ?_⟩⟩
  · unfold oCall; rw [is0 q]; exact ⟨rfl, ⟨G, X, L⟩, zJ.rf⟩
  obtain ⟨a, ha⟩ := is1 q
  obtain ⟨a1', a2', e⟩ := iv_some ha
  rintro v _ ⟨rfl, rfl⟩
  unfold oCall; rw [ha, ec]
  refine r114_26 ⟨fun q => ?_, fun q => ?_⟩
  rotate_left
  · rw [io0 q]; exact ⟨rfl, ⟨G, X, L⟩, zJ.rf⟩
  obtain ⟨b, hb⟩ := io1 q
  obtain ⟨hb4, e2⟩ := ix_some hb
  have hb4 : b < 2 := hb4
  rw [show ix 2 (r - 100 * (r / 100)) = some b from hb]
  have j0 := nI_clamp (show 2 * a + b < 2 ^ 31 by omega)
  have v1 : vp_in (nI (2 * a + b)) 10 := vp_in_nI (by omega) (by omega)
  have ou := (X.ou (show 2 * a + b < 10 by omega)).1
  rw [e2, e]
  obtain ⟨k0, ⟨r1, r2, r3, r4, r5, r6, r7, r8, r9, r10, r11, r12, r13, r14, r15, r16, r17, r18, r19, r20, r21, r22, r23⟩, ⟨k1, k2, k3, k4, k5, k6, k7, k8, k9, k10, k11, k12, k13, k14, k15, k16, k17, k18, k19, k20, k21, k22, k23⟩, ⟨l1, l2, l3, l4, l5, l6, l7, l8, l9, l10, l11, l12, l13, l14, l15, l16, l17, l18, l19, l20, l21, l22, l23⟩⟩ := X.1
  simp only [k0, r1, r2, r3, r4, r5, r6, r7, r8, r9, r10, r11, r12, r13, r14, r15, r16, r17, r18, r19, r20, r21, r22, r23, k1, k2, k3, k4, k5, k6, k7, k8, k9, k10, k11, k12, k13, k14, k15, k16, k17, k18, k19, k20, k21, k22, k23, l1, l2, l3, l4, l5, l6, l7, l8, l9, l10, l11, l12, l13, l14, l15, l16, l17, l18, l19, l20, l21, l22, l23, true_and, true_or, or_true, forall_eq, e2x, j0, v1, ou]
  exact ⟨⟨G, X.wO, L⟩, zJ.wI (by unfold yA; omega)⟩
theorem c78 {d : Nat} {h : zH} {m w : Nat} {S : sS} {s n : Int32} (X : MM h m w S) : zD (d + 2) 78 [.inr m, .inl s, .inl n] h (fun r h' => r = some (.inl (oDigits S s n).1) ∧ MM h' m w (oDigits S s n).2 ∧ zJ (yA m) h h') := by
  obtain ⟨G, X, L⟩ := X
  refine zD_of rfl (r78_0 ⟨_, c75 (n := 3) (by decide), ?_⟩)
  rintro r _ ⟨rfl, rfl⟩
  refine r78_6 ⟨fun q => ?_, fun q => ⟨_, c75 (n := 99999) (by decide), ?_⟩⟩
  · unfold oDigits; rw [io0 q]; exact ⟨Or.inl rfl, rfl, ⟨G, X, L⟩, zJ.rf⟩
  obtain ⟨a, ha⟩ := io1 q
  obtain ⟨ha4, rfl⟩ := ix_some ha
  rintro r _ ⟨rfl, rfl⟩
  unfold oDigits; rw [ha]
  refine r78_16 ⟨fun q => ?_, fun q => ?_⟩
  rotate_left
  · rw [io0 q]; exact ⟨Or.inl rfl, rfl, ⟨G, X, L⟩, zJ.rf⟩
  obtain ⟨b, hb⟩ := io1 q
  rw [show ix 100000 n = some b from hb]
  have j0 := nI_clamp (show a < 2 ^ 31 by omega)
  have v1 : vp_in (nI a) 4 := vp_in_nI (by omega) (by omega)
  obtain ⟨k0, ⟨r1, r2, r3, r4, r5, r6, r7, r8, r9, r10, r11, r12, r13, r14, r15, r16, r17, r18, r19, r20, r21, r22, r23⟩, ⟨k1, k2, k3, k4, k5, k6, k7, k8, k9, k10, k11, k12, k13, k14, k15, k16, k17, k18, k19, k20, k21, k22, k23⟩, ⟨l1, l2, l3, l4, l5, l6, l7, l8, l9, l10, l11, l12, l13, l14, l15, l16, l17, l18, l19, l20, l21, l22, l23⟩⟩ := X.1
  simp only [k0, r1, r2, r3, r4, r5, r6, r7, r8, r9, r10, r11, r12, r13, r14, r15, r16, r17, r18, r19, r20, r21, r22, r23, k1, k2, k3, k4, k5, k6, k7, k8, k9, k10, k11, k12, k13, k14, k15, k16, k17, k18, k19, k20, k21, k22, k23, l1, l2, l3, l4, l5, l6, l7, l8, l9, l10, l11, l12, l13, l14, l15, l16, l17, l18, l19, l20, l21, l22, l23, true_and, true_or, or_true, forall_eq, j0, v1]
  exact ⟨⟨G, X.wdg, L⟩, zJ.wI (by unfold yA; omega)⟩
end
section
/-! ===== the reference: title, appear, ask, answer, copy, dialogue ===== -/
theorem LG.beg {w v : Nat} {S : sS} {G : List (Nat × (Nat → Int32))} {kd ot su dl an : Int32} (L : LG w S G) (hv : v ≤ w) : LG w (oBegin S v kd ot su dl an) (G ++ [(v, sRow [sL S v + 1, kd, ot, su, dl, an])]) := by
  refine ⟨fun p hp => ?_, fun u hu => ?_⟩
  · rcases List.mem_append.mp hp with h | h
    · exact L.1 p h
    · have h := List.mem_singleton.mp h
      rw [h]; exact hv
  · show updD (sD S) v (sD S v ++ [sRow [sL S v + 1, kd, ot, su, dl, an]]) u = _
    rw [flt_app]
    by_cases e : v = u
    · subst e; rw [updD_at, if_pos rfl, L.2 v hv]
    · rw [updD_ne (fun z => e z.symm), if_neg e, L.2 u hu]
theorem LG.er {w v d : Nat} {S : sS} {G : List (Nat × (Nat → Int32))} {g : Nat → Int32} (L : LG w S G) (hd : G[d]? = some (v, g)) : LG w (oEnd S v (rk v G d)) (G.eraseIdx d) := by
  have hv : v ≤ w := L.1 _ (List.mem_of_getElem? hd)
  refine ⟨fun p hp => L.1 p (List.mem_of_mem_eraseIdx hp), fun u hu => ?_⟩
  show updD (sD S) v ((sD S v).eraseIdx (rk v G d)) u = _
  by_cases e : u = v
  · subst e; rw [updD_at, flt_er hd, L.2 u hu]
  · rw [updD_ne e, flt_ero (fun z => e z.symm) hd, L.2 u hu]
theorem LG.dead {w v d : Nat} {S : sS} {G : List (Nat × (Nat → Int32))} {g : Nat → Int32} {x : Int32} (L : LG w S G) (hd : G[d]? = some (v, g)) : LG w (oDead S v (rk v G d) g x) (G.set d (v, upd g 4 x)) := by
  have hv : v ≤ w := L.1 _ (List.mem_of_getElem? hd)
  refine ⟨fun p hp => ?_, fun u hu => ?_⟩
  · rcases List.mem_or_eq_of_mem_set hp with h | h
    · exact L.1 p h
    · rw [h]; exact hv
  · show updD (sD S) v ((sD S v).set (rk v G d) (upd g 4 x)) u = _
    by_cases e : u = v
    · subst e; rw [updD_at, flt_set hd, L.2 u hu]
    · rw [updD_ne e, flt_seto (fun z => e z.symm) hd, L.2 u hu]
/-- the lists keep to their room -/
def okL (w : Nat) (S : sS) : Prop := ∀ v, v ≤ w → (sD S v).length ≤ nC v
theorem flt_over {w v : Nat} {G : List (Nat × (Nat → Int32))} (h : ∀ p ∈ G, p.1 ≤ w) (hv : w < v) : (flt v G).length = 0 := by
  unfold flt
  rw [List.filter_eq_nil_iff.mpr (fun p hp => by have := h p hp; simp; omega)]; rfl
theorem LG.le {w v : Nat} {S : sS} {G : List (Nat × (Nat → Int32))} (L : LG w S G) (ok : okL w S) : (flt v G).length ≤ nC v := by
  by_cases h : v ≤ w
  · rw [← L.2 v h]; exact ok v h
  · rw [flt_over L.1 (by omega)]; exact Nat.zero_le _
theorem LG.lt {w v : Nat} {S : sS} {G : List (Nat × (Nat → Int32))} (hw : w ≤ 4) (L : LG w S G) (ok : okL w S) (hv : v ≤ w) (hlt : (sD S v).length < nC v) : G.length < 12 := by
  have h := flt_len G L.1 hw
  have h0 := L.le (v := 0) ok
  have h1 := L.le (v := 1) ok
  have h2 := L.le (v := 2) ok
  have h3 := L.le (v := 3) ok
  have h4 := L.le (v := 4) ok
  rw [L.2 v hv] at hlt
  have n0 : nC 0 = 4 := rfl
  have n1 : nC 1 = 2 := rfl
  have n2 : nC 2 = 2 := rfl
  have n3 : nC 3 = 2 := rfl
  have n4 : nC 4 = 2 := rfl
  have : v = 0 ∨ v = 1 ∨ v = 2 ∨ v = 3 ∨ v = 4 := by omega
  rcases this with rfl | rfl | rfl | rfl | rfl <;> omega
theorem LG.fx {w v : Nat} {S : sS} {G : List (Nat × (Nat → Int32))} {P : (Nat → Int32) → Bool} (L : LG w S G) (hv : v ≤ w) : sFx P (sD S v) 0 = (sFx (fun p => decide (p.1 = v) && P p.2) G 0).map (fun d => rk v G d) := by
  rw [L.2 v hv]; exact flt_fx G
theorem sIx_lt0 {α : Type} {P : α → Bool} {L : List α} (hl : L.length < 2 ^ 31) : (sIx P L 0 < 0) = (sFx P L 0 = none) := by
  unfold sIx
  cases hf : sFx P L 0 with
  | none => simp
  | some k =>
    obtain ⟨x, hx, -⟩ := sFx_some hf
    have hk := lt_at hx
    refine propext ⟨fun e => absurd e (nI_pos (by omega)), fun e => by cases e⟩
theorem LG.some {w v d : Nat} {S : sS} {G : List (Nat × (Nat → Int32))} {P : (Nat → Int32) → Bool} (L : LG w S G) (hv : v ≤ w) (h : sFx (fun p => decide (p.1 = v) && P p.2) G 0 = some d) : ∃ g, G[d]? = some (v, g) ∧ P g = true ∧ sFx P (sD S v) 0 = some (rk v G d) ∧ (sD S v)[rk v G d]? = some g := by
  obtain ⟨⟨u, g⟩, hx, hp0, -⟩ := sFx_some h
  have hp : (decide (u = v) && P g) = true := hp0
  rw [Bool.and_eq_true, decide_eq_true_eq] at hp
  obtain ⟨rfl, hp1⟩ := hp
  refine ⟨g, hx, hp1, by rw [L.fx hv, h]; rfl, ?_⟩
  rw [L.2 u hv]; exact flt_at hx
theorem LG.none {w v : Nat} {S : sS} {G : List (Nat × (Nat → Int32))} {P : (Nat → Int32) → Bool} (L : LG w S G) (hv : v ≤ w) (h : sFx (fun p => decide (p.1 = v) && P p.2) G 0 = none) : sFx P (sD S v) 0 = none := by rw [L.fx hv, h]; rfl
theorem MH.gl {h : zH} {m w : Nat} {S : sS} {G : List (Nat × (Nat → Int32))} (X : MH h m w S G) : G.length < 2 ^ 31 := by have := X.gg.1; omega
theorem c89 {d : Nat} {h : zH} {m w : Nat} {S : sS} {v s : Int32} (hw : w ≤ 4) (X : MM h m w S) (ok : okT (sT S)) (ol : okL w S) : zD (d + 3) 89 [.inr m, .inl v, .inl s] h (fun r h' => r = some (.inl (oAppear w S v s).1) ∧ MM h' m w (oAppear w S v s).2 ∧ zJ (yA m) h h') := by
  obtain ⟨G, X, L⟩ := X
  have hgl := X.gl
  refine zD_of rfl (r89_0 ⟨X.1.1, _, c76 hw X, ?_⟩)
  rintro r _ ⟨rfl, rfl⟩
  refine r89_5 ⟨fun q => ?_, fun q => ⟨_, c75 (n := 3) (by decide), ?_⟩⟩
  · unfold oAppear; rw [is0 q]; exact ⟨rfl, ⟨G, X, L⟩, zJ.rf⟩
  obtain ⟨a, ha⟩ := is1 q
  obtain ⟨a1', a2', rfl⟩ := iv_some ha
  rintro r _ ⟨rfl, rfl⟩
  unfold oAppear; rw [ha]
  refine r89_14 ⟨fun q => ?_, fun q => ?_⟩
  rotate_left
  · rw [io0 q]; exact ⟨rfl, ⟨G, X, L⟩, zJ.rf⟩
  obtain ⟨b, hb⟩ := io1 q
  obtain ⟨hb4, rfl⟩ := ix_some hb
  rw [show ix 4 (nI b) = some b from hb]
  refine ⟨X.1.1, _, c81 hw (by omega) L.1 X, ?_⟩
  rintro r _ ⟨rfl, rfl⟩
  have hle := L.le (v := a) ol
  rw [nC_pos a1'] at hle
  have e2 : (nI (flt a G).length = 2) ↔ (sD S a).length = 2 := by rw [L.2 a a2']; exact nI_eq (b := 2) (by omega) (by decide)
  refine r89_25 ⟨fun q => ?_, fun q => ⟨X.1.1, _, c83 hw (by omega) L.1 X, ?_⟩⟩
  · show some (Sum.inl (-8)) = some (Sum.inl (if _ then _ else _ : Int32 × sS).1) ∧ MM _ m w (if _ then _ else _ : Int32 × sS).2 ∧ _
    rw [if_pos (Or.inl (e2.mp q))]; exact ⟨rfl, ⟨G, X, L⟩, zJ.rf⟩
  rintro r _ ⟨rfl, rfl⟩
  rw [show (0 : Int32) + 1 = 1 from rfl]
  cases hx : sFx (pAb a 1 0 (nI b)) G 0 with
  | some k =>
    obtain ⟨g, -, -, hy, -⟩ := L.some (P := pFind 1 0 (nI b)) a2' hx
    refine r89_37 ⟨fun q => ?_, fun q => ?_⟩
    · rw [sIx_lt0 hgl, hx] at q; cases q
    · show some (Sum.inl (-8)) = some (Sum.inl (if _ then _ else _ : Int32 × sS).1) ∧ MM _ m w (if _ then _ else _ : Int32 × sS).2 ∧ _
      rw [if_pos (Or.inr (by rw [hy]; rfl))]; exact ⟨rfl, ⟨G, X, L⟩, zJ.rf⟩
  | none =>
    have hy := L.none (P := pFind 1 0 (nI b)) a2' hx
    have hc : ¬ ((sD S a).length = 2 ∨ (sFx (pFind 1 0 (nI b)) (sD S a) 0).isSome = true) := by rw [hy]; rintro (z | z); exact q (e2.mpr z); cases z
    refine r89_37 ⟨fun _ => ⟨X.1.1, _, c80 hb4 X ok, ?_⟩, fun q => absurd (by rw [sIx_lt0 hgl, hx]) q⟩
    rintro r _ ⟨rfl, rfl⟩
    refine r89_48 ⟨fun q2 => ⟨X.1.1, _, c84 hw a2' (L.lt hw ol a2' (by rw [nC_pos a1']; have := (show ¬ (sD S a).length = 2 from fun z => hc (Or.inl z)); rw [← L.2 a a2'] at hle; omega)) X, ?_⟩, fun q2 => ?_⟩
    · rintro r h1 ⟨rfl, X1, s1⟩
      have j0 := nI_clamp (show 4 * a + b < 2 ^ 31 by omega)
      have v1 : vp_in (nI (4 * a + b)) 20 := vp_in_nI (by omega) (by omega)
      refine r89_64 ?_
      obtain ⟨k0, ⟨r1, r2, r3, r4, r5, r6, r7, r8, r9, r10, r11, r12, r13, r14, r15, r16, r17, r18, r19, r20, r21, r22, r23⟩, ⟨k1, k2, k3, k4, k5, k6, k7, k8, k9, k10, k11, k12, k13, k14, k15, k16, k17, k18, k19, k20, k21, k22, k23⟩, ⟨l1, l2, l3, l4, l5, l6, l7, l8, l9, l10, l11, l12, l13, l14, l15, l16, l17, l18, l19, l20, l21, l22, l23⟩⟩ := X1.1
      simp only [k0, r1, r2, r3, r4, r5, r6, r7, r8, r9, r10, r11, r12, r13, r14, r15, r16, r17, r18, r19, r20, r21, r22, r23, k1, k2, k3, k4, k5, k6, k7, k8, k9, k10, k11, k12, k13, k14, k15, k16, k17, k18, k19, k20, k21, k22, k23, l1, l2, l3, l4, l5, l6, l7, l8, l9, l10, l11, l12, l13, l14, l15, l16, l17, l18, l19, l20, l21, l22, l23, true_and, true_or, or_true, zK_wI, zL_wI, zR_wI, forall_eq, e4x, j0, v1]
      clear k0 r1 r2 r3 r4 r5 r6 r7 r8 r9 r10 r11 r12 r13 r14 r15 r16 r17 r18 r19 r20 r21 r22 r23 k1 k2 k3 k4 k5 k6 k7 k8 k9 k10 k11 k12 k13 k14 k15 k16 k17 k18 k19 k20 k21 k22 k23 l1 l2 l3 l4 l5 l6 l7 l8 l9 l10 l11 l12 l13 l14 l15 l16 l17 l18 l19 l20 l21 l22 l23
      refine ⟨_, c87 X1.wst, ?_⟩
      rintro r h2 ⟨rfl, X2, s2⟩
      refine r89_88 ?_
      show some (Sum.inl (sL S a + 1)) = some (Sum.inl (if _ then _ else if _ then _ else _ : Int32 × sS).1) ∧ MM _ m w (if _ then _ else if _ then _ else _ : Int32 × sS).2 ∧ _
      rw [if_neg hc, if_neg q2]
      exact ⟨rfl, ⟨_, X2, L.beg a2'⟩, s1.tr ((zJ.wI (by unfold yA; omega)).tr s2)⟩
    · show some (Sum.inl (-7)) = some (Sum.inl (if _ then _ else if _ then _ else _ : Int32 × sS).1) ∧ MM _ m w (if _ then _ else if _ then _ else _ : Int32 × sS).2 ∧ _
      rw [if_neg hc, if_pos q2]; exact ⟨rfl, ⟨G, X, L⟩, zJ.rf⟩
theorem mQ_push {h : zH} {m n : Nat} {Q : List (Int32 × Int32)} {x y : Int32} (X : mQ h m Q) (hn : Q.length = n) (hlt : n < 520) : mQ (zwI (zwI (zwI h (m + 20) n x) (m + 21) n y) m 24 (nI n + 1)) m (Q ++ [(x, y)]) := by
  obtain ⟨y1, y2, y3⟩ := X
  refine ⟨?_, ?_, fun j q hq => ?_⟩
  · rw [List.length_append, hn]; exact hlt
  · rw [zI_at, nI_1, List.length_append, hn]; rfl
  · by_cases hj : j < n
    · rw [List.getElem?_append_left (by omega)] at hq
      rw [zI_oa (by omega), zI_ok (by omega), zI_ok (by omega), zI_oa (by omega), zI_ok (by omega), zI_ok (by omega)]
      exact y3 j q hq
    · have hl := lt_at hq
      rw [List.length_append, hn] at hl
      have hl : j < n + 1 := hl
      have ej : j = n := by omega
      subst ej
      rw [List.getElem?_append_right (by omega), hn, Nat.sub_self] at hq
      cases hq
      rw [zI_oa (by omega), zI_oa (by omega), zI_at, zI_oa (by omega), zI_at]
      exact ⟨rfl, rfl⟩
theorem c90 {d : Nat} {h : zH} {m w : Nat} {S : sS} {s : Int32} (hw : w ≤ 4) (X : MM h m w S) (ol : okL w S) (hq : (sQ S).length < 520) : zD (d + 2) 90 [.inr m, .inl s] h (fun r h' => r = some (.inl (oAsk S s).1) ∧ MM h' m w (oAsk S s).2 ∧ zJ (yA m) h h') := by
  obtain ⟨G, X, L⟩ := X
  refine zD_of rfl (r90_0 ⟨_, c75 (n := 3) (by decide), ?_⟩)
  rintro r _ ⟨rfl, rfl⟩
  unfold oAsk
  refine r90_6 ⟨fun q => ?_, fun q => ?_⟩
  rotate_left
  · rw [io0 q]; exact ⟨rfl, ⟨G, X, L⟩, zJ.rf⟩
  obtain ⟨b, hb⟩ := io1 q
  obtain ⟨hb4, rfl⟩ := ix_some hb
  rw [show ix 4 (nI b) = some b from hb]
  have j0 := nI_clamp (show b < 2 ^ 31 by omega)
  have v1 : vp_in (nI b) 4 := vp_in_nI (by omega) (by omega)
  have lo := X.lo hb4
  obtain ⟨k0, ⟨r1, r2, r3, r4, r5, r6, r7, r8, r9, r10, r11, r12, r13, r14, r15, r16, r17, r18, r19, r20, r21, r22, r23⟩, ⟨k1, k2, k3, k4, k5, k6, k7, k8, k9, k10, k11, k12, k13, k14, k15, k16, k17, k18, k19, k20, k21, k22, k23⟩, ⟨l1, l2, l3, l4, l5, l6, l7, l8, l9, l10, l11, l12, l13, l14, l15, l16, l17, l18, l19, l20, l21, l22, l23⟩⟩ := X.1
  simp only [k0, r1, r2, r3, r4, r5, r6, r7, r8, r9, r10, r11, r12, r13, r14, r15, r16, r17, r18, r19, r20, r21, r22, r23, k1, k2, k3, k4, k5, k6, k7, k8, k9, k10, k11, k12, k13, k14, k15, k16, k17, k18, k19, k20, k21, k22, k23, l1, l2, l3, l4, l5, l6, l7, l8, l9, l10, l11, l12, l13, l14, l15, l16, l17, l18, l19, l20, l21, l22, l23, true_and, true_or, or_true, j0, v1, lo]
  clear k0 r1 r2 r3 r4 r5 r6 r7 r8 r9 r10 r11 r12 r13 r14 r15 r16 r17 r18 r19 r20 r21 r22 r23 k1 k2 k3 k4 k5 k6 k7 k8 k9 k10 k11 k12 k13 k14 k15 k16 k17 k18 k19 k20 k21 k22 k23 l1 l2 l3 l4 l5 l6 l7 l8 l9 l10 l11 l12 l13 l14 l15 l16 l17 l18 l19 l20 l21 l22 l23
  refine ⟨fun q2 => ⟨_, c81 (v := 0) hw (by omega) L.1 X, ?_⟩, fun q2 => ?_⟩
  rotate_left
  · rw [if_pos q2]; exact ⟨rfl, ⟨G, X, L⟩, zJ.rf⟩
  rw [if_neg q2]
  rintro r _ ⟨rfl, rfl⟩
  have hle := L.le (v := 0) ol
  rw [show nC 0 = 4 from rfl] at hle
  have e4 : (nI (flt 0 G).length = 4) ↔ (sD S 0).length = 4 := by rw [L.2 0 (by omega)]; exact nI_eq (b := 4) (by omega) (by decide)
  refine r90_29 ⟨fun q3 => ?_, fun q3 => ?_⟩
  rotate_left
  · rw [if_pos (e4.mp q3)]; exact ⟨rfl, ⟨G, X, L⟩, zJ.rf⟩
  have h4 : ¬ (sD S 0).length = 4 := fun z => q3 (e4.mpr z)
  rw [if_neg h4]
  obtain ⟨k0, ⟨r1, r2, r3, r4, r5, r6, r7, r8, r9, r10, r11, r12, r13, r14, r15, r16, r17, r18, r19, r20, r21, r22, r23⟩, ⟨k1, k2, k3, k4, k5, k6, k7, k8, k9, k10, k11, k12, k13, k14, k15, k16, k17, k18, k19, k20, k21, k22, k23⟩, ⟨l1, l2, l3, l4, l5, l6, l7, l8, l9, l10, l11, l12, l13, l14, l15, l16, l17, l18, l19, l20, l21, l22, l23⟩⟩ := X.1
  simp only [k0, r1, r2, r3, r4, r5, r6, r7, r8, r9, r10, r11, r12, r13, r14, r15, r16, r17, r18, r19, r20, r21, r22, r23, k1, k2, k3, k4, k5, k6, k7, k8, k9, k10, k11, k12, k13, k14, k15, k16, k17, k18, k19, k20, k21, k22, k23, l1, l2, l3, l4, l5, l6, l7, l8, l9, l10, l11, l12, l13, l14, l15, l16, l17, l18, l19, l20, l21, l22, l23, true_and, true_or, or_true, j0, v1, lo]
  clear k0 r1 r2 r3 r4 r5 r6 r7 r8 r9 r10 r11 r12 r13 r14 r15 r16 r17 r18 r19 r20 r21 r22 r23 k1 k2 k3 k4 k5 k6 k7 k8 k9 k10 k11 k12 k13 k14 k15 k16 k17 k18 k19 k20 k21 k22 k23 l1 l2 l3 l4 l5 l6 l7 l8 l9 l10 l11 l12 l13 l14 l15 l16 l17 l18 l19 l20 l21 l22 l23
  refine ⟨_, c84 (v := 0) hw (by omega) (L.lt hw ol (Nat.zero_le _) (by rw [show nC 0 = 4 from rfl]; rw [← L.2 0 (by omega)] at hle; omega)) X, ?_⟩
  rintro r h1 ⟨rfl, X1, s1⟩
  obtain ⟨n, hn⟩ : ∃ n, (sQ S).length = n := ⟨_, rfl⟩
  rw [hn] at hq
  have hq1 : mQ h1 m (sQ S) := X1.q
  have q24 := hq1.2.1
  rw [hn] at q24
  have j1 := nI_clamp (show n < 2 ^ 31 by omega)
  have v2 : vp_in (nI n) 520 := vp_in_nI (by omega) (by omega)
  have lo1 : zI h1 (m + 2) b = sLo S b := X1.lo hb4
  have x20_0 : ∀ (h : zH) (k i : Nat) (v : Int32), zI (zwI h (m + 20) k v) m i = zI h m i := fun _ _ _ _ => zI_oa (by omega)
  have x20_2 : ∀ (h : zH) (k i : Nat) (v : Int32), zI (zwI h (m + 20) k v) (m + 2) i = zI h (m + 2) i := fun _ _ _ _ => zI_oa (by omega)
  have x21_0 : ∀ (h : zH) (k i : Nat) (v : Int32), zI (zwI h (m + 21) k v) m i = zI h m i := fun _ _ _ _ => zI_oa (by omega)
  have x21_2 : ∀ (h : zH) (k i : Nat) (v : Int32), zI (zwI h (m + 21) k v) (m + 2) i = zI h (m + 2) i := fun _ _ _ _ => zI_oa (by omega)
  have x0_2 : ∀ (h : zH) (k i : Nat) (v : Int32), zI (zwI h m k v) (m + 2) i = zI h (m + 2) i := fun _ _ _ _ => zI_oa (by omega)
  have x20_21 : ∀ (h : zH) (k i : Nat) (v : Int32), zI (zwI h (m + 20) k v) (m + 21) i = zI h (m + 21) i := fun _ _ _ _ => zI_oa (by omega)
  refine r90_51 ?_
  have sq : zJ (fun q => q = m ∨ q = m + 20 ∨ q = m + 21) h1 (zwI (zwI (zwI h1 (m + 20) n (sL S 0 + 1)) (m + 21) n (-6)) m 24 (nI n + 1)) := ((zJ.wI (Or.inr (Or.inl rfl))).tr (zJ.wI (Or.inr (Or.inr rfl)))).tr (zJ.wI (Or.inl rfl))
  have X2 := X1.Q (Q := sQ S ++ [(sL S 0 + 1, -6)]) sq (fun k hk => by rw [zI_ok hk, zI_oa (by omega), zI_oa (by omega)]) (mQ_push hq1 hn hq)
  obtain ⟨k0, ⟨r1, r2, r3, r4, r5, r6, r7, r8, r9, r10, r11, r12, r13, r14, r15, r16, r17, r18, r19, r20, r21, r22, r23⟩, ⟨k1, k2, k3, k4, k5, k6, k7, k8, k9, k10, k11, k12, k13, k14, k15, k16, k17, k18, k19, k20, k21, k22, k23⟩, ⟨l1, l2, l3, l4, l5, l6, l7, l8, l9, l10, l11, l12, l13, l14, l15, l16, l17, l18, l19, l20, l21, l22, l23⟩⟩ := X1.1
  simp only [k0, r1, r2, r3, r4, r5, r6, r7, r8, r9, r10, r11, r12, r13, r14, r15, r16, r17, r18, r19, r20, r21, r22, r23, k1, k2, k3, k4, k5, k6, k7, k8, k9, k10, k11, k12, k13, k14, k15, k16, k17, k18, k19, k20, k21, k22, k23, l1, l2, l3, l4, l5, l6, l7, l8, l9, l10, l11, l12, l13, l14, l15, l16, l17, l18, l19, l20, l21, l22, l23, true_and, true_or, or_true, zK_wI, zL_wI, zR_wI, forall_eq, x20_0, x20_2, x21_0, x21_2, x0_2, x20_21, q24, j1, v2, j0, v1, lo1]
  clear k0 r1 r2 r3 r4 r5 r6 r7 r8 r9 r10 r11 r12 r13 r14 r15 r16 r17 r18 r19 r20 r21 r22 r23 k1 k2 k3 k4 k5 k6 k7 k8 k9 k10 k11 k12 k13 k14 k15 k16 k17 k18 k19 k20 k21 k22 k23 l1 l2 l3 l4 l5 l6 l7 l8 l9 l10 l11 l12 l13 l14 l15 l16 l17 l18 l19 l20 l21 l22 l23
  refine ⟨_, c87 X2, ?_⟩
  rintro r h2 ⟨rfl, X3, s3⟩
  exact r90_100 ⟨rfl, ⟨_, X3, L.beg (Nat.zero_le _)⟩, s1.tr ((sq.wd (fun q hq => by unfold yA; omega)).tr s3)⟩
end
section
/-! ===== the reference: title, answer, copy, dialogue ===== -/
theorem MH.tw {h : zH} {m w n k j : Nat} {S : sS} {G : List (Nat × (Nat → Int32))} {f c y : Int32} {T : List (Nat → Int32)} (X : MH h m w S G) (hT : T.length ≤ 6) (hj : T.length = j) (hk : T[k]? = some (sRow [f, c, y])) (hne : ∀ i t, i ≠ k → T[i]? = some t → (sT S)[i]? = some t) :
    MH (zwI (zwI (zwI (zwI h (m + 3) k f) (m + 4) k c) (m + 5) k y) m 4 (nI j)) m w (stT S T) G ∧ zJ (yA m) h (zwI (zwI (zwI (zwI h (m + 3) k f) (m + 4) k c) (m + 5) k y) m 4 (nI j)) := by
  obtain ⟨y1, y2, y3⟩ := X.t
  have s : zJ (fun q => q = m ∨ (m + 3 ≤ q ∧ q ≤ m + 5)) h (zwI (zwI (zwI (zwI h (m + 3) k f) (m + 4) k c) (m + 5) k y) m 4 (nI j)) := (((zJ.wI (by omega)).tr (zJ.wI (by omega))).tr (zJ.wI (by omega))).tr (zJ.wI (by omega))
  refine ⟨X.T s (fun i hi => by rw [zI_ok hi, zI_oa (by omega), zI_oa (by omega), zI_oa (by omega)]) ⟨hT, by rw [zI_at, hj], fun i t ht => ?_⟩, s.wd (fun q hq => by unfold yA; omega)⟩
  by_cases e : i = k
  · subst e
    rw [hk] at ht
    cases ht
    refine ⟨?_, ?_, ?_⟩
    · rw [zI_oa (by omega), zI_oa (by omega), zI_oa (by omega), zI_at]; rfl
    · rw [zI_oa (by omega), zI_oa (by omega), zI_at]; rfl
    · rw [zI_oa (by omega), zI_at]; rfl
  · obtain ⟨z0, z1, z2⟩ := y3 i t (hne i t e ht)
    refine ⟨?_, ?_, ?_⟩
    · rw [zI_oa (by omega), zI_ok e, zI_ok e, zI_ok e]; exact z0
    · rw [zI_oa (by omega), zI_ok e, zI_ok e, zI_ok e]; exact z1
    · rw [zI_oa (by omega), zI_ok e, zI_ok e, zI_ok e]; exact z2
theorem c79 {d : Nat} {h : zH} {m w : Nat} {S : sS} {f c y : Int32} (hy : y = 0 ∨ y = 1) (X : MM h m w S) : zD (d + 2) 79 [.inr m, .inl f, .inl c, .inl y] h (fun r h' => r = some (.inl (oTitle S f c y).1) ∧ MM h' m w (oTitle S f c y).2 ∧ zJ (yA m) h h') := by
  obtain ⟨G, X, L⟩ := X
  obtain ⟨c1, c2, c3⟩ := X.t
  refine zD_of rfl (r79_0 ⟨_, c75 (n := 5) (by decide), ?_⟩)
  rintro r _ ⟨rfl, rfl⟩
  unfold oTitle
  refine r79_6 ⟨fun q => ?_, fun q => ⟨fun q2 => ?_, fun q2 => ?_⟩⟩
  · rw [io0 q]; exact ⟨Or.inl rfl, rfl, ⟨G, X, L⟩, zJ.rf⟩
  · obtain ⟨n, hn⟩ := io1 q
    rw [show ix 6 c = some n from hn]
    show _ ∧ some (Sum.inl 0) = some (Sum.inl (match ix (10 ^ n) f with | none => (0, S) | some _ => (sPutR (sT S) (sRow [f, c, y]), stT S (sPut (sT S) (sRow [f, c, y])))).1) ∧ MM h m w (match ix (10 ^ n) f with | none => (0, S) | some _ => (sPutR (sT S) (sRow [f, c, y]), stT S (sPut (sT S) (sRow [f, c, y])))).2 ∧ _
    rw [ix_neg q2]; exact ⟨Or.inl rfl, rfl, ⟨G, X, L⟩, zJ.rf⟩
  obtain ⟨n, hn⟩ := io1 q
  obtain ⟨hn6, rfl⟩ := ix_some hn
  obtain ⟨fn, hfn, rfl⟩ := nI_of q2
  rw [show ix 6 (nI n) = some n from hn]
  show ∃ Q, _
  have hten : 10 ^ n < 2 ^ 31 := Nat.lt_of_le_of_lt (Nat.pow_le_pow_right (by decide) (show n ≤ 5 by omega)) (by decide)
  refine ⟨_, c77 (by omega), ?_⟩
  rintro r _ ⟨rfl, rfl⟩
  refine r79_18 ⟨fun q3 => ?_, fun q3 => ?_⟩
  rotate_left
  · rw [nI_ltI hfn hten] at q3
    show _ ∧ some (Sum.inl 0) = some (Sum.inl (match ix (10 ^ n) (nI fn) with | none => (0, S) | some _ => (sPutR (sT S) (sRow [nI fn, nI n, y]), stT S (sPut (sT S) (sRow [nI fn, nI n, y])))).1) ∧ MM h m w (match ix (10 ^ n) (nI fn) with | none => (0, S) | some _ => (sPutR (sT S) (sRow [nI fn, nI n, y]), stT S (sPut (sT S) (sRow [nI fn, nI n, y])))).2 ∧ _
    rw [ix_ge (by omega) hfn]; exact ⟨Or.inl rfl, rfl, ⟨G, X, L⟩, zJ.rf⟩
  rw [nI_ltI hfn hten] at q3
  show zWp zm79 _ (fun r h' => r = some (Sum.inl (match ix (10 ^ n) (nI fn) with | none => (0, S) | some _ => (sPutR (sT S) (sRow [nI fn, nI n, y]), stT S (sPut (sT S) (sRow [nI fn, nI n, y])))).1) ∧ MM h' m w (match ix (10 ^ n) (nI fn) with | none => (0, S) | some _ => (sPutR (sT S) (sRow [nI fn, nI n, y]), stT S (sPut (sT S) (sRow [nI fn, nI n, y])))).2 ∧ zJ (yA m) h h') _ _ _ _ _ _
  rw [ix_nI (by omega) q3]
  show zWp zm79 _ (fun r h' => r = some (Sum.inl (sPutR (sT S) (sRow [nI fn, nI n, y]))) ∧ MM h' m w (stT S (sPut (sT S) (sRow [nI fn, nI n, y]))) ∧ zJ (yA m) h h') _ _ _ _ _ _
  generalize nI fn = f
  generalize nI n = c
  have eR : sPutR (sT S) (sRow [f, c, y]) = match sFx (pT f c) (sT S) 0 with | some _ => 1 | none => if (sT S).length = 6 then 0 else 1 := rfl
  have eP : sPut (sT S) (sRow [f, c, y]) = match sFx (pT f c) (sT S) 0 with | some k => (sT S).set k (sRow [f, c, y]) | none => if (sT S).length = 6 then sT S else sT S ++ [sRow [f, c, y]] := rfl
  rw [eR, eP]
  suffices H : ∀ t j, (sT S).length - j = t → j ≤ (sT S).length → sFx (pT f c) (sT S) 0 = sFx (pT f c) (sT S) j → zWp zm79 (zD (d + 1)) (fun r h' => r = some (Sum.inl (match sFx (pT f c) (sT S) 0 with | some _ => 1 | none => if (sT S).length = 6 then 0 else 1)) ∧ MM h' m w (stT S (match sFx (pT f c) (sT S) 0 with | some k => (sT S).set k (sRow [f, c, y]) | none => if (sT S).length = 6 then sT S else sT S ++ [sRow [f, c, y]])) ∧ zJ (yA m) h h') 0 0 26 [some (.inr m), some (.inl f), some (.inl c), some (.inl y), some (.inl (nI j))] [] h from H _ 0 rfl (Nat.zero_le _) rfl
  obtain ⟨n, hn⟩ : ∃ n, (sT S).length = n := ⟨_, rfl⟩
  rw [hn] at c1 c2
  intro t
  induction t with
  | zero =>
    intro j hm hj hs
    have ej : j = n := by omega
    subst ej
    rw [show sFx (pT f c) (sT S) j = none from sFx_end (by omega)] at hs
    rw [hs]
    show zWp zm79 (zD (d + 1)) (fun r h' => r = some (Sum.inl (if (sT S).length = 6 then 0 else 1)) ∧ MM h' m w (stT S (if (sT S).length = 6 then sT S else sT S ++ [sRow [f, c, y]])) ∧ zJ (yA m) h h') 0 0 26 [some (.inr m), some (.inl f), some (.inl c), some (.inl y), some (.inl (nI j))] [] h
    rw [hn]
    have e6 : (nI j = 6) ↔ j = 6 := nI_eq (b := 6) (by omega) (by decide)
    have j0 := nI_clamp (show j < 2 ^ 31 by omega)
    have q1 := nI_le (Nat.le_refl j) (show j < 2 ^ 31 by omega)
    have vv : ¬ j = 6 → vp_in (nI j) 6 := fun z => vp_in_nI (by omega) (by omega)
    have P := fun (z : ¬ j = 6) => X.tw (k := j) (j := j + 1) (f := f) (c := c) (y := y) (T := sT S ++ [sRow [f, c, y]]) (n := 0) (by rw [List.length_append, hn]; show j + 1 ≤ 6; omega) (by rw [List.length_append, hn]; rfl) (by rw [List.getElem?_append_right (by omega), hn, Nat.sub_self]; rfl) (fun i t hi ht => by
      have hl := lt_at ht
      rw [List.length_append, hn] at hl
      have hl : i < j + 1 := hl
      rw [List.getElem?_append_left (by omega)] at ht; exact ht)
    have x3_0 : ∀ (h : zH) (k i : Nat) (v : Int32), zI (zwI h (m + 3) k v) m i = zI h m i := fun _ _ _ _ => zI_oa (by omega)
    have x4_0 : ∀ (h : zH) (k i : Nat) (v : Int32), zI (zwI h (m + 4) k v) m i = zI h m i := fun _ _ _ _ => zI_oa (by omega)
    have x5_0 : ∀ (h : zH) (k i : Nat) (v : Int32), zI (zwI h (m + 5) k v) m i = zI h m i := fun _ _ _ _ => zI_oa (by omega)
    refine r79_26 ?_
    obtain ⟨k0, ⟨r1, r2, r3, r4, r5, r6, r7, r8, r9, r10, r11, r12, r13, r14, r15, r16, r17, r18, r19, r20, r21, r22, r23⟩, ⟨k1, k2, k3, k4, k5, k6, k7, k8, k9, k10, k11, k12, k13, k14, k15, k16, k17, k18, k19, k20, k21, k22, k23⟩, ⟨l1, l2, l3, l4, l5, l6, l7, l8, l9, l10, l11, l12, l13, l14, l15, l16, l17, l18, l19, l20, l21, l22, l23⟩⟩ := X.1
    simp only [k0, r1, r2, r3, r4, r5, r6, r7, r8, r9, r10, r11, r12, r13, r14, r15, r16, r17, r18, r19, r20, r21, r22, r23, k1, k2, k3, k4, k5, k6, k7, k8, k9, k10, k11, k12, k13, k14, k15, k16, k17, k18, k19, k20, k21, k22, k23, l1, l2, l3, l4, l5, l6, l7, l8, l9, l10, l11, l12, l13, l14, l15, l16, l17, l18, l19, l20, l21, l22, l23, true_and, true_or, or_true, zK_wI, zL_wI, zR_wI, forall_eq, x3_0, x4_0, x5_0, nar01 hy, c2, e6, j0, q1, nI_1, not_true_eq_false, false_implies, true_implies]
    clear k0 r1 r2 r3 r4 r5 r6 r7 r8 r9 r10 r11 r12 r13 r14 r15 r16 r17 r18 r19 r20 r21 r22 r23 k1 k2 k3 k4 k5 k6 k7 k8 k9 k10 k11 k12 k13 k14 k15 k16 k17 k18 k19 k20 k21 k22 k23 l1 l2 l3 l4 l5 l6 l7 l8 l9 l10 l11 l12 l13 l14 l15 l16 l17 l18 l19 l20 l21 l22 l23
    refine ⟨⟨fun q6 => ⟨vv q6, vv q6, vv q6, ?_⟩, fun q6 => ?_⟩, trivial⟩
    · rw [if_neg q6, if_neg q6]; exact ⟨rfl, ⟨G, (P q6).1, L⟩, (P q6).2⟩
    · rw [if_pos q6, if_pos q6]; exact ⟨rfl, ⟨G, X, L⟩, zJ.rf⟩
  | succ t ih =>
    intro j hm hj hs
    have hlt : j < n := by omega
    obtain ⟨p, hp⟩ := at_lt (show j < (sT S).length by omega)
    obtain ⟨z0, z1, z2⟩ := c3 j p hp
    have e6 : ¬ nI j = 6 := fun z => by have := (nI_eq (b := 6) (show j < 2 ^ 31 by omega) (by decide)).mp z; omega
    have en : ¬ nI j = nI n := fun z => by have := (nI_eq (show j < 2 ^ 31 by omega) (show n < 2 ^ 31 by omega)).mp z; omega
    have j0 := nI_clamp (show j < 2 ^ 31 by omega)
    have q1 : ¬ nI n ≤ nI j := nI_ge hlt (by omega)
    have vv : vp_in (nI j) 6 := vp_in_nI (by omega) (by omega)
    have P := X.tw (k := j) (j := n) (f := f) (c := c) (y := y) (T := (sT S).set j (sRow [f, c, y])) (n := 0) (by rw [List.length_set, hn]; exact c1) (by rw [List.length_set, hn]) (by rw [List.getElem?_set_self (by omega)]) (fun i t hi ht => by rw [List.getElem?_set_ne (fun z => hi z.symm)] at ht; exact ht)
    have nxt := ih (j + 1) (by omega) (by omega)
    have x3_0 : ∀ (h : zH) (k i : Nat) (v : Int32), zI (zwI h (m + 3) k v) m i = zI h m i := fun _ _ _ _ => zI_oa (by omega)
    have x4_0 : ∀ (h : zH) (k i : Nat) (v : Int32), zI (zwI h (m + 4) k v) m i = zI h m i := fun _ _ _ _ => zI_oa (by omega)
    have x5_0 : ∀ (h : zH) (k i : Nat) (v : Int32), zI (zwI h (m + 5) k v) m i = zI h m i := fun _ _ _ _ => zI_oa (by omega)
    refine r79_26 ?_
    obtain ⟨k0, ⟨r1, r2, r3, r4, r5, r6, r7, r8, r9, r10, r11, r12, r13, r14, r15, r16, r17, r18, r19, r20, r21, r22, r23⟩, ⟨k1, k2, k3, k4, k5, k6, k7, k8, k9, k10, k11, k12, k13, k14, k15, k16, k17, k18, k19, k20, k21, k22, k23⟩, ⟨l1, l2, l3, l4, l5, l6, l7, l8, l9, l10, l11, l12, l13, l14, l15, l16, l17, l18, l19, l20, l21, l22, l23⟩⟩ := X.1
    simp only [k0, r1, r2, r3, r4, r5, r6, r7, r8, r9, r10, r11, r12, r13, r14, r15, r16, r17, r18, r19, r20, r21, r22, r23, k1, k2, k3, k4, k5, k6, k7, k8, k9, k10, k11, k12, k13, k14, k15, k16, k17, k18, k19, k20, k21, k22, k23, l1, l2, l3, l4, l5, l6, l7, l8, l9, l10, l11, l12, l13, l14, l15, l16, l17, l18, l19, l20, l21, l22, l23, true_and, true_or, or_true, zK_wI, zL_wI, zR_wI, forall_eq, x3_0, x4_0, x5_0, nar01 hy, c2, e6, en, j0, q1, z0, z1, vv, nI_1, not_true_eq_false, not_false_eq_true, false_implies, true_implies]
    clear k0 r1 r2 r3 r4 r5 r6 r7 r8 r9 r10 r11 r12 r13 r14 r15 r16 r17 r18 r19 r20 r21 r22 r23 k1 k2 k3 k4 k5 k6 k7 k8 k9 k10 k11 k12 k13 k14 k15 k16 k17 k18 k19 k20 k21 k22 k23 l1 l2 l3 l4 l5 l6 l7 l8 l9 l10 l11 l12 l13 l14 l15 l16 l17 l18 l19 l20 l21 l22 l23
    have miss (hne : pT f c p = false) := nxt (by rw [hs, sFx_miss hp hne])
    refine ⟨fun q => miss (by simp [pT, q]), fun q => ⟨fun q2 => ?_, fun q2 => miss (by simp [pT, q2])⟩⟩
    have hit : sFx (pT f c) (sT S) 0 = some j := by rw [hs]; exact sFx_hit hp (by simp [pT, q, q2])
    rw [hit]
    exact ⟨⟨⟨rfl, ⟨G, P.1, L⟩, P.2⟩, trivial⟩, trivial⟩
end
section
/-! ===== the reference: answer, copy, dialogue ===== -/
theorem pAns_u {Q : List (Int32 × Int32)} {n x y : Int32} (oq : okQ Q) (hx : pAns Q n x) (hy : pAns Q n y) : x = y := by
  rcases hx with ⟨i, p, h1, h2, h3, h4⟩ | ⟨h1, h2⟩ <;> rcases hy with ⟨j, q, g1, g2, g3, g4⟩ | ⟨g1, g2⟩
  · have := oq.2 i j p q h1 g1 (h3.trans g3.symm)
    subst this
    rw [h1] at g1
    cases g1
    rw [h4, g4]
  · exact absurd h3 (g1 i p h1 h2)
  · exact absurd g3 (h1 j q g1 g2)
  · rw [h2, g2]
theorem c92 {d : Nat} {h : zH} {m w : Nat} {S : sS} {n : Int32} (X : MM h m w S) (oq : okQ (sQ S)) : zD (d + 2) 92 [.inr m, .inl n] h (fun r h' => (∃ x, r = some (.inl x) ∧ pAns (sQ S) n x) ∧ MM h' m w S ∧ zJ (yA m) h h') := by
  obtain ⟨G, X, L⟩ := X
  obtain ⟨y1, y2, y3⟩ := X.q
  refine zD_of rfl (r92_0 ⟨X.1.1, _, c91 X, ?_⟩)
  rintro r _ ⟨rfl, rfl⟩
  cases hx : sFx (fun q => decide (q.1 = n)) (sQ S) 0 with
  | none =>
    refine r92_5 ⟨fun q => ⟨⟨-9, rfl, Or.inr ⟨fun i q hq _ e => ?_, rfl⟩⟩, ⟨G, X, L⟩, zJ.rf⟩, fun q => absurd (by rw [sIx_lt0 (by omega), hx]) q⟩
    have := sFx_none hx q (List.mem_of_getElem? hq)
    simp [e] at this
  | some k =>
    obtain ⟨p, hk, hp, -⟩ := sFx_some hx
    have hp : p.1 = n := by simpa using hp
    have hkl := lt_at hk
    obtain ⟨l, hl⟩ : ∃ l, (sQ S).length = l := ⟨_, rfl⟩
    rw [hl] at y1 y2 hkl
    have j0 := nI_clamp (show k < 2 ^ 31 by omega)
    have v1 : vp_in (nI k) 520 := vp_in_nI (by omega) (by omega)
    have es : nI l - 1 - nI k = nI (l - 1 - k) := by rw [show nI l - 1 = nI (l - 1) from pk_sub (b := 1) (by omega)]; exact pk_sub (by omega)
    have e20 : (nI (l - 1 - k) < 20) ↔ l - 1 - k < 20 := nI_ltI (b := 20) (by omega) (by decide)
    have z2 := (y3 k p hk).2
    rw [sIx_pos hx]
    refine r92_5 ⟨fun q => absurd q (nI_pos (by omega)), fun _ => ?_⟩
    obtain ⟨k0, ⟨r1, r2, r3, r4, r5, r6, r7, r8, r9, r10, r11, r12, r13, r14, r15, r16, r17, r18, r19, r20, r21, r22, r23⟩, ⟨k1, k2, k3, k4, k5, k6, k7, k8, k9, k10, k11, k12, k13, k14, k15, k16, k17, k18, k19, k20, k21, k22, k23⟩, ⟨l1, l2, l3, l4, l5, l6, l7, l8, l9, l10, l11, l12, l13, l14, l15, l16, l17, l18, l19, l20, l21, l22, l23⟩⟩ := X.1
    simp only [k0, r1, r2, r3, r4, r5, r6, r7, r8, r9, r10, r11, r12, r13, r14, r15, r16, r17, r18, r19, r20, r21, r22, r23, k1, k2, k3, k4, k5, k6, k7, k8, k9, k10, k11, k12, k13, k14, k15, k16, k17, k18, k19, k20, k21, k22, k23, l1, l2, l3, l4, l5, l6, l7, l8, l9, l10, l11, l12, l13, l14, l15, l16, l17, l18, l19, l20, l21, l22, l23, true_and, true_or, or_true, y2, es, e20, j0, v1, z2]
    refine ⟨fun q => ⟨⟨_, rfl, Or.inl ⟨k, p, hk, by omega, hp, rfl⟩⟩, ⟨G, X, L⟩, zJ.rf⟩, fun q => ⟨⟨-9, rfl, Or.inr ⟨fun i q2 hq hle e => ?_, rfl⟩⟩, ⟨G, X, L⟩, zJ.rf⟩⟩
    have := oq.2 i k q2 p hq hk (e.trans hp.symm)
    omega
theorem c103 {d : Nat} {h : zH} {m w : Nat} {S : sS} {i : Int32} (X : MM h m w S) : zD (d + 1) 103 [.inr m, .inl i] h (fun r h' => r = some (.inl (oCopy S i).1) ∧ MM h' m w (oCopy S i).2 ∧ zJ (yA m) h h') := by
  obtain ⟨G, X, L⟩ := X
  obtain ⟨y1, y2, y3⟩ := X.f
  refine zD_of rfl (r103_0 ⟨fun q => ?_, fun q => ⟨X.1.1, ?_⟩⟩)
  · unfold oCopy; rw [lx_neg q]; exact ⟨Or.inl rfl, rfl, ⟨G, X, L⟩, zJ.rf⟩
  rw [y2]
  refine ⟨fun q2 => ?_, fun q2 => ⟨X.1.1, ?_⟩⟩
  · unfold oCopy; rw [lx_ge (by omega) q (by rw [i32_nlt]; exact q2)]; exact ⟨Or.inl rfl, rfl, ⟨G, X, L⟩, zJ.rf⟩
  obtain ⟨k, f, hx, rfl, hf⟩ := lx_lt (by omega) q (i32_nle.mp q2)
  have hk := lt_at hf
  unfold oCopy; rw [hx]
  obtain ⟨n, hn⟩ : ∃ n, (sF S).length = n := ⟨_, rfl⟩
  rw [hn] at y1 y2 hk ⊢
  have e24 : (nI n = 24) ↔ n = 24 := nI_eq (b := 24) (by omega) (by decide)
  rw [e24]
  refine ⟨fun q3 => ?_, fun q3 => ?_⟩
  rotate_left
  · show _ ∧ some (Sum.inl 0) = some (Sum.inl (if n = 24 then (0, S) else (1, stF S (sF S ++ [f]))).1) ∧ MM h m w (if n = 24 then (0, S) else (1, stF S (sF S ++ [f]))).2 ∧ _
    rw [if_pos q3]; exact ⟨Or.inl rfl, rfl, ⟨G, X, L⟩, zJ.rf⟩
  show zWp zm103 (zD d) (fun r h' => r = some (Sum.inl (if n = 24 then (0, S) else (1, stF S (sF S ++ [f]))).1) ∧ MM h' m w (if n = 24 then (0, S) else (1, stF S (sF S ++ [f]))).2 ∧ zJ (yA m) h h') _ _ _ _ _ _
  rw [if_neg q3]
  suffices H : ∀ t j h3, 8 - j = t → j ≤ 8 → zJ (fun q => q = m ∨ q = m + 22 ∨ q = m + 23) h h3 → (∀ c, zI h3 m c = zI h m c) → (∀ q, q < 8 * n → zI h3 (m + 22) q = zI h (m + 22) q) → (∀ u, u < j → zI h3 (m + 22) (8 * n + u) = sPart f (nI u)) → zWp zm103 (zD d) (fun r h' => r = some (Sum.inl ((1, stF S (sF S ++ [f])) : Int32 × sS).1) ∧ MM h' m w ((1, stF S (sF S ++ [f])) : Int32 × sS).2 ∧ zJ (yA m) h h') 0 0 25 [some (.inr m), some (.inl (nI k)), some (.inl (nI j))] [] h3 from
    H _ 0 h rfl (by omega) zJ.rf (fun _ => rfl) (fun _ _ => rfl) (fun u hu => by omega)
  intro t
  induction t with
  | zero =>
    intro j h3 ht hj s3 h0 hlo hhi
    have ej : j = 8 := by omega
    subst ej
    have g3 := gM_J s3 X.1
    refine r103_25 ⟨fun _ => ⟨g3.1, g3.1, fun h4 e4 => ⟨Or.inr rfl, rfl, ?_⟩⟩, fun q => absurd (nI_le (Nat.le_refl 8) (by decide)) q⟩
    have s4 : zJ (fun q => q = m ∨ q = m + 22 ∨ q = m + 23) h h4 := s3.tr (by rw [e4]; exact zJ.wI (Or.inl rfl))
    refine ⟨⟨G, X.F s4 (fun c hc => by rw [e4, zI_ok hc]; exact h0 c) ⟨by rw [List.length_append, hn]; show n + 1 ≤ 24; omega, by rw [e4, zI_at, h0, y2, nI_1, List.length_append, hn]; rfl, fun q g hg u hu => ?_⟩, L⟩, s4.wd (fun q hq => by unfold yA; omega)⟩
    rw [e4, zI_oa (by omega)]
    by_cases hq : q < n
    · rw [List.getElem?_append_left (by omega)] at hg
      rw [hlo _ (by omega)]; exact y3 q g hg u hu
    · have hl := lt_at hg
      rw [List.length_append, hn] at hl
      have hl : q < n + 1 := hl
      have eq : q = n := by omega
      subst eq
      rw [List.getElem?_append_right (by omega), hn, Nat.sub_self] at hg
      cases hg
      exact hhi u hu
  | succ t ih =>
    intro j h3 ht hj s3 h0 hlo hhi
    have g3 := gM_J s3 X.1
    have j1 := nI_clamp (show 8 * k + j < 2 ^ 31 by omega)
    have j2 := nI_clamp (show 8 * n + j < 2 ^ 31 by omega)
    have v1 : vp_in (nI (8 * k + j)) 192 := vp_in_nI (by omega) (by omega)
    have v2 : vp_in (nI (8 * n + j)) 192 := vp_in_nI (by omega) (by omega)
    have q1 : ¬ (8 : Int32) ≤ nI j := show ¬ nI 8 ≤ nI j from nI_ge (by omega) (by decide)
    have ec : zI h3 (m + 22) (8 * k + j) = sPart f (nI j) := (hlo _ (by omega)).trans (y3 k f hf j (by omega))
    have n27 : zI h3 m 27 = nI n := (h0 27).trans y2
    have nxt := ih (j + 1) (zwI h3 (m + 22) (8 * n + j) (sPart f (nI j))) (by omega) (by omega) (s3.tr (zJ.wI (Or.inr (Or.inl rfl)))) (fun c => by rw [zI_oa (by omega)]; exact h0 c) (fun q hq => by rw [zI_ok (by omega)]; exact hlo q hq) (fun u hu => by
      by_cases e : u = j
      · subst e; rw [zI_at]
      · rw [zI_ok (by omega)]; exact hhi u (by omega))
    refine r103_25 ?_
    obtain ⟨k0, ⟨r1, r2, r3, r4, r5, r6, r7, r8, r9, r10, r11, r12, r13, r14, r15, r16, r17, r18, r19, r20, r21, r22, r23⟩, ⟨k1, k2, k3, k4, k5, k6, k7, k8, k9, k10, k11, k12, k13, k14, k15, k16, k17, k18, k19, k20, k21, k22, k23⟩, ⟨l1, l2, l3, l4, l5, l6, l7, l8, l9, l10, l11, l12, l13, l14, l15, l16, l17, l18, l19, l20, l21, l22, l23⟩⟩ := g3
    simp only [k0, r1, r2, r3, r4, r5, r6, r7, r8, r9, r10, r11, r12, r13, r14, r15, r16, r17, r18, r19, r20, r21, r22, r23, k1, k2, k3, k4, k5, k6, k7, k8, k9, k10, k11, k12, k13, k14, k15, k16, k17, k18, k19, k20, k21, k22, k23, l1, l2, l3, l4, l5, l6, l7, l8, l9, l10, l11, l12, l13, l14, l15, l16, l17, l18, l19, l20, l21, l22, l23, true_and, true_or, or_true, forall_eq, n27, e8x, nI_1, j1, j2, v1, v2, ec]
    exact ⟨fun q => absurd q q1, fun _ => nxt⟩
theorem rk_0 {v : Nat} (G : List (Nat × (Nat → Int32))) : rk v G 0 = 0 := by cases G <;> rfl
theorem rk_s {v : Nat} : ∀ {G : List (Nat × (Nat → Int32))} {j : Nat} {p : Nat × (Nat → Int32)}, G[j]? = some p → rk v G (j + 1) = rk v G j + (if p.1 = v then 1 else 0)
  | [], j, p, h => by simp at h
  | q :: G, 0, p, h => by
    have h : some q = some p := h
    cases h
    show (if q.1 = v then 1 else 0) + rk v G 0 = 0 + _
    rw [rk_0]; omega
  | q :: G, j + 1, p, h => by
    rw [List.getElem?_cons_succ] at h
    have ih := rk_s (v := v) h
    show (if q.1 = v then 1 else 0) + rk v G (j + 1) = (if q.1 = v then 1 else 0) + rk v G j + _
    rw [ih]; omega
theorem rk_len {v : Nat} : ∀ (G : List (Nat × (Nat → Int32))), rk v G G.length = (flt v G).length
  | [] => rfl
  | q :: G => by
    show (if q.1 = v then 1 else 0) + rk v G G.length = _
    rw [rk_len G, flt_c]
    by_cases e : q.1 = v
    · rw [if_pos e, if_pos e, List.length_cons]; omega
    · rw [if_neg e, if_neg e]; omega
theorem c112 {d : Nat} {h : zH} {m w : Nat} {S : sS} {v k : Int32} (hw : w ≤ 4) (X : MM h m w S) : zD (d + 1) 112 [.inr m, .inl v, .inl k] h (fun r h' => r = some (.inl (oDlg w S v k)) ∧ MM h' m w S ∧ zJ (yA m) h h') := by
  obtain ⟨G, X, L⟩ := X
  obtain ⟨y1, y2, y3⟩ := X.gg
  obtain ⟨n, hn⟩ : ∃ n, G.length = n := ⟨_, rfl⟩
  rw [hn] at y1 y2
  refine zD_of rfl (r112_0 ?_)
  by_cases hk : k < 0
  · have e9 : oDlg w S v k = -9 := by
      unfold oDlg
      cases ix (w + 1) v with
      | none => rfl
      | some a => show (match lx (sD S a) k with | some (_, g) => g 0 | none => -9) = _; rw [lx_neg hk]
    rw [e9]
    exact r112_5 ⟨X.1.1, fun _ => ⟨rfl, ⟨G, X, L⟩, zJ.rf⟩, fun _ => ⟨fun _ => ⟨rfl, ⟨G, X, L⟩, zJ.rf⟩, fun q => absurd hk q⟩⟩
  obtain ⟨kk, hkk, rfl⟩ := nI_of hk
  have j0 : ∀ j, j < n → (nI j).toNatClampNeg = j := fun j hj => nI_clamp (by omega)
  have v1 : ∀ j, j < n → vp_in (nI j) 12 := fun j hj => vp_in_nI (by omega) (by omega)
  cases hv : ix (w + 1) v with
  | none =>
    have e9 : oDlg w S v (nI kk) = -9 := by unfold oDlg; rw [hv]
    rw [e9]
    suffices H : ∀ t j, n - j = t → j ≤ n → zWp zm112 (zD d) (fun r h' => r = some (Sum.inl (-9)) ∧ MM h' m w S ∧ zJ (yA m) h h') 0 0 5 [some (.inr m), some (.inl v), some (.inl (nI kk)), some (.inl (nI kk)), some (.inl (nI j))] [] h from H _ 0 rfl (Nat.zero_le _)
    intro t
    induction t with
    | zero =>
      intro j ht hj
      refine r112_5 ⟨X.1.1, fun _ => ⟨rfl, ⟨G, X, L⟩, zJ.rf⟩, fun q => absurd (by rw [y2]; exact nI_le (by omega) (by omega)) q⟩
    | succ t ih =>
      intro j ht hj
      obtain ⟨p, hp⟩ := at_lt (show j < G.length by omega)
      have hpw := L.1 p (List.mem_of_getElem? hp)
      have z1 := (y3 j p hp).1
      have ne : ¬ nI p.1 = v := fun e => ix_none (by omega) hv (show p.1 < w + 1 by omega) e.symm
      have jj := j0 j (by omega)
      have vv := v1 j (by omega)
      have nxt := ih (j + 1) (by omega) (by omega)
      refine r112_5 ?_
      obtain ⟨k0, ⟨r1, r2, r3, r4, r5, r6, r7, r8, r9, r10, r11, r12, r13, r14, r15, r16, r17, r18, r19, r20, r21, r22, r23⟩, ⟨k1, k2, k3, k4, k5, k6, k7, k8, k9, k10, k11, k12, k13, k14, k15, k16, k17, k18, k19, k20, k21, k22, k23⟩, ⟨l1, l2, l3, l4, l5, l6, l7, l8, l9, l10, l11, l12, l13, l14, l15, l16, l17, l18, l19, l20, l21, l22, l23⟩⟩ := X.1
      simp only [k0, r1, r2, r3, r4, r5, r6, r7, r8, r9, r10, r11, r12, r13, r14, r15, r16, r17, r18, r19, r20, r21, r22, r23, k1, k2, k3, k4, k5, k6, k7, k8, k9, k10, k11, k12, k13, k14, k15, k16, k17, k18, k19, k20, k21, k22, k23, l1, l2, l3, l4, l5, l6, l7, l8, l9, l10, l11, l12, l13, l14, l15, l16, l17, l18, l19, l20, l21, l22, l23, true_and, true_or, or_true, y2, jj, vv, z1, ne, hk, nI_1, not_false_eq_true, true_implies, false_implies]
      exact ⟨fun _ => ⟨⟨G, X, L⟩, zJ.rf⟩, fun _ => ⟨nxt, trivial⟩⟩
  | some a =>
    obtain ⟨ha, rfl⟩ := ix_some hv
    have e9 : oDlg w S (nI a) (nI kk) = match lx (sD S a) (nI kk) with | some (_, g) => g 0 | none => -9 := by unfold oDlg; rw [hv]; rfl
    rw [e9]
    have hLa := L.2 a (by omega)
    suffices H : ∀ t j, n - j = t → j ≤ n → rk a G j ≤ kk → zWp zm112 (zD d) (fun r h' => r = some (Sum.inl (match lx (sD S a) (nI kk) with | some (_, g) => g 0 | none => -9)) ∧ MM h' m w S ∧ zJ (yA m) h h') 0 0 5 [some (.inr m), some (.inl (nI a)), some (.inl (nI kk)), some (.inl (nI (kk - rk a G j))), some (.inl (nI j))] [] h from by
      have := H _ 0 rfl (Nat.zero_le _) (by rw [rk_0]; exact Nat.zero_le _)
      rw [rk_0] at this; exact this
    intro t
    induction t with
    | zero =>
      intro j ht hj hr
      have ej : j = n := by omega
      subst ej
      rw [← hn, rk_len] at hr
      have el : lx (sD S a) (nI kk) = none := by unfold lx; rw [hLa, ix_ge hr hkk]
      rw [el]
      refine r112_5 ⟨X.1.1, fun _ => ⟨rfl, ⟨G, X, L⟩, zJ.rf⟩, fun q => absurd (by rw [y2]; exact nI_le (by omega) (by omega)) q⟩
    | succ t ih =>
      intro j ht hj hr
      obtain ⟨p, hp⟩ := at_lt (show j < G.length by omega)
      have hpw := L.1 p (List.mem_of_getElem? hp)
      have z1 := (y3 j p hp).1
      have z2 := (y3 j p hp).2.1
      have jj := j0 j (by omega)
      have vv := v1 j (by omega)
      have q1 : ¬ nI n ≤ nI j := nI_ge (by omega) (by omega)
      have ea : (nI p.1 = nI a) ↔ p.1 = a := nI_eq (by omega) (by omega)
      have e0 : (nI (kk - rk a G j) = 0) ↔ kk - rk a G j = 0 := nI_eq (b := 0) (by omega) (by decide)
      have hs := rk_s (v := a) hp
      have nxt := ih (j + 1) (by omega) (by omega)
      refine r112_5 ?_
      obtain ⟨k0, ⟨r1, r2, r3, r4, r5, r6, r7, r8, r9, r10, r11, r12, r13, r14, r15, r16, r17, r18, r19, r20, r21, r22, r23⟩, ⟨k1, k2, k3, k4, k5, k6, k7, k8, k9, k10, k11, k12, k13, k14, k15, k16, k17, k18, k19, k20, k21, k22, k23⟩, ⟨l1, l2, l3, l4, l5, l6, l7, l8, l9, l10, l11, l12, l13, l14, l15, l16, l17, l18, l19, l20, l21, l22, l23⟩⟩ := X.1
      simp only [k0, r1, r2, r3, r4, r5, r6, r7, r8, r9, r10, r11, r12, r13, r14, r15, r16, r17, r18, r19, r20, r21, r22, r23, k1, k2, k3, k4, k5, k6, k7, k8, k9, k10, k11, k12, k13, k14, k15, k16, k17, k18, k19, k20, k21, k22, k23, l1, l2, l3, l4, l5, l6, l7, l8, l9, l10, l11, l12, l13, l14, l15, l16, l17, l18, l19, l20, l21, l22, l23, true_and, true_or, or_true, y2, jj, vv, z1, z2, ea, e0, q1, hk, nI_1, not_false_eq_true, true_implies, false_implies]
      clear k0 r1 r2 r3 r4 r5 r6 r7 r8 r9 r10 r11 r12 r13 r14 r15 r16 r17 r18 r19 r20 r21 r22 r23 k1 k2 k3 k4 k5 k6 k7 k8 k9 k10 k11 k12 k13 k14 k15 k16 k17 k18 k19 k20 k21 k22 k23 l1 l2 l3 l4 l5 l6 l7 l8 l9 l10 l11 l12 l13 l14 l15 l16 l17 l18 l19 l20 l21 l22 l23
      refine ⟨fun q => ?_, fun q => ⟨fun q2 => ?_, fun q2 => ?_⟩⟩
      · rw [if_neg q] at hs
        rw [hs] at nxt
        exact nxt hr
      · rw [if_pos q] at hs
        rw [hs] at nxt
        have e1 : nI (kk - rk a G j) + (-1) = nI (kk - (rk a G j + 1)) := by
          rw [show nI (kk - rk a G j) + (-1) = nI (kk - rk a G j) - 1 from (Int32.sub_eq_add_neg _ _).symm, show kk - (rk a G j + 1) = kk - rk a G j - 1 by omega]
          exact pk_sub (b := 1) (by omega)
        rw [e1]
        exact nxt (by omega)
      · have hr2 : rk a G j = kk := by omega
        obtain ⟨u, g⟩ := p
        have q : u = a := q
        subst q
        have hat := flt_at hp
        rw [hr2] at hat
        have el : lx (sD S u) (nI kk) = some (kk, g) := by
          rw [hLa]; exact lx_nI (by have hfl : (flt u G).length ≤ G.length := (by unfold flt; rw [List.length_map]; exact List.length_filter_le _ _); omega) hat
        rw [el]
        exact ⟨rfl, ⟨G, X, L⟩, zJ.rf⟩
end
section
/-! ===== the reference receives: update ===== -/
theorem MH.cpush {h : zH} {m w n a b : Nat} {S : sS} {G : List (Nat × (Nat → Int32))} (X : MH h m w S G) (hn : (sC S).length = n) (hlt : n < 6) (ha : a ≤ w) (hb : b < 4) :
    MH (zwI (zwI (zwI h (m + 6) n (nI a)) (m + 7) n (nI b)) m 8 (nI n + 1)) m w (stC S (sC S ++ [nI (4 * a + b)])) G ∧ zJ (yA m) h (zwI (zwI (zwI h (m + 6) n (nI a)) (m + 7) n (nI b)) m 8 (nI n + 1)) := by
  obtain ⟨y1, y2, y3⟩ := X.c
  have s : zJ (fun q => q = m ∨ q = m + 6 ∨ q = m + 7) h (zwI (zwI (zwI h (m + 6) n (nI a)) (m + 7) n (nI b)) m 8 (nI n + 1)) := ((zJ.wI (by omega)).tr (zJ.wI (by omega))).tr (zJ.wI (by omega))
  refine ⟨X.C s (fun i hi => by rw [zI_ok hi, zI_oa (by omega), zI_oa (by omega)]) ⟨?_, ?_, fun j c hc => ?_⟩, s.wd (fun q hq => by unfold yA; omega)⟩
  · rw [List.length_append, hn]; exact hlt
  · rw [zI_at, nI_1, List.length_append, hn]; rfl
  · by_cases hj : j < n
    · rw [List.getElem?_append_left (by omega)] at hc
      exact rC_mv (by rw [zI_oa (by omega), zI_ok (by omega), zI_ok (by omega)]) (by rw [zI_oa (by omega), zI_ok (by omega), zI_ok (by omega)]) (y3 j c hc)
    · have hl := lt_at hc
      rw [List.length_append, hn] at hl
      have hl : j < n + 1 := hl
      have ej : j = n := by omega
      subst ej
      rw [List.getElem?_append_right (by omega), hn, Nat.sub_self] at hc
      cases hc
      exact ⟨a, b, ha, hb, by rw [zI_oa (by omega), zI_oa (by omega), zI_at], by rw [zI_oa (by omega), zI_at], rfl⟩
theorem c84k {d : Nat} {h : zH} {m w v : Nat} {S : sS} {G : List (Nat × (Nat → Int32))} {kd kk su wi la ck lv : Int32} (hk : kd + 1 = kk) (hck : sClk S = ck) (hlv : sL S v = lv) (hw : w ≤ 4) (hv : v ≤ w) (hG : G.length < 12) (X : MH h m w S G) : zD (d + 1) 84 [.inr m, .inl (nI v), .inl kd, .inl su, .inl wi, .inl la] h (fun r h' => r = some (.inl (lv + 1)) ∧ MH h' m w (oBegin S v kk wi su (ck + la) 0) (G ++ [(v, sRow [lv + 1, kk, wi, su, ck + la, 0])]) ∧ zJ (yA m) h h') := by
  subst hk; subst hck; subst hlv
  exact c84 hw hv hG X
theorem mem_fx {C : List Int32} {p : Int32} : (sFx (fun x => decide (x = p)) C 0 = none) ↔ ¬ p ∈ C := by
  cases h : sFx (fun x => decide (x = p)) C 0 with
  | none => exact ⟨fun _ z => by have := sFx_none h p z; simp at this, fun _ => rfl⟩
  | some k =>
    obtain ⟨x, hx, hp, -⟩ := sFx_some h
    have hp : x = p := by simpa using hp
    have hm : p ∈ C := by rw [← hp]; exact List.mem_of_getElem? hx
    exact ⟨(fun z => by cases z), (fun z => absurd hm z)⟩
theorem c96a {d : Nat} {h : zH} {m w k0 : Nat} {S : sS} {G : List (Nat × (Nat → Int32))} {f0 f4 f3 : Int32} (hw : w ≤ 4) (X : MH h m w S G) (L : LG w S G) (hx : sFx (fun p => decide (p.1 = 0) && pUpd f0 f4 p.2) G 0 = some k0) : zD (d + 3) 96 [.inr m, .inl f0, .inl f4, .inl f3] h (fun r h' => r = none ∧ h = h') := by
  have hgl := X.gl
  obtain ⟨y1, y2, y3⟩ := X.gg
  obtain ⟨p0, hp0, hh0, hb0⟩ := sFx_some hx
  have hk0 := lt_at hp0
  refine zD_of rfl (r96_0 ?_)
  suffices H : ∀ t j, k0 - j = t → j ≤ k0 → zWp zm96 (zD (d + 2)) (fun r h' => r = none ∧ h = h') 0 0 3 [some (.inr m), some (.inl f0), some (.inl f4), some (.inl f3), some (.inl (nI j)), none, none, none, none] [] h from H _ 0 rfl (Nat.zero_le _)
  intro t
  induction t with
  | zero =>
    intro j ht hj
    have ej : j = k0 := by omega
    subst ej
    obtain ⟨z1, z2, z3, z4, z5, z6, z7⟩ := y3 j p0 hp0
    rw [Bool.and_eq_true, decide_eq_true_eq] at hh0
    obtain ⟨a1, a2⟩ := hh0
    have a2 : p0.2 1 = 2 ∧ p0.2 2 = f0 ∧ p0.2 5 = f4 := by simpa [pUpd] using a2
    have kd1 : zI h (m + 15) j = 1 := by have := z3.trans a2.1; exact i32_add1.mpr this
    have z1 : zI h (m + 13) j = 0 := by rw [z1, a1]; rfl
    have j0 := nI_clamp (show j < 2 ^ 31 by omega)
    have v1 : vp_in (nI j) 12 := vp_in_nI (by omega) (by omega)
    have q1 : ¬ nI G.length ≤ nI j := nI_ge (by omega) (by omega)
    rw [a2.2.1] at z5
    rw [a2.2.2] at z7
    refine r96_3 ⟨X.1.1, fun q => absurd (by rw [← y2]; exact q) q1, fun _ => ?_⟩
    obtain ⟨k0, ⟨r1, r2, r3, r4, r5, r6, r7, r8, r9, r10, r11, r12, r13, r14, r15, r16, r17, r18, r19, r20, r21, r22, r23⟩, ⟨k1, k2, k3, k4, k5, k6, k7, k8, k9, k10, k11, k12, k13, k14, k15, k16, k17, k18, k19, k20, k21, k22, k23⟩, ⟨l1, l2, l3, l4, l5, l6, l7, l8, l9, l10, l11, l12, l13, l14, l15, l16, l17, l18, l19, l20, l21, l22, l23⟩⟩ := X.1
    simp only [k0, r1, r2, r3, r4, r5, r6, r7, r8, r9, r10, r11, r12, r13, r14, r15, r16, r17, r18, r19, r20, r21, r22, r23, k1, k2, k3, k4, k5, k6, k7, k8, k9, k10, k11, k12, k13, k14, k15, k16, k17, k18, k19, k20, k21, k22, k23, l1, l2, l3, l4, l5, l6, l7, l8, l9, l10, l11, l12, l13, l14, l15, l16, l17, l18, l19, l20, l21, l22, l23, true_and, true_or, or_true, j0, v1, z1, kd1, z5, z7, not_true_eq_false, not_false_eq_true, false_implies, true_implies]
  | succ t ih =>
    intro j ht hj
    have hjl : j < G.length := by omega
    obtain ⟨p, hp⟩ := at_lt hjl
    have hpw := L.1 p (List.mem_of_getElem? hp)
    have hno := hb0 j p (by omega) hp
    obtain ⟨z1, z2, z3, z4, z5, z6, z7⟩ := y3 j p hp
    have j0 := nI_clamp (show j < 2 ^ 31 by omega)
    have v1 : vp_in (nI j) 12 := vp_in_nI (by omega) (by omega)
    have q1 : ¬ nI G.length ≤ nI j := nI_ge hjl (by omega)
    have e0 : (nI p.1 = 0) ↔ p.1 = 0 := nI_eq (b := 0) (by omega) (by decide)
    have e1 : (zI h (m + 15) j = 1) = (p.2 1 = 2) := by rw [← z3]; exact propext i32_add1
    have nxt := ih (j + 1) (by omega) (by omega)
    refine r96_3 ⟨X.1.1, fun q => absurd (by rw [← y2]; exact q) q1, fun _ => ?_⟩
    obtain ⟨k0, ⟨r1, r2, r3, r4, r5, r6, r7, r8, r9, r10, r11, r12, r13, r14, r15, r16, r17, r18, r19, r20, r21, r22, r23⟩, ⟨k1, k2, k3, k4, k5, k6, k7, k8, k9, k10, k11, k12, k13, k14, k15, k16, k17, k18, k19, k20, k21, k22, k23⟩, ⟨l1, l2, l3, l4, l5, l6, l7, l8, l9, l10, l11, l12, l13, l14, l15, l16, l17, l18, l19, l20, l21, l22, l23⟩⟩ := X.1
    simp only [k0, r1, r2, r3, r4, r5, r6, r7, r8, r9, r10, r11, r12, r13, r14, r15, r16, r17, r18, r19, r20, r21, r22, r23, k1, k2, k3, k4, k5, k6, k7, k8, k9, k10, k11, k12, k13, k14, k15, k16, k17, k18, k19, k20, k21, k22, k23, l1, l2, l3, l4, l5, l6, l7, l8, l9, l10, l11, l12, l13, l14, l15, l16, l17, l18, l19, l20, l21, l22, l23, true_and, true_or, or_true, j0, v1, z1, e0, e1, z5, z7, nI_1]
    clear k0 r1 r2 r3 r4 r5 r6 r7 r8 r9 r10 r11 r12 r13 r14 r15 r16 r17 r18 r19 r20 r21 r22 r23 k1 k2 k3 k4 k5 k6 k7 k8 k9 k10 k11 k12 k13 k14 k15 k16 k17 k18 k19 k20 k21 k22 k23 l1 l2 l3 l4 l5 l6 l7 l8 l9 l10 l11 l12 l13 l14 l15 l16 l17 l18 l19 l20 l21 l22 l23
    refine ⟨fun _ => nxt, fun q => ⟨fun _ => nxt, fun q2 => ⟨fun _ => nxt, fun q3 => ⟨fun _ => nxt, fun q4 => ?_⟩⟩⟩⟩
    simp [pUpd, q, q2, q3, q4] at hno
end
section
theorem MH.ans {h : zH} {m w n v : Nat} {S : sS} {G : List (Nat × (Nat → Int32))} {g g' : Nat → Int32} {x : Int32} (X : MH h m w S (G ++ [(v, g)])) (hn : G.length = n) (hg : ∀ i, i < 5 → g' i = g i) (h5 : g' 5 = x) :
    MH (zwI h (m + 19) n x) m w S (G ++ [(v, g')]) := by
  obtain ⟨y1, y2, y3⟩ := X.gg
  have el : (G ++ [(v, g')]).length = (G ++ [(v, g)]).length := by rw [List.length_append, List.length_append]; rfl
  have hlast : (G ++ [(v, g)])[n]? = some (v, g) := by rw [List.getElem?_append_right (by omega), hn, Nat.sub_self]; rfl
  have hlast' : (G ++ [(v, g')])[n]? = some (v, g') := by rw [List.getElem?_append_right (by omega), hn, Nat.sub_self]; rfl
  have ell : (G ++ [(v, g')]).length = n + 1 := by rw [List.length_append, hn]; rfl
  refine X.G (S' := S) (zJ.wI (by omega)) (fun i _ => zI_oa (by omega)) (fun u hu => (zI_oa (by omega)).trans (X.l hu)) ⟨by rw [el]; exact y1, by rw [zI_oa (by omega), y2, el], fun j p hp => ?_⟩ rfl rfl rfl rfl rfl rfl rfl rfl rfl rfl rfl
  by_cases hj : j < n
  · rw [List.getElem?_append_left (by omega)] at hp
    exact rG_mv (fun t _ => zI_ok (by omega)) (y3 j p (by rw [List.getElem?_append_left (by omega)]; exact hp))
  · have hl := lt_at hp
    have ej : j = n := by omega
    subst ej
    rw [hlast'] at hp
    cases hp
    obtain ⟨z1, z2, z3, z4, z5, z6, z7⟩ := y3 j (v, g) hlast
    have z1 : zI h (m + 13) j = nI v := z1
    have z2 : zI h (m + 14) j = g 0 := z2
    have z3 : zI h (m + 15) j + 1 = g 1 := z3
    have z4 : zI h (m + 16) j = g 3 := z4
    have z5 : zI h (m + 17) j = g 2 := z5
    have z6 : zI h (m + 18) j = g 4 := z6
    show zI (zwI h (m + 19) j x) (m + 13) j = nI v ∧ zI (zwI h (m + 19) j x) (m + 14) j = g' 0 ∧ zI (zwI h (m + 19) j x) (m + 15) j + 1 = g' 1 ∧ zI (zwI h (m + 19) j x) (m + 16) j = g' 3 ∧ zI (zwI h (m + 19) j x) (m + 17) j = g' 2 ∧ zI (zwI h (m + 19) j x) (m + 18) j = g' 4 ∧ zI (zwI h (m + 19) j x) (m + 19) j = g' 5
    rw [hg 0 (by decide), hg 1 (by decide), hg 2 (by decide), hg 3 (by decide), hg 4 (by decide), h5]
    exact ⟨(zI_oa (by omega)).trans z1, (zI_oa (by omega)).trans z2, by rw [zI_oa (by omega)]; exact z3, (zI_oa (by omega)).trans z4, (zI_oa (by omega)).trans z5, (zI_oa (by omega)).trans z6, zI_at⟩
theorem MH.eqv {h : zH} {m w : Nat} {S S' : sS} {G : List (Nat × (Nat → Int32))} (X : MH h m w S G) (e0 : sClk S' = sClk S) (e1 : sDg S' = sDg S) (e2 : sLo S' = sLo S) (e3 : sHe S' = sHe S) (e4 : sSt S' = sSt S) (e5 : sO S' = sO S) (e6 : sU S' = sU S) (e7 : sT S' = sT S) (e8 : sC S' = sC S) (e9 : sQ S' = sQ S) (e10 : sF S' = sF S) (e11 : sL S' = sL S) : MH h m w S' G := by
  unfold MH
  rw [e0, e1, e2, e3, e4, e5, e6, e7, e8, e9, e10, e11]
  exact X
theorem oB_sClk {S : sS} {v : Nat} {b c e k x : Int32} : sClk (oBegin S v b c e k x) = sClk S := rfl
theorem oB_sDg {S : sS} {v : Nat} {b c e k x : Int32} : sDg (oBegin S v b c e k x) = sDg S := rfl
theorem oB_sLo {S : sS} {v : Nat} {b c e k x : Int32} : sLo (oBegin S v b c e k x) = sLo S := rfl
theorem oB_sHe {S : sS} {v : Nat} {b c e k x : Int32} : sHe (oBegin S v b c e k x) = sHe S := rfl
theorem oB_sSt {S : sS} {v : Nat} {b c e k x : Int32} : sSt (oBegin S v b c e k x) = sSt S := rfl
theorem oB_sO {S : sS} {v : Nat} {b c e k x : Int32} : sO (oBegin S v b c e k x) = sO S := rfl
theorem oB_sU {S : sS} {v : Nat} {b c e k x : Int32} : sU (oBegin S v b c e k x) = sU S := rfl
theorem oB_sT {S : sS} {v : Nat} {b c e k x : Int32} : sT (oBegin S v b c e k x) = sT S := rfl
theorem oB_sC {S : sS} {v : Nat} {b c e k x : Int32} : sC (oBegin S v b c e k x) = sC S := rfl
theorem oB_sQ {S : sS} {v : Nat} {b c e k x : Int32} : sQ (oBegin S v b c e k x) = sQ S := rfl
theorem oB_sF {S : sS} {v : Nat} {b c e k x : Int32} : sF (oBegin S v b c e k x) = sF S := rfl
theorem oB_sL {S : sS} {v : Nat} {b c e k x : Int32} : sL (oBegin S v b c e k x) = upd (sL S) v (sL S v + 1) := rfl
theorem MH.an {h : zH} {m w v : Nat} {S : sS} {G : List (Nat × (Nat → Int32))} {b c e k y x : Int32} (X : MH h m w (oBegin S v b c e k y) G) : MH h m w (oBegin S v b c e k x) G :=
  X.eqv (oB_sClk.trans oB_sClk.symm) (oB_sDg.trans oB_sDg.symm) (oB_sLo.trans oB_sLo.symm) (oB_sHe.trans oB_sHe.symm) (oB_sSt.trans oB_sSt.symm) (oB_sO.trans oB_sO.symm) (oB_sU.trans oB_sU.symm) (oB_sT.trans oB_sT.symm) (oB_sC.trans oB_sC.symm) (oB_sQ.trans oB_sQ.symm) (oB_sF.trans oB_sF.symm) (oB_sL.trans oB_sL.symm)
theorem c96b {d : Nat} {h h2 : zH} {m w sn : Nat} {S2 : sS} {G2 : List (Nat × (Nat → Int32))} {f0 f4 l4 l5 l6 l7 ck : Int32} (hw : w ≤ 4) (hs : sn < 4) (X2 : MH h2 m w S2 G2) (L2 : LG w S2 G2) (s2 : zJ (yA m) h h2) (hl : G2.length < 12) (hck : sClk S2 = ck) :
    zWp zm96 (zD (d + 2)) (fun r h' => r = none ∧ MM h' m w (oSend (oBegin (oMv4 S2 sn f0) 0 2 f0 (nI sn) (ck + 6) f4) (sRow [0, f0, 22, nI sn, sL S2 0 + 1, f4, 0])) ∧ zJ (yA m) h h') 0 0 205 [some (.inr m), some (.inl f0), some (.inl f4), some (.inl (nI sn)), some (.inl l4), some (.inl l5), some (.inl l6), some (.inl l7), none] [] h2 := by
  have jS := nI_clamp (show sn < 2 ^ 31 by omega)
  have vS : vp_in (nI sn) 4 := vp_in_nI (by omega) (by omega)
  have hX2 : MH (zwI h2 (m + 2) sn f0) m w (oMv4 S2 sn f0) G2 := X2.wlo
  have hL2 : LG w (oMv4 S2 sn f0) G2 := L2
  have hk2 : sClk (oMv4 S2 sn f0) = ck := hck
  have hl2 : sL (oMv4 S2 sn f0) 0 = sL S2 0 := rfl
  generalize oMv4 S2 sn f0 = S3 at hX2 hL2 hk2 hl2 ⊢
  generalize sL S2 0 = lv at hl2 ⊢
  refine r96_205 ?_
  obtain ⟨k0, ⟨r1, r2, r3, r4, r5, r6, r7, r8, r9, r10, r11, r12, r13, r14, r15, r16, r17, r18, r19, r20, r21, r22, r23⟩, ⟨k1, k2, k3, k4, k5, k6, k7, k8, k9, k10, k11, k12, k13, k14, k15, k16, k17, k18, k19, k20, k21, k22, k23⟩, ⟨l1, l2, l3, l4, l5, l6, l7, l8, l9, l10, l11, l12, l13, l14, l15, l16, l17, l18, l19, l20, l21, l22, l23⟩⟩ := X2.1
  simp only [k0, r1, r2, r3, r4, r5, r6, r7, r8, r9, r10, r11, r12, r13, r14, r15, r16, r17, r18, r19, r20, r21, r22, r23, k1, k2, k3, k4, k5, k6, k7, k8, k9, k10, k11, k12, k13, k14, k15, k16, k17, k18, k19, k20, k21, k22, k23, l1, l2, l3, l4, l5, l6, l7, l8, l9, l10, l11, l12, l13, l14, l15, l16, l17, l18, l19, l20, l21, l22, l23, true_and, true_or, or_true, zK_wI, zL_wI, zR_wI, forall_eq, jS, vS]
  clear k0 r1 r2 r3 r4 r5 r6 r7 r8 r9 r10 r11 r12 r13 r14 r15 r16 r17 r18 r19 r20 r21 r22 r23 k1 k2 k3 k4 k5 k6 k7 k8 k9 k10 k11 k12 k13 k14 k15 k16 k17 k18 k19 k20 k21 k22 k23 l1 l2 l3 l4 l5 l6 l7 l8 l9 l10 l11 l12 l13 l14 l15 l16 l17 l18 l19 l20 l21 l22 l23
  have k84 := c84k (d := d + 1) (v := 0) (kd := 1) (kk := 2) (su := nI sn) (wi := f0) (la := 6) rfl hk2 hl2 hw (Nat.zero_le _) hl hX2
  have L3 : LG w (oBegin S3 0 2 f0 (nI sn) (ck + 6) f4) (G2 ++ [(0, sRow [lv + 1, 2, f0, nI sn, ck + 6, f4])]) := by rw [← hl2]; exact hL2.beg (Nat.zero_le _)
  have conv : ∀ h3 : zH, MH h3 m w (oBegin S3 0 2 f0 (nI sn) (ck + 6) 0) (G2 ++ [(0, sRow [lv + 1, 2, f0, nI sn, ck + 6, 0])]) → MH (zwI h3 (m + 19) G2.length f4) m w (oBegin S3 0 2 f0 (nI sn) (ck + 6) f4) (G2 ++ [(0, sRow [lv + 1, 2, f0, nI sn, ck + 6, f4])]) := fun h3 X3 => (X3.an (x := f4)).ans rfl (fun i hi => by
    have : i = 0 ∨ i = 1 ∨ i = 2 ∨ i = 3 ∨ i = 4 := by omega
    rcases this with rfl | rfl | rfl | rfl | rfl <;> simp [sRow]) rfl
  generalize oBegin S3 0 2 f0 (nI sn) (ck + 6) f4 = S4 at L3 conv ⊢
  generalize hSB : oBegin S3 0 2 f0 (nI sn) (ck + 6) 0 = SB at conv k84
  generalize hg4 : sRow [lv + 1, 2, f0, nI sn, ck + 6, f4] = g4 at L3 conv
  generalize hgB : sRow [lv + 1, 2, f0, nI sn, ck + 6, 0] = gB at conv k84
  refine ⟨_, k84, ?_⟩
  rintro r h3 ⟨rfl, X3, s3⟩
  have y16 := X3.gg.2.1
  rw [List.length_append] at y16
  have e16 : zI h3 m 16 - 1 = nI G2.length := by rw [y16]; exact pk_sub (b := 1) (Nat.succ_le_succ (Nat.zero_le _))
  have j2 := nI_clamp (show G2.length < 2 ^ 31 by omega)
  have v2 : vp_in (nI G2.length) 12 := vp_in_nI (by omega) (by omega)
  have X3' := conv h3 X3
  refine r96_222 ?_
  obtain ⟨k0, ⟨r1, r2, r3, r4, r5, r6, r7, r8, r9, r10, r11, r12, r13, r14, r15, r16, r17, r18, r19, r20, r21, r22, r23⟩, ⟨k1, k2, k3, k4, k5, k6, k7, k8, k9, k10, k11, k12, k13, k14, k15, k16, k17, k18, k19, k20, k21, k22, k23⟩, ⟨l1, l2, l3, l4, l5, l6, l7, l8, l9, l10, l11, l12, l13, l14, l15, l16, l17, l18, l19, l20, l21, l22, l23⟩⟩ := X3.1
  simp only [k0, r1, r2, r3, r4, r5, r6, r7, r8, r9, r10, r11, r12, r13, r14, r15, r16, r17, r18, r19, r20, r21, r22, r23, k1, k2, k3, k4, k5, k6, k7, k8, k9, k10, k11, k12, k13, k14, k15, k16, k17, k18, k19, k20, k21, k22, k23, l1, l2, l3, l4, l5, l6, l7, l8, l9, l10, l11, l12, l13, l14, l15, l16, l17, l18, l19, l20, l21, l22, l23, true_and, true_or, or_true, zK_wI, zL_wI, zR_wI, forall_eq, e16, j2, v2]
  clear k0 r1 r2 r3 r4 r5 r6 r7 r8 r9 r10 r11 r12 r13 r14 r15 r16 r17 r18 r19 r20 r21 r22 r23 k1 k2 k3 k4 k5 k6 k7 k8 k9 k10 k11 k12 k13 k14 k15 k16 k17 k18 k19 k20 k21 k22 k23 l1 l2 l3 l4 l5 l6 l7 l8 l9 l10 l11 l12 l13 l14 l15 l16 l17 l18 l19 l20 l21 l22 l23
  refine ⟨_, c87 X3', ?_⟩
  rintro r h4 ⟨rfl, X4, s4⟩
  exact r96_249 ⟨rfl, ⟨_, X4, L3⟩, s2.tr ((zJ.wI (by unfold yA; omega)).tr (s3.tr ((zJ.wI (by unfold yA; omega)).tr s4)))⟩
end
section
/-! ===== the reference receives: update, its middle ===== -/
theorem a01 : (0 : Int32) + 1 = 1 := nI_1 0
theorem a11 : (1 : Int32) + 1 = 2 := nI_1 1
theorem a21 : (2 : Int32) + 1 = 3 := nI_1 2
theorem a31 : (3 : Int32) + 1 = 4 := nI_1 3
theorem MH.oE {h : zH} {m w v k : Nat} {S : sS} {G : List (Nat × (Nat → Int32))} (X : MH h m w S G) : MH h m w (oEnd S v k) G :=
  X.eqv rfl rfl rfl rfl rfl rfl rfl rfl rfl rfl rfl rfl
theorem c96c {d : Nat} {h h1 : zH} {m w sn : Nat} {S1 : sS} {G : List (Nat × (Nat → Int32))} {f0 f4 l4 l5 l6 ck : Int32} (hw : w ≤ 4) (hs : sn < 4) (X1 : MH h1 m w S1 G) (L1 : LG w S1 G) (s1 : zJ (yA m) h h1) (hl : G.length < 12) (hck : sClk S1 = ck) :
    zWp zm96 (zD (d + 2)) (fun r h' => r = none ∧ MM h' m w (oSend (oBegin (oMv4 (oMv3 S1 (nI sn) f0) sn f0) 0 2 f0 (nI sn) (ck + 6) f4) (sRow [0, f0, 22, nI sn, sL S1 0 + 1, f4, 0])) ∧ zJ (yA m) h h') 0 0 184 [some (.inr m), some (.inl f0), some (.inl f4), some (.inl (nI sn)), some (.inl l4), some (.inl l5), some (.inl l6), none, none] [] h1 := by
  have hgl := X1.gl
  have k83 := c83 (d := d + 1) (v := 0) (kd := 2) (ot := f0) (su := nI sn) hw (by omega) L1.1 X1
  rw [a21] at k83
  refine r96_184 ⟨X1.1.1, _, k83, ?_⟩
  rintro r _ ⟨rfl, rfl⟩
  cases hx : sFx (pAb 0 3 f0 (nI sn)) G 0 with
  | none =>
    have hy := L1.none (P := pFind 3 f0 (nI sn)) (Nat.zero_le _) hx
    have e : oMv3 S1 (nI sn) f0 = S1 := by unfold oMv3; rw [hy]
    rw [e]
    exact r96_192 ⟨fun _ => c96b hw hs X1 L1 s1 hl hck, fun q => absurd (by rw [sIx_lt0 hgl, hx]) q⟩
  | some k =>
    obtain ⟨g, hg, -, hy, -⟩ := L1.some (P := pFind 3 f0 (nI sn)) (Nat.zero_le _) hx
    have e : oMv3 S1 (nI sn) f0 = oEnd S1 0 (rk 0 G k) := by unfold oMv3; rw [hy]
    have hk := lt_at hg
    have el : sL S1 0 = sL (oEnd S1 0 (rk 0 G k)) 0 := rfl
    have ec : sClk (oEnd S1 0 (rk 0 G k)) = ck := hck
    have hL := L1.er hg
    rw [e, el, sIx_pos hx]
    have hX : ∀ h2, MH h2 m w S1 (G.eraseIdx k) → MH h2 m w (oEnd S1 0 (rk 0 G k)) (G.eraseIdx k) := fun h2 X2 => X2.oE
    generalize oEnd S1 0 (rk 0 G k) = S2 at ec hL hX ⊢
    refine r96_192 ⟨fun q => absurd q (nI_pos (by omega)), fun _ => ⟨X1.1.1, _, c85 X1 hk, ?_⟩⟩
    rintro r h2 ⟨rfl, X2, s2⟩
    exact c96b hw hs (hX h2 X2) hL (s1.tr s2) (by rw [List.length_eraseIdx_of_lt hk]; omega) ec
end
section
/-! ===== the reference receives: update, its head ===== -/
def oUp2 (S : sS) (sn : Nat) (v f4 : Int32) : sS := if (sD S 0).length = 4 ∨ ¬ sMay S sn (nI sn) v then oSend S (sRow [0, v, 40, 0, 0, f4, 0]) else oSend (oBegin (oMove S sn (nI sn) v) 0 2 v (nI sn) (sClk S + 6) f4) (sRow [0, v, 22, nI sn, sL S 0 + 1, f4, 0])
theorem oMv1_same {S : sS} {sn : Nat} {v p : Int32} (hp : 4 * sLo S sn + nI sn = p) (hm : ¬ (sEls S sn v ∧ ¬ p ∈ sC S)) : oMv1 S sn (nI sn) v = S := by
  unfold oMv1
  by_cases h : sEls S sn v
  · rw [if_pos h, hp]
    have hin : p ∈ sC S := Classical.byContradiction fun z => hm ⟨h, z⟩
    unfold sAdd
    rw [if_pos hin]; rfl
  · rw [if_neg h]
theorem c96e {d : Nat} {h h1 : zH} {m w vn sn : Nat} {S S1 : sS} {G : List (Nat × (Nat → Int32))} {f4 l4 l5 l6 : Int32} (hw : w ≤ 4) (hv : vn ≤ w) (hs : sn < 4) (hA : ¬ ((sD S 0).length = 4 ∨ ¬ sMay S sn (nI sn) (nI vn))) (X1 : MH h1 m w S1 G) (L1 : LG w S1 G) (s1 : zJ (yA m) h h1) (hl : G.length < 12) (e1 : S1 = oMv1 S sn (nI sn) (nI vn)) (eck : sClk S1 = sClk S) (esl : sL S1 = sL S) :
    ∃ Q, zD (d + 2) 94 [.inr m, .inl (nI vn), .inl (nI sn)] h1 Q ∧ ∀ v h2, Q v h2 → zWp zm96 (zD (d + 2)) (fun r h' => r = none ∧ MM h' m w (oUp2 S sn (nI vn) f4) ∧ zJ (yA m) h h') 0 0 184 [some (.inr m), some (.inl (nI vn)), some (.inl f4), some (.inl (nI sn)), some (.inl l4), some (.inl l5), some (.inl l6), none, none] (v.toList ++ []) h2 := by
  have eU : oUp2 S sn (nI vn) f4 = oSend (oBegin (oMv4 (oMv3 (oMv2 S1 (nI sn) (nI vn)) (nI sn) (nI vn)) sn (nI vn)) 0 2 (nI vn) (nI sn) (sClk S + 6) f4) (sRow [0, nI vn, 22, nI sn, sL S 0 + 1, f4, 0]) := by
    unfold oUp2; rw [if_neg hA, e1]; rfl
  refine ⟨_, c94 hw (by omega) hs X1, ?_⟩
  rintro r h2 ⟨rfl, X2, s2⟩
  rw [eU]
  have e2 : oMv2 S1 (nI sn) (nI vn) = stC S1 (sDrop (sC S1) (nI (4 * vn + sn))) := by unfold oMv2; rw [e4x]
  have eL : sL S 0 = sL (stC S1 (sDrop (sC S1) (nI (4 * vn + sn)))) 0 := by rw [← esl]; rfl
  have eC : sClk (stC S1 (sDrop (sC S1) (nI (4 * vn + sn)))) = sClk S := by rw [← eck]; rfl
  have L2 : LG w (stC S1 (sDrop (sC S1) (nI (4 * vn + sn)))) G := L1
  rw [e2, eL]
  generalize stC S1 (sDrop (sC S1) (nI (4 * vn + sn))) = S2 at X2 eC L2 ⊢
  exact c96c hw hs X2 L2 (s1.tr s2) hl eC
theorem c96d {d : Nat} {h : zH} {m w vn sn lo : Nat} {S : sS} {G : List (Nat × (Nat → Int32))} {f4 l5 l6 : Int32} (hw : w ≤ 4) (hv : vn ≤ w) (hs : sn < 4) (X : MH h m w S G) (L : LG w S G) (ol : okL w S) (hlo : sLo S sn = nI lo) (hlw : lo ≤ w)
    (hl6 : (l6 = 0 ∧ ¬ (sEls S sn (nI vn) ∧ ¬ nI (4 * lo + sn) ∈ sC S)) ∨ (l6 = 1 ∧ sEls S sn (nI vn) ∧ ¬ nI (4 * lo + sn) ∈ sC S)) :
    zWp zm96 (zD (d + 2)) (fun r h' => r = none ∧ MM h' m w (oUp2 S sn (nI vn) f4) ∧ zJ (yA m) h h') 0 0 115 [some (.inr m), some (.inl (nI vn)), some (.inl f4), some (.inl (nI sn)), some (.inl (nI lo)), some (.inl l5), some (.inl l6), none, none] [.inl (nI (flt 0 G).length)] h := by
  obtain ⟨c1, c2, c3⟩ := X.c
  obtain ⟨n, hn⟩ : ∃ n, (sC S).length = n := ⟨_, rfl⟩
  rw [hn] at c1 c2
  have ep : 4 * sLo S sn + nI sn = nI (4 * lo + sn) := by rw [hlo, e4x]
  have hD0 := ol 0 (Nat.zero_le _)
  rw [show nC 0 = 4 from rfl] at hD0
  have e4 : (nI (flt 0 G).length = 4) ↔ (sD S 0).length = 4 := by rw [L.2 0 (Nat.zero_le _)] at hD0 ⊢; exact nI_eq (b := 4) (by omega) (by decide)
  have h12 : ¬ (sD S 0).length = 4 → G.length < 12 := fun z => L.lt hw ol (Nat.zero_le _) (by rw [show nC 0 = 4 from rfl]; omega)
  have abort : ((sD S 0).length = 4 ∨ ¬ sMay S sn (nI sn) (nI vn)) → ∃ Q, zD (d + 2) 95 [.inr m, .inl 0, .inl (nI vn), .inl f4, .inl 0] h Q ∧ ∀ v h1, Q v h1 → zWp zm96 (zD (d + 2)) (fun r h' => r = none ∧ MM h' m w (oUp2 S sn (nI vn) f4) ∧ zJ (yA m) h h') 0 0 141 [some (.inr m), some (.inl (nI vn)), some (.inl f4), some (.inl (nI sn)), some (.inl (nI lo)), some (.inl l5), some (.inl l6), none, none] (v.toList ++ []) h1 := by
    intro hA
    have eU : oUp2 S sn (nI vn) f4 = oSend S (sRow [0, nI vn, 40, 0, 0, f4, 0]) := by unfold oUp2; rw [if_pos hA]
    rw [eU]
    refine ⟨_, c95 X, ?_⟩
    rintro r h1 ⟨rfl, X1, s1⟩
    exact r96_141 ⟨rfl, ⟨G, X1, L⟩, s1⟩
  rcases hl6 with ⟨rfl, hm⟩ | ⟨rfl, hE, hP⟩
  · have hMay : sMay S sn (nI sn) (nI vn) := by
      unfold sMay
      rw [ep]
      by_cases z : sEls S sn (nI vn)
      · exact Or.inr (Or.inl (Classical.byContradiction fun y => hm ⟨z, y⟩))
      · exact Or.inl z
    refine r96_115 ⟨fun q => ⟨X.1.1, abort (Or.inl (e4.mp q))⟩, fun q => ⟨fun _ => ⟨fun _ => ⟨X.1.1, ?_⟩, fun z => absurd rfl z⟩, fun z => absurd rfl z⟩⟩
    have h4 : ¬ (sD S 0).length = 4 := fun z => q (e4.mpr z)
    exact c96e hw hv hs (fun z => z.elim h4 (fun y => y hMay)) X L zJ.rf (h12 h4) (oMv1_same ep hm).symm rfl rfl
  · have hMay : ¬ n = 6 → sMay S sn (nI sn) (nI vn) := fun z => by unfold sMay; rw [hn]; exact Or.inr (Or.inr z)
    have hMay6 : n = 6 → ¬ sMay S sn (nI sn) (nI vn) := fun z y => by
      unfold sMay at y
      rw [ep, hn] at y
      exact y.elim (fun a => a hE) (fun b => b.elim hP (fun c => c z))
    have e6 : (nI n = 6) ↔ n = 6 := nI_eq (b := 6) (by omega) (by decide)
    have n1 : ¬ (1 : Int32) = 0 := by decide
    refine r96_115 ⟨fun q => ⟨X.1.1, abort (Or.inl (e4.mp q))⟩, fun q => ⟨fun z => absurd z n1, fun _ => ⟨X.1.1, fun q6 => ⟨fun z => absurd z n1, fun _ => ?_⟩, fun q6 => ⟨X.1.1, abort (Or.inr (hMay6 (by rw [c2] at q6; exact e6.mp q6)))⟩⟩⟩⟩
    rw [c2] at q6
    have hn6 : ¬ n = 6 := fun z => q6 (e6.mpr z)
    have h4 : ¬ (sD S 0).length = 4 := fun z => q (e4.mpr z)
    have j0 := nI_clamp (show n < 2 ^ 31 by omega)
    have v1 : vp_in (nI n) 7 := vp_in_nI (by omega) (by omega)
    have P := X.cpush hn (by omega) hlw hs
    have e1 : stC S (sC S ++ [nI (4 * lo + sn)]) = oMv1 S sn (nI sn) (nI vn) := by
      unfold oMv1
      rw [if_pos hE, ep]
      unfold sAdd
      rw [if_neg hP, if_neg (by rw [hn]; exact hn6)]
    have x6_0 : ∀ (h : zH) (k i : Nat) (v : Int32), zI (zwI h (m + 6) k v) m i = zI h m i := fun _ _ _ _ => zI_oa (by omega)
    have x7_0 : ∀ (h : zH) (k i : Nat) (v : Int32), zI (zwI h (m + 7) k v) m i = zI h m i := fun _ _ _ _ => zI_oa (by omega)
    obtain ⟨k0, ⟨r1, r2, r3, r4, r5, r6, r7, r8, r9, r10, r11, r12, r13, r14, r15, r16, r17, r18, r19, r20, r21, r22, r23⟩, ⟨k1, k2, k3, k4, k5, k6, k7, k8, k9, k10, k11, k12, k13, k14, k15, k16, k17, k18, k19, k20, k21, k22, k23⟩, ⟨l1, l2, l3, l4, l5, l6, l7, l8, l9, l10, l11, l12, l13, l14, l15, l16, l17, l18, l19, l20, l21, l22, l23⟩⟩ := X.1
    simp only [k0, r1, r2, r3, r4, r5, r6, r7, r8, r9, r10, r11, r12, r13, r14, r15, r16, r17, r18, r19, r20, r21, r22, r23, k1, k2, k3, k4, k5, k6, k7, k8, k9, k10, k11, k12, k13, k14, k15, k16, k17, k18, k19, k20, k21, k22, k23, l1, l2, l3, l4, l5, l6, l7, l8, l9, l10, l11, l12, l13, l14, l15, l16, l17, l18, l19, l20, l21, l22, l23, true_and, true_or, or_true, zK_wI, zL_wI, zR_wI, forall_eq, x6_0, x7_0, c2, j0, v1]
    clear k0 r1 r2 r3 r4 r5 r6 r7 r8 r9 r10 r11 r12 r13 r14 r15 r16 r17 r18 r19 r20 r21 r22 r23 k1 k2 k3 k4 k5 k6 k7 k8 k9 k10 k11 k12 k13 k14 k15 k16 k17 k18 k19 k20 k21 k22 k23 l1 l2 l3 l4 l5 l6 l7 l8 l9 l10 l11 l12 l13 l14 l15 l16 l17 l18 l19 l20 l21 l22 l23
    exact c96e hw hv hs (fun z => z.elim h4 (fun y => y (hMay hn6))) P.1 L P.2 (h12 h4) e1 rfl rfl
end
