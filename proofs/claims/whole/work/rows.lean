section
-- ===== PART A: goes FIRST, ahead of the names: the tables' words, and 'selects' of the private methods out of them =====
/-- a private method of a class that the tables say can be made, by its rows of tables_1 -/
def lw_okq (q : MethodName × Nat) : Prop := (q.1.cls ≠ "java/lang/invoke/MethodHandle" ∧ q.1.cls ≠ "java/lang/invoke/VarHandle") ∧ Cond.instantiable q.1.cls q.2 ∈ tables_1 ∧ Cond.privateMethod q.1 ∈ tables_1 ∧ Cond.instanceMethod q.1 ∈ tables_1
theorem lw_p0 : lw_okq (⟨"LabelHall", "beginChange", "()V"⟩, 6) := ⟨⟨by decide +kernel, by decide +kernel⟩, List.mem_of_getElem? (i := 10) (by decide +kernel), List.mem_of_getElem? (i := 132) (by decide +kernel), List.mem_of_getElem? (i := 133) (by decide +kernel)⟩
theorem lw_p1 : lw_okq (⟨"LabelHall", "spareSlot", "()I"⟩, 6) := ⟨⟨by decide +kernel, by decide +kernel⟩, List.mem_of_getElem? (i := 10) (by decide +kernel), List.mem_of_getElem? (i := 136) (by decide +kernel), List.mem_of_getElem? (i := 137) (by decide +kernel)⟩
theorem lw_p2 : lw_okq (⟨"LabelHall", "endChange", "(Z)V"⟩, 6) := ⟨⟨by decide +kernel, by decide +kernel⟩, List.mem_of_getElem? (i := 10) (by decide +kernel), List.mem_of_getElem? (i := 157) (by decide +kernel), List.mem_of_getElem? (i := 158) (by decide +kernel)⟩
theorem lw_p3 : lw_okq (⟨"LabelHall", "exchangeWith", "(I)V"⟩, 6) := ⟨⟨by decide +kernel, by decide +kernel⟩, List.mem_of_getElem? (i := 10) (by decide +kernel), List.mem_of_getElem? (i := 164) (by decide +kernel), List.mem_of_getElem? (i := 165) (by decide +kernel)⟩
theorem lw_p4 : lw_okq (⟨"LabelHall", "isPlace", "(IIZ)Z"⟩, 6) := ⟨⟨by decide +kernel, by decide +kernel⟩, List.mem_of_getElem? (i := 10) (by decide +kernel), List.mem_of_getElem? (i := 172) (by decide +kernel), List.mem_of_getElem? (i := 173) (by decide +kernel)⟩
theorem lw_p5 : lw_okq (⟨"LabelHall", "hasStand", "(IZ)Z"⟩, 6) := ⟨⟨by decide +kernel, by decide +kernel⟩, List.mem_of_getElem? (i := 10) (by decide +kernel), List.mem_of_getElem? (i := 176) (by decide +kernel), List.mem_of_getElem? (i := 177) (by decide +kernel)⟩
theorem lw_p6 : lw_okq (⟨"LabelHall", "isStanding", "(I)Z"⟩, 6) := ⟨⟨by decide +kernel, by decide +kernel⟩, List.mem_of_getElem? (i := 10) (by decide +kernel), List.mem_of_getElem? (i := 180) (by decide +kernel), List.mem_of_getElem? (i := 181) (by decide +kernel)⟩
theorem lw_p7 : lw_okq (⟨"LabelHall", "admit", "(II)I"⟩, 6) := ⟨⟨by decide +kernel, by decide +kernel⟩, List.mem_of_getElem? (i := 10) (by decide +kernel), List.mem_of_getElem? (i := 196) (by decide +kernel), List.mem_of_getElem? (i := 197) (by decide +kernel)⟩
theorem lw_p8 : lw_okq (⟨"LabelHall", "thingsInPassage", "(I)I"⟩, 6) := ⟨⟨by decide +kernel, by decide +kernel⟩, List.mem_of_getElem? (i := 10) (by decide +kernel), List.mem_of_getElem? (i := 319) (by decide +kernel), List.mem_of_getElem? (i := 320) (by decide +kernel)⟩
theorem lw_p9 : lw_okq (⟨"LabelHall", "carry", "(IIIII)I"⟩, 6) := ⟨⟨by decide +kernel, by decide +kernel⟩, List.mem_of_getElem? (i := 10) (by decide +kernel), List.mem_of_getElem? (i := 342) (by decide +kernel), List.mem_of_getElem? (i := 343) (by decide +kernel)⟩
theorem lw_p10 : lw_okq (⟨"LabelHall", "faultOfPair", "(II)I"⟩, 6) := ⟨⟨by decide +kernel, by decide +kernel⟩, List.mem_of_getElem? (i := 10) (by decide +kernel), List.mem_of_getElem? (i := 373) (by decide +kernel), List.mem_of_getElem? (i := 374) (by decide +kernel)⟩
theorem lw_p11 : lw_okq (⟨"LabelHallModel", "load", "(I)V"⟩, 25) := ⟨⟨by decide +kernel, by decide +kernel⟩, List.mem_of_getElem? (i := 504) (by decide +kernel), List.mem_of_getElem? (i := 592) (by decide +kernel), List.mem_of_getElem? (i := 593) (by decide +kernel)⟩
theorem lw_p12 : lw_okq (⟨"LabelHallModel", "read", "([II)V"⟩, 25) := ⟨⟨by decide +kernel, by decide +kernel⟩, List.mem_of_getElem? (i := 504) (by decide +kernel), List.mem_of_getElem? (i := 596) (by decide +kernel), List.mem_of_getElem? (i := 597) (by decide +kernel)⟩
theorem lw_p13 : lw_okq (⟨"LabelHallModel", "save", "(I)V"⟩, 25) := ⟨⟨by decide +kernel, by decide +kernel⟩, List.mem_of_getElem? (i := 504) (by decide +kernel), List.mem_of_getElem? (i := 607) (by decide +kernel), List.mem_of_getElem? (i := 608) (by decide +kernel)⟩
theorem lw_p14 : lw_okq (⟨"LabelHallModel", "write", "([II)V"⟩, 25) := ⟨⟨by decide +kernel, by decide +kernel⟩, List.mem_of_getElem? (i := 504) (by decide +kernel), List.mem_of_getElem? (i := 611) (by decide +kernel), List.mem_of_getElem? (i := 612) (by decide +kernel)⟩
theorem lw_p15 : lw_okq (⟨"LabelHallModel", "keep", "()V"⟩, 25) := ⟨⟨by decide +kernel, by decide +kernel⟩, List.mem_of_getElem? (i := 504) (by decide +kernel), List.mem_of_getElem? (i := 615) (by decide +kernel), List.mem_of_getElem? (i := 616) (by decide +kernel)⟩
def lw_privs_1 : List (MethodName × Nat) := [(⟨"LabelHall", "beginChange", "()V"⟩, 6), (⟨"LabelHall", "spareSlot", "()I"⟩, 6), (⟨"LabelHall", "endChange", "(Z)V"⟩, 6), (⟨"LabelHall", "exchangeWith", "(I)V"⟩, 6), (⟨"LabelHall", "isPlace", "(IIZ)Z"⟩, 6), (⟨"LabelHall", "hasStand", "(IZ)Z"⟩, 6), (⟨"LabelHall", "isStanding", "(I)Z"⟩, 6), (⟨"LabelHall", "admit", "(II)I"⟩, 6), (⟨"LabelHall", "thingsInPassage", "(I)I"⟩, 6), (⟨"LabelHall", "carry", "(IIIII)I"⟩, 6), (⟨"LabelHall", "faultOfPair", "(II)I"⟩, 6), (⟨"LabelHallModel", "load", "(I)V"⟩, 25), (⟨"LabelHallModel", "read", "([II)V"⟩, 25), (⟨"LabelHallModel", "save", "(I)V"⟩, 25), (⟨"LabelHallModel", "write", "([II)V"⟩, 25), (⟨"LabelHallModel", "keep", "()V"⟩, 25)]
theorem lw_r1 : ∀ q ∈ lw_privs_1, lw_okq q := List.forall_mem_cons.mpr ⟨lw_p0, List.forall_mem_cons.mpr ⟨lw_p1, List.forall_mem_cons.mpr ⟨lw_p2, List.forall_mem_cons.mpr ⟨lw_p3, List.forall_mem_cons.mpr ⟨lw_p4, List.forall_mem_cons.mpr ⟨lw_p5, List.forall_mem_cons.mpr ⟨lw_p6, List.forall_mem_cons.mpr ⟨lw_p7, List.forall_mem_cons.mpr ⟨lw_p8, List.forall_mem_cons.mpr ⟨lw_p9, List.forall_mem_cons.mpr ⟨lw_p10, List.forall_mem_cons.mpr ⟨lw_p11, List.forall_mem_cons.mpr ⟨lw_p12, List.forall_mem_cons.mpr ⟨lw_p13, List.forall_mem_cons.mpr ⟨lw_p14, List.forall_mem_cons.mpr ⟨lw_p15, fun _ h => absurd h List.not_mem_nil⟩⟩⟩⟩⟩⟩⟩⟩⟩⟩⟩⟩⟩⟩⟩⟩
theorem lw_p16 : lw_okq (⟨"LabelHallModel", "isRow", "(I)Z"⟩, 25) := ⟨⟨by decide +kernel, by decide +kernel⟩, List.mem_of_getElem? (i := 504) (by decide +kernel), List.mem_of_getElem? (i := 625) (by decide +kernel), List.mem_of_getElem? (i := 626) (by decide +kernel)⟩
theorem lw_p17 : lw_okq (⟨"LabelHallModel", "placeBehind", "(IIZ)I"⟩, 25) := ⟨⟨by decide +kernel, by decide +kernel⟩, List.mem_of_getElem? (i := 504) (by decide +kernel), List.mem_of_getElem? (i := 629) (by decide +kernel), List.mem_of_getElem? (i := 630) (by decide +kernel)⟩
theorem lw_p18 : lw_okq (⟨"LabelHallModel", "isThing", "(I)Z"⟩, 25) := ⟨⟨by decide +kernel, by decide +kernel⟩, List.mem_of_getElem? (i := 504) (by decide +kernel), List.mem_of_getElem? (i := 633) (by decide +kernel), List.mem_of_getElem? (i := 634) (by decide +kernel)⟩
theorem lw_p19 : lw_okq (⟨"LabelHallModel", "rowWith", "(I)I"⟩, 25) := ⟨⟨by decide +kernel, by decide +kernel⟩, List.mem_of_getElem? (i := 504) (by decide +kernel), List.mem_of_getElem? (i := 637) (by decide +kernel), List.mem_of_getElem? (i := 638) (by decide +kernel)⟩
theorem lw_p20 : lw_okq (⟨"LabelHallModel", "placeOf", "(II)I"⟩, 25) := ⟨⟨by decide +kernel, by decide +kernel⟩, List.mem_of_getElem? (i := 504) (by decide +kernel), List.mem_of_getElem? (i := 641) (by decide +kernel), List.mem_of_getElem? (i := 642) (by decide +kernel)⟩
theorem lw_p21 : lw_okq (⟨"LabelHallModel", "putNew", "(II)I"⟩, 25) := ⟨⟨by decide +kernel, by decide +kernel⟩, List.mem_of_getElem? (i := 504) (by decide +kernel), List.mem_of_getElem? (i := 645) (by decide +kernel), List.mem_of_getElem? (i := 646) (by decide +kernel)⟩
theorem lw_p22 : lw_okq (⟨"LabelHallModel", "come", "(III)Z"⟩, 25) := ⟨⟨by decide +kernel, by decide +kernel⟩, List.mem_of_getElem? (i := 504) (by decide +kernel), List.mem_of_getElem? (i := 649) (by decide +kernel), List.mem_of_getElem? (i := 650) (by decide +kernel)⟩
theorem lw_p23 : lw_okq (⟨"LabelHallModel", "hasBlocks", "(I)Z"⟩, 25) := ⟨⟨by decide +kernel, by decide +kernel⟩, List.mem_of_getElem? (i := 504) (by decide +kernel), List.mem_of_getElem? (i := 653) (by decide +kernel), List.mem_of_getElem? (i := 654) (by decide +kernel)⟩
theorem lw_p24 : lw_okq (⟨"LabelHallModel", "comeToBlock", "(III)Z"⟩, 25) := ⟨⟨by decide +kernel, by decide +kernel⟩, List.mem_of_getElem? (i := 504) (by decide +kernel), List.mem_of_getElem? (i := 657) (by decide +kernel), List.mem_of_getElem? (i := 658) (by decide +kernel)⟩
theorem lw_p25 : lw_okq (⟨"LabelHallModel", "newBlock", "(III)Z"⟩, 25) := ⟨⟨by decide +kernel, by decide +kernel⟩, List.mem_of_getElem? (i := 504) (by decide +kernel), List.mem_of_getElem? (i := 661) (by decide +kernel), List.mem_of_getElem? (i := 662) (by decide +kernel)⟩
theorem lw_p26 : lw_okq (⟨"LabelHallModel", "spread", "(II)Z"⟩, 25) := ⟨⟨by decide +kernel, by decide +kernel⟩, List.mem_of_getElem? (i := 504) (by decide +kernel), List.mem_of_getElem? (i := 665) (by decide +kernel), List.mem_of_getElem? (i := 666) (by decide +kernel)⟩
theorem lw_p27 : lw_okq (⟨"LabelHallModel", "between", "(IJ)Z"⟩, 25) := ⟨⟨by decide +kernel, by decide +kernel⟩, List.mem_of_getElem? (i := 504) (by decide +kernel), List.mem_of_getElem? (i := 669) (by decide +kernel), List.mem_of_getElem? (i := 670) (by decide +kernel)⟩
theorem lw_p28 : lw_okq (⟨"LabelHallModel", "open", "(I)V"⟩, 25) := ⟨⟨by decide +kernel, by decide +kernel⟩, List.mem_of_getElem? (i := 504) (by decide +kernel), List.mem_of_getElem? (i := 675) (by decide +kernel), List.mem_of_getElem? (i := 676) (by decide +kernel)⟩
theorem lw_p29 : lw_okq (⟨"LabelHallModel", "dealt", "(IIIJII)V"⟩, 25) := ⟨⟨by decide +kernel, by decide +kernel⟩, List.mem_of_getElem? (i := 504) (by decide +kernel), List.mem_of_getElem? (i := 679) (by decide +kernel), List.mem_of_getElem? (i := 680) (by decide +kernel)⟩
theorem lw_p30 : lw_okq (⟨"LabelHallModel", "shift", "(III)V"⟩, 25) := ⟨⟨by decide +kernel, by decide +kernel⟩, List.mem_of_getElem? (i := 504) (by decide +kernel), List.mem_of_getElem? (i := 683) (by decide +kernel), List.mem_of_getElem? (i := 684) (by decide +kernel)⟩
theorem lw_p31 : lw_okq (⟨"LabelHallModel", "blockAt", "(II)I"⟩, 25) := ⟨⟨by decide +kernel, by decide +kernel⟩, List.mem_of_getElem? (i := 504) (by decide +kernel), List.mem_of_getElem? (i := 687) (by decide +kernel), List.mem_of_getElem? (i := 688) (by decide +kernel)⟩
def lw_privs_2 : List (MethodName × Nat) := [(⟨"LabelHallModel", "isRow", "(I)Z"⟩, 25), (⟨"LabelHallModel", "placeBehind", "(IIZ)I"⟩, 25), (⟨"LabelHallModel", "isThing", "(I)Z"⟩, 25), (⟨"LabelHallModel", "rowWith", "(I)I"⟩, 25), (⟨"LabelHallModel", "placeOf", "(II)I"⟩, 25), (⟨"LabelHallModel", "putNew", "(II)I"⟩, 25), (⟨"LabelHallModel", "come", "(III)Z"⟩, 25), (⟨"LabelHallModel", "hasBlocks", "(I)Z"⟩, 25), (⟨"LabelHallModel", "comeToBlock", "(III)Z"⟩, 25), (⟨"LabelHallModel", "newBlock", "(III)Z"⟩, 25), (⟨"LabelHallModel", "spread", "(II)Z"⟩, 25), (⟨"LabelHallModel", "between", "(IJ)Z"⟩, 25), (⟨"LabelHallModel", "open", "(I)V"⟩, 25), (⟨"LabelHallModel", "dealt", "(IIIJII)V"⟩, 25), (⟨"LabelHallModel", "shift", "(III)V"⟩, 25), (⟨"LabelHallModel", "blockAt", "(II)I"⟩, 25)]
theorem lw_r2 : ∀ q ∈ lw_privs_2, lw_okq q := List.forall_mem_cons.mpr ⟨lw_p16, List.forall_mem_cons.mpr ⟨lw_p17, List.forall_mem_cons.mpr ⟨lw_p18, List.forall_mem_cons.mpr ⟨lw_p19, List.forall_mem_cons.mpr ⟨lw_p20, List.forall_mem_cons.mpr ⟨lw_p21, List.forall_mem_cons.mpr ⟨lw_p22, List.forall_mem_cons.mpr ⟨lw_p23, List.forall_mem_cons.mpr ⟨lw_p24, List.forall_mem_cons.mpr ⟨lw_p25, List.forall_mem_cons.mpr ⟨lw_p26, List.forall_mem_cons.mpr ⟨lw_p27, List.forall_mem_cons.mpr ⟨lw_p28, List.forall_mem_cons.mpr ⟨lw_p29, List.forall_mem_cons.mpr ⟨lw_p30, List.forall_mem_cons.mpr ⟨lw_p31, fun _ h => absurd h List.not_mem_nil⟩⟩⟩⟩⟩⟩⟩⟩⟩⟩⟩⟩⟩⟩⟩⟩
theorem lw_p32 : lw_okq (⟨"LabelHallModel", "beginOf", "(II)I"⟩, 25) := ⟨⟨by decide +kernel, by decide +kernel⟩, List.mem_of_getElem? (i := 504) (by decide +kernel), List.mem_of_getElem? (i := 691) (by decide +kernel), List.mem_of_getElem? (i := 692) (by decide +kernel)⟩
theorem lw_p33 : lw_okq (⟨"LabelHallModel", "takeInner", "(III)V"⟩, 25) := ⟨⟨by decide +kernel, by decide +kernel⟩, List.mem_of_getElem? (i := 504) (by decide +kernel), List.mem_of_getElem? (i := 695) (by decide +kernel), List.mem_of_getElem? (i := 696) (by decide +kernel)⟩
theorem lw_p34 : lw_okq (⟨"LabelHallModel", "giveInner", "(II)V"⟩, 25) := ⟨⟨by decide +kernel, by decide +kernel⟩, List.mem_of_getElem? (i := 504) (by decide +kernel), List.mem_of_getElem? (i := 700) (by decide +kernel), List.mem_of_getElem? (i := 701) (by decide +kernel)⟩
theorem lw_p35 : lw_okq (⟨"LabelHallModel", "dealInner", "(III)V"⟩, 25) := ⟨⟨by decide +kernel, by decide +kernel⟩, List.mem_of_getElem? (i := 504) (by decide +kernel), List.mem_of_getElem? (i := 704) (by decide +kernel), List.mem_of_getElem? (i := 705) (by decide +kernel)⟩
theorem lw_p36 : lw_okq (⟨"LabelHallModel", "comeByLabel", "(III)Z"⟩, 25) := ⟨⟨by decide +kernel, by decide +kernel⟩, List.mem_of_getElem? (i := 504) (by decide +kernel), List.mem_of_getElem? (i := 708) (by decide +kernel), List.mem_of_getElem? (i := 709) (by decide +kernel)⟩
theorem lw_p37 : lw_okq (⟨"LabelHallModel", "tight", "(II)Z"⟩, 25) := ⟨⟨by decide +kernel, by decide +kernel⟩, List.mem_of_getElem? (i := 504) (by decide +kernel), List.mem_of_getElem? (i := 712) (by decide +kernel), List.mem_of_getElem? (i := 713) (by decide +kernel)⟩
theorem lw_p38 : lw_okq (⟨"LabelHallModel", "span", "(II)I"⟩, 25) := ⟨⟨by decide +kernel, by decide +kernel⟩, List.mem_of_getElem? (i := 504) (by decide +kernel), List.mem_of_getElem? (i := 720) (by decide +kernel), List.mem_of_getElem? (i := 721) (by decide +kernel)⟩
theorem lw_p39 : lw_okq (⟨"LabelHallModel", "takeOut", "(III)I"⟩, 25) := ⟨⟨by decide +kernel, by decide +kernel⟩, List.mem_of_getElem? (i := 504) (by decide +kernel), List.mem_of_getElem? (i := 724) (by decide +kernel), List.mem_of_getElem? (i := 725) (by decide +kernel)⟩
theorem lw_p40 : lw_okq (⟨"LabelHallModel", "leave", "(II)V"⟩, 25) := ⟨⟨by decide +kernel, by decide +kernel⟩, List.mem_of_getElem? (i := 504) (by decide +kernel), List.mem_of_getElem? (i := 728) (by decide +kernel), List.mem_of_getElem? (i := 729) (by decide +kernel)⟩
theorem lw_p41 : lw_okq (⟨"LabelHallModel", "bring", "(II)Z"⟩, 25) := ⟨⟨by decide +kernel, by decide +kernel⟩, List.mem_of_getElem? (i := 504) (by decide +kernel), List.mem_of_getElem? (i := 736) (by decide +kernel), List.mem_of_getElem? (i := 737) (by decide +kernel)⟩
theorem lw_p42 : lw_okq (⟨"LabelHallModel", "depthOf", "(II)I"⟩, 25) := ⟨⟨by decide +kernel, by decide +kernel⟩, List.mem_of_getElem? (i := 504) (by decide +kernel), List.mem_of_getElem? (i := 748) (by decide +kernel), List.mem_of_getElem? (i := 749) (by decide +kernel)⟩
theorem lw_p43 : lw_okq (⟨"LabelHallModel", "outerOf", "(II)I"⟩, 25) := ⟨⟨by decide +kernel, by decide +kernel⟩, List.mem_of_getElem? (i := 504) (by decide +kernel), List.mem_of_getElem? (i := 752) (by decide +kernel), List.mem_of_getElem? (i := 753) (by decide +kernel)⟩
theorem lw_p44 : lw_okq (⟨"LabelHallModel", "isWithin", "(III)Z"⟩, 25) := ⟨⟨by decide +kernel, by decide +kernel⟩, List.mem_of_getElem? (i := 504) (by decide +kernel), List.mem_of_getElem? (i := 756) (by decide +kernel), List.mem_of_getElem? (i := 757) (by decide +kernel)⟩
theorem lw_p45 : lw_okq (⟨"LabelHallModel", "areApart", "(II)Z"⟩, 25) := ⟨⟨by decide +kernel, by decide +kernel⟩, List.mem_of_getElem? (i := 504) (by decide +kernel), List.mem_of_getElem? (i := 764) (by decide +kernel), List.mem_of_getElem? (i := 765) (by decide +kernel)⟩
theorem lw_p46 : lw_okq (⟨"LabelHallModel", "thingFrom", "(III)I"⟩, 25) := ⟨⟨by decide +kernel, by decide +kernel⟩, List.mem_of_getElem? (i := 504) (by decide +kernel), List.mem_of_getElem? (i := 781) (by decide +kernel), List.mem_of_getElem? (i := 782) (by decide +kernel)⟩
theorem lw_p47 : lw_okq (⟨"LabelHallModel", "indexOf", "(II)I"⟩, 25) := ⟨⟨by decide +kernel, by decide +kernel⟩, List.mem_of_getElem? (i := 504) (by decide +kernel), List.mem_of_getElem? (i := 789) (by decide +kernel), List.mem_of_getElem? (i := 790) (by decide +kernel)⟩
def lw_privs_3 : List (MethodName × Nat) := [(⟨"LabelHallModel", "beginOf", "(II)I"⟩, 25), (⟨"LabelHallModel", "takeInner", "(III)V"⟩, 25), (⟨"LabelHallModel", "giveInner", "(II)V"⟩, 25), (⟨"LabelHallModel", "dealInner", "(III)V"⟩, 25), (⟨"LabelHallModel", "comeByLabel", "(III)Z"⟩, 25), (⟨"LabelHallModel", "tight", "(II)Z"⟩, 25), (⟨"LabelHallModel", "span", "(II)I"⟩, 25), (⟨"LabelHallModel", "takeOut", "(III)I"⟩, 25), (⟨"LabelHallModel", "leave", "(II)V"⟩, 25), (⟨"LabelHallModel", "bring", "(II)Z"⟩, 25), (⟨"LabelHallModel", "depthOf", "(II)I"⟩, 25), (⟨"LabelHallModel", "outerOf", "(II)I"⟩, 25), (⟨"LabelHallModel", "isWithin", "(III)Z"⟩, 25), (⟨"LabelHallModel", "areApart", "(II)Z"⟩, 25), (⟨"LabelHallModel", "thingFrom", "(III)I"⟩, 25), (⟨"LabelHallModel", "indexOf", "(II)I"⟩, 25)]
theorem lw_r3 : ∀ q ∈ lw_privs_3, lw_okq q := List.forall_mem_cons.mpr ⟨lw_p32, List.forall_mem_cons.mpr ⟨lw_p33, List.forall_mem_cons.mpr ⟨lw_p34, List.forall_mem_cons.mpr ⟨lw_p35, List.forall_mem_cons.mpr ⟨lw_p36, List.forall_mem_cons.mpr ⟨lw_p37, List.forall_mem_cons.mpr ⟨lw_p38, List.forall_mem_cons.mpr ⟨lw_p39, List.forall_mem_cons.mpr ⟨lw_p40, List.forall_mem_cons.mpr ⟨lw_p41, List.forall_mem_cons.mpr ⟨lw_p42, List.forall_mem_cons.mpr ⟨lw_p43, List.forall_mem_cons.mpr ⟨lw_p44, List.forall_mem_cons.mpr ⟨lw_p45, List.forall_mem_cons.mpr ⟨lw_p46, List.forall_mem_cons.mpr ⟨lw_p47, fun _ h => absurd h List.not_mem_nil⟩⟩⟩⟩⟩⟩⟩⟩⟩⟩⟩⟩⟩⟩⟩⟩
theorem lw_p48 : lw_okq (⟨"LabelHallModel", "isMark", "(I)Z"⟩, 25) := ⟨⟨by decide +kernel, by decide +kernel⟩, List.mem_of_getElem? (i := 504) (by decide +kernel), List.mem_of_getElem? (i := 825) (by decide +kernel), List.mem_of_getElem? (i := 826) (by decide +kernel)⟩
theorem lw_p49 : lw_okq (⟨"LabelHallModel", "thingsIn", "(I)I"⟩, 25) := ⟨⟨by decide +kernel, by decide +kernel⟩, List.mem_of_getElem? (i := 504) (by decide +kernel), List.mem_of_getElem? (i := 837) (by decide +kernel), List.mem_of_getElem? (i := 838) (by decide +kernel)⟩
def lw_privs_4 : List (MethodName × Nat) := [(⟨"LabelHallModel", "isMark", "(I)Z"⟩, 25), (⟨"LabelHallModel", "thingsIn", "(I)I"⟩, 25)]
theorem lw_r4 : ∀ q ∈ lw_privs_4, lw_okq q := List.forall_mem_cons.mpr ⟨lw_p48, List.forall_mem_cons.mpr ⟨lw_p49, fun _ h => absurd h List.not_mem_nil⟩⟩
def lw_privs : List (MethodName × Nat) := lw_privs_1 ++ (lw_privs_2 ++ (lw_privs_3 ++ (lw_privs_4)))
def lw_tbl : List Cond := k2_sels lw_privs ++ tables_1
theorem lw_privs_ok : ∀ q ∈ lw_privs, lw_okq q := by
  show ∀ q ∈ lw_privs_1 ++ (lw_privs_2 ++ (lw_privs_3 ++ (lw_privs_4))), lw_okq q
  exact List.forall_mem_append.mpr ⟨lw_r1, List.forall_mem_append.mpr ⟨lw_r2, List.forall_mem_append.mpr ⟨lw_r3, lw_r4⟩⟩⟩
end
section
/-! ===== BEGIN printed: names, fields, word lists, decode rows ===== -/
def RX0 : String := "LabelHall$Marks"
def TX0 : u_T := fun k => match k with
  | 0 => ("LabelHall$Marks", "rows", "[I", true)
  | 1 => ("LabelHall$Marks", "behinds", "[I", true)
  | _ => ("LabelHall$Marks", "leans", "[I", true)
def tyX0 : Nat → FieldType := fun k => match k with
  | 0 => .array .int
  | 1 => .array .int
  | _ => .array .int
theorem nmX0 : ∀ a, a < 3 → ∀ b, b < 3 → a ≠ b → (TX0 a).2.1 ≠ (TX0 b).2.1 := by decide +kernel
theorem tyX0_ok : ∀ k, k < 3 → parseFieldDescriptor (TX0 k).2.2.1 = some (tyX0 k) := by decide +kernel
abbrev cX0_init : ByteArray := prog_2_method_1_code
def yX0_init : MethodName := ⟨RX0, "<init>", "()V"⟩
abbrev cX0_copyFrom : ByteArray := prog_2_method_2_code
def yX0_copyFrom : MethodName := ⟨RX0, "copyFrom", "(LLabelHall$Marks;)V"⟩
abbrev cX0_isSet : ByteArray := prog_2_method_3_code
def yX0_isSet : MethodName := ⟨RX0, "isSet", "(I)Z"⟩
abbrev cX0_setCount : ByteArray := prog_2_method_4_code
def yX0_setCount : MethodName := ⟨RX0, "setCount", "()I"⟩
abbrev cX0_set : ByteArray := prog_2_method_5_code
def yX0_set : MethodName := ⟨RX0, "set", "(IIII)V"⟩
abbrev cX0_follow : ByteArray := prog_2_method_6_code
def yX0_follow : MethodName := ⟨RX0, "follow", "(III)V"⟩
def RX1 : String := "LabelHall$Order"
def TX1 : u_T := fun k => match k with
  | 0 => ("LabelHall$Order", "line", "[I", true)
  | 1 => ("LabelHall$Order", "begins", "[I", true)
  | _ => ("LabelHall$Order", "rows", "[I", true)
def tyX1 : Nat → FieldType := fun k => match k with
  | 0 => .array .int
  | 1 => .array .int
  | _ => .array .int
theorem nmX1 : ∀ a, a < 3 → ∀ b, b < 3 → a ≠ b → (TX1 a).2.1 ≠ (TX1 b).2.1 := by decide +kernel
theorem tyX1_ok : ∀ k, k < 3 → parseFieldDescriptor (TX1 k).2.2.1 = some (tyX1 k) := by decide +kernel
abbrev cX1_init : ByteArray := prog_3_method_1_code
def yX1_init : MethodName := ⟨RX1, "<init>", "()V"⟩
abbrev cX1_copyFrom : ByteArray := prog_3_method_2_code
def yX1_copyFrom : MethodName := ⟨RX1, "copyFrom", "(LLabelHall$Order;)V"⟩
abbrev cX1_first : ByteArray := prog_3_method_3_code
def yX1_first : MethodName := ⟨RX1, "first", "(I)I"⟩
abbrev cX1_end : ByteArray := prog_3_method_4_code
def yX1_end : MethodName := ⟨RX1, "end", "(I)I"⟩
abbrev cX1_length : ByteArray := prog_3_method_5_code
def yX1_length : MethodName := ⟨RX1, "length", "(I)I"⟩
abbrev cX1_rowOfThing : ByteArray := prog_3_method_6_code
def yX1_rowOfThing : MethodName := ⟨RX1, "rowOfThing", "(I)I"⟩
abbrev cX1_standAt : ByteArray := prog_3_method_7_code
def yX1_standAt : MethodName := ⟨RX1, "standAt", "(I)I"⟩
abbrev cX1_lastStand : ByteArray := prog_3_method_8_code
def yX1_lastStand : MethodName := ⟨RX1, "lastStand", "(I)I"⟩
abbrev cX1_placeOf : ByteArray := prog_3_method_9_code
def yX1_placeOf : MethodName := ⟨RX1, "placeOf", "(I)I"⟩
abbrev cX1_insert : ByteArray := prog_3_method_10_code
def yX1_insert : MethodName := ⟨RX1, "insert", "(III)V"⟩
abbrev cX1_remove : ByteArray := prog_3_method_11_code
def yX1_remove : MethodName := ⟨RX1, "remove", "(III)V"⟩
def RX2 : String := "LabelHall$State"
def TX2 : u_T := fun k => match k with
  | 0 => ("LabelHall$State", "order", "LLabelHall$Order;", true)
  | 1 => ("LabelHall$State", "marks", "LLabelHall$Marks;", true)
  | 2 => ("LabelHall$State", "kinds", "[I", true)
  | 3 => ("LabelHall$State", "widths", "[I", true)
  | 4 => ("LabelHall$State", "greatest", "[I", true)
  | 5 => ("LabelHall$State", "labels", "[J", true)
  | 6 => ("LabelHall$State", "inners", "[I", true)
  | _ => ("LabelHall$State", "renamed", "I", false)
def tyX2 : Nat → FieldType := fun k => match k with
  | 0 => .object "LabelHall$Order"
  | 1 => .object "LabelHall$Marks"
  | 2 => .array .int
  | 3 => .array .int
  | 4 => .array .int
  | 5 => .array .long
  | 6 => .array .int
  | _ => .int
theorem nmX2 : ∀ a, a < 8 → ∀ b, b < 8 → a ≠ b → (TX2 a).2.1 ≠ (TX2 b).2.1 := by decide +kernel
theorem tyX2_ok : ∀ k, k < 8 → parseFieldDescriptor (TX2 k).2.2.1 = some (tyX2 k) := by decide +kernel
abbrev cX2_init : ByteArray := prog_4_method_1_code
def yX2_init : MethodName := ⟨RX2, "<init>", "()V"⟩
abbrev cX2_copyFrom : ByteArray := prog_4_method_2_code
def yX2_copyFrom : MethodName := ⟨RX2, "copyFrom", "(LLabelHall$State;)V"⟩
abbrev cX2_isRow : ByteArray := prog_4_method_3_code
def yX2_isRow : MethodName := ⟨RX2, "isRow", "(I)Z"⟩
abbrev cX2_hasBlocks : ByteArray := prog_4_method_4_code
def yX2_hasBlocks : MethodName := ⟨RX2, "hasBlocks", "(I)Z"⟩
abbrev cX2_rowCount : ByteArray := prog_4_method_5_code
def yX2_rowCount : MethodName := ⟨RX2, "rowCount", "()I"⟩
abbrev cX2_thingsIn : ByteArray := prog_4_method_6_code
def yX2_thingsIn : MethodName := ⟨RX2, "thingsIn", "(I)I"⟩
abbrev cX2_thingsInAll : ByteArray := prog_4_method_7_code
def yX2_thingsInAll : MethodName := ⟨RX2, "thingsInAll", "()I"⟩
abbrev cX2_blocksIn : ByteArray := prog_4_method_8_code
def yX2_blocksIn : MethodName := ⟨RX2, "blocksIn", "(I)I"⟩
abbrev cX2_firstPlace : ByteArray := prog_4_method_9_code
def yX2_firstPlace : MethodName := ⟨RX2, "firstPlace", "(I)I"⟩
abbrev cX2_lastPlace : ByteArray := prog_4_method_10_code
def yX2_lastPlace : MethodName := ⟨RX2, "lastPlace", "(I)I"⟩
abbrev cX2_placeBehind : ByteArray := prog_4_method_11_code
def yX2_placeBehind : MethodName := ⟨RX2, "placeBehind", "(II)I"⟩
abbrev cX2_isNested : ByteArray := prog_4_method_12_code
def yX2_isNested : MethodName := ⟨RX2, "isNested", "(I)Z"⟩
abbrev cX2_labelAt : ByteArray := prog_4_method_13_code
def yX2_labelAt : MethodName := ⟨RX2, "labelAt", "(I)J"⟩
abbrev cX2_setLabel : ByteArray := prog_4_method_14_code
def yX2_setLabel : MethodName := ⟨RX2, "setLabel", "(IJ)V"⟩
abbrev cX2_innerAt : ByteArray := prog_4_method_15_code
def yX2_innerAt : MethodName := ⟨RX2, "innerAt", "(I)I"⟩
abbrev cX2_setInner : ByteArray := prog_4_method_16_code
def yX2_setInner : MethodName := ⟨RX2, "setInner", "(II)V"⟩
abbrev cX2_inOneRow : ByteArray := prog_4_method_17_code
def yX2_inOneRow : MethodName := ⟨RX2, "inOneRow", "(II)Z"⟩
abbrev cX2_isAhead : ByteArray := prog_4_method_18_code
def yX2_isAhead : MethodName := ⟨RX2, "isAhead", "(II)Z"⟩
abbrev cX2_encloses : ByteArray := prog_4_method_19_code
def yX2_encloses : MethodName := ⟨RX2, "encloses", "(II)Z"⟩
abbrev cX2_innermost : ByteArray := prog_4_method_20_code
def yX2_innermost : MethodName := ⟨RX2, "innermost", "(II)I"⟩
abbrev cX2_enclosingCount : ByteArray := prog_4_method_21_code
def yX2_enclosingCount : MethodName := ⟨RX2, "enclosingCount", "(I)I"⟩
abbrev cX2_firstWithin : ByteArray := prog_4_method_22_code
def yX2_firstWithin : MethodName := ⟨RX2, "firstWithin", "(I)I"⟩
abbrev cX2_neighbour : ByteArray := prog_4_method_23_code
def yX2_neighbour : MethodName := ⟨RX2, "neighbour", "(II)I"⟩
abbrev cX2_thingsAhead : ByteArray := prog_4_method_24_code
def yX2_thingsAhead : MethodName := ⟨RX2, "thingsAhead", "(I)I"⟩
abbrev cX2_thingNumber : ByteArray := prog_4_method_25_code
def yX2_thingNumber : MethodName := ⟨RX2, "thingNumber", "(II)I"⟩
abbrev cX2_takeOut : ByteArray := prog_4_method_26_code
def yX2_takeOut : MethodName := ⟨RX2, "takeOut", "(III[I)I"⟩
abbrev cX2_bring : ByteArray := prog_4_method_27_code
def yX2_bring : MethodName := ⟨RX2, "bring", "(III)Z"⟩
abbrev cX2_labelWithin : ByteArray := prog_4_method_28_code
def yX2_labelWithin : MethodName := ⟨RX2, "labelWithin", "(IIII)V"⟩
abbrev cX2_partBlock : ByteArray := prog_4_method_29_code
def yX2_partBlock : MethodName := ⟨RX2, "partBlock", "(III)Z"⟩
abbrev cX2_dealInners : ByteArray := prog_4_method_30_code
def yX2_dealInners : MethodName := ⟨RX2, "dealInners", "(III)V"⟩
abbrev cX2_labelRun : ByteArray := prog_4_method_31_code
def yX2_labelRun : MethodName := ⟨RX2, "labelRun", "(III)Z"⟩
abbrev cX2_spreadRuns : ByteArray := prog_4_method_32_code
def yX2_spreadRuns : MethodName := ⟨RX2, "spreadRuns", "(III)Z"⟩
abbrev cX2_dealLabels : ByteArray := prog_4_method_33_code
def yX2_dealLabels : MethodName := ⟨RX2, "dealLabels", "(IIIJII)V"⟩
def RX3 : String := "LabelHall"
def TX3 : u_T := fun k => match k with
  | 0 => ("LabelHall", "kept", "[LLabelHall$State;", true)
  | 1 => ("LabelHall", "passage", "[I", true)
  | 2 => ("LabelHall", "now", "LLabelHall$State;", false)
  | 3 => ("LabelHall", "newestSlot", "I", false)
  | 4 => ("LabelHall", "keptCount", "I", false)
  | _ => ("LabelHall", "thingCount", "I", false)
def tyX3 : Nat → FieldType := fun k => match k with
  | 0 => .array (.object "LabelHall$State")
  | 1 => .array .int
  | 2 => .object "LabelHall$State"
  | 3 => .int
  | 4 => .int
  | _ => .int
theorem nmX3 : ∀ a, a < 6 → ∀ b, b < 6 → a ≠ b → (TX3 a).2.1 ≠ (TX3 b).2.1 := by decide +kernel
theorem tyX3_ok : ∀ k, k < 6 → parseFieldDescriptor (TX3 k).2.2.1 = some (tyX3 k) := by decide +kernel
abbrev cX3_init : ByteArray := prog_1_method_1_code
def yX3_init : MethodName := ⟨RX3, "<init>", "()V"⟩
abbrev cX3_row : ByteArray := prog_1_method_2_code
def yX3_row : MethodName := ⟨RX3, "row", "(III)I"⟩
abbrev cX3_put : ByteArray := prog_1_method_3_code
def yX3_put : MethodName := ⟨RX3, "put", "(IIZ)I"⟩
abbrev cX3_drop : ByteArray := prog_1_method_4_code
def yX3_drop : MethodName := ⟨RX3, "drop", "(I)I"⟩
abbrev cX3_move : ByteArray := prog_1_method_5_code
def yX3_move : MethodName := ⟨RX3, "move", "(IIZ)I"⟩
abbrev cX3_join : ByteArray := prog_1_method_6_code
def yX3_join : MethodName := ⟨RX3, "join", "(II)I"⟩
abbrev cX3_split : ByteArray := prog_1_method_7_code
def yX3_split : MethodName := ⟨RX3, "split", "(II)I"⟩
abbrev cX3_less : ByteArray := prog_1_method_8_code
def yX3_less : MethodName := ⟨RX3, "less", "(II)I"⟩
abbrev cX3_label : ByteArray := prog_1_method_9_code
def yX3_label : MethodName := ⟨RX3, "label", "(IZ)J"⟩
abbrev cX3_inner : ByteArray := prog_1_method_10_code
def yX3_inner : MethodName := ⟨RX3, "inner", "(IZ)I"⟩
abbrev cX3_near : ByteArray := prog_1_method_11_code
def yX3_near : MethodName := ⟨RX3, "near", "(II)I"⟩
abbrev cX3_index : ByteArray := prog_1_method_12_code
def yX3_index : MethodName := ⟨RX3, "index", "(I)I"⟩
abbrev cX3_at : ByteArray := prog_1_method_13_code
def yX3_at : MethodName := ⟨RX3, "at", "(II)I"⟩
abbrev cX3_between : ByteArray := prog_1_method_14_code
def yX3_between : MethodName := ⟨RX3, "between", "(II)I"⟩
abbrev cX3_holds : ByteArray := prog_1_method_15_code
def yX3_holds : MethodName := ⟨RX3, "holds", "(II)I"⟩
abbrev cX3_meet : ByteArray := prog_1_method_16_code
def yX3_meet : MethodName := ⟨RX3, "meet", "(II)I"⟩
abbrev cX3_depth : ByteArray := prog_1_method_17_code
def yX3_depth : MethodName := ⟨RX3, "depth", "(I)I"⟩
abbrev cX3_rowOf : ByteArray := prog_1_method_18_code
def yX3_rowOf : MethodName := ⟨RX3, "rowOf", "(I)I"⟩
abbrev cX3_mark : ByteArray := prog_1_method_19_code
def yX3_mark : MethodName := ⟨RX3, "mark", "(IIII)I"⟩
abbrev cX3_marked : ByteArray := prog_1_method_20_code
def yX3_marked : MethodName := ⟨RX3, "marked", "(I)I"⟩
abbrev cX3_putAt : ByteArray := prog_1_method_21_code
def yX3_putAt : MethodName := ⟨RX3, "putAt", "(I)I"⟩
abbrev cX3_undo : ByteArray := prog_1_method_22_code
def yX3_undo : MethodName := ⟨RX3, "undo", "()I"⟩
abbrev cX3_about : ByteArray := prog_1_method_23_code
def yX3_about : MethodName := ⟨RX3, "about", "(II)I"⟩
abbrev cX3_isOf : ByteArray := prog_1_method_24_code
def yX3_isOf : MethodName := ⟨RX3, "isOf", "(II)I"⟩
abbrev cX3_count : ByteArray := prog_1_method_25_code
def yX3_count : MethodName := ⟨RX3, "count", "(I)I"⟩
abbrev cX3_isKind : ByteArray := prog_1_method_26_code
def yX3_isKind : MethodName := ⟨RX3, "isKind", "(I)Z"⟩
abbrev cX3_isEnd : ByteArray := prog_1_method_27_code
def yX3_isEnd : MethodName := ⟨RX3, "isEnd", "(I)Z"⟩
abbrev cX3_thingOf : ByteArray := prog_1_method_28_code
def yX3_thingOf : MethodName := ⟨RX3, "thingOf", "(I)I"⟩
abbrev cX3_standOf : ByteArray := prog_1_method_29_code
def yX3_standOf : MethodName := ⟨RX3, "standOf", "(IZ)I"⟩
abbrev cX3_dealt : ByteArray := prog_1_method_30_code
def yX3_dealt : MethodName := ⟨RX3, "dealt", "(JIII)J"⟩
abbrev cX3_isStanding : ByteArray := prog_1_method_31_code
def yX3_isStanding : MethodName := ⟨RX3, "isStanding", "(I)Z"⟩
abbrev cX3_faultOfPair : ByteArray := prog_1_method_32_code
def yX3_faultOfPair : MethodName := ⟨RX3, "faultOfPair", "(II)I"⟩
abbrev cX3_hasStand : ByteArray := prog_1_method_33_code
def yX3_hasStand : MethodName := ⟨RX3, "hasStand", "(IZ)Z"⟩
abbrev cX3_isPlace : ByteArray := prog_1_method_34_code
def yX3_isPlace : MethodName := ⟨RX3, "isPlace", "(IIZ)Z"⟩
abbrev cX3_admit : ByteArray := prog_1_method_35_code
def yX3_admit : MethodName := ⟨RX3, "admit", "(II)I"⟩
abbrev cX3_carry : ByteArray := prog_1_method_36_code
def yX3_carry : MethodName := ⟨RX3, "carry", "(IIIII)I"⟩
abbrev cX3_thingsInPassage : ByteArray := prog_1_method_37_code
def yX3_thingsInPassage : MethodName := ⟨RX3, "thingsInPassage", "(I)I"⟩
abbrev cX3_spareSlot : ByteArray := prog_1_method_38_code
def yX3_spareSlot : MethodName := ⟨RX3, "spareSlot", "()I"⟩
abbrev cX3_beginChange : ByteArray := prog_1_method_39_code
def yX3_beginChange : MethodName := ⟨RX3, "beginChange", "()V"⟩
abbrev cX3_endChange : ByteArray := prog_1_method_40_code
def yX3_endChange : MethodName := ⟨RX3, "endChange", "(Z)V"⟩
abbrev cX3_exchangeWith : ByteArray := prog_1_method_41_code
def yX3_exchangeWith : MethodName := ⟨RX3, "exchangeWith", "(I)V"⟩
def RX4 : String := "LabelHallModel"
def TX4 : u_T := fun k => match k with
  | 0 => ("LabelHallModel", "thrown", "I", false)
  | 1 => ("LabelHallModel", "things", "I", false)
  | 2 => ("LabelHallModel", "kind", "[I", true)
  | 3 => ("LabelHallModel", "width", "[I", true)
  | 4 => ("LabelHallModel", "many", "[I", true)
  | 5 => ("LabelHallModel", "greatest", "[I", true)
  | 6 => ("LabelHallModel", "blocks", "[I", true)
  | 7 => ("LabelHallModel", "list", "[I", true)
  | 8 => ("LabelHallModel", "blockLong", "[I", true)
  | 9 => ("LabelHallModel", "blockLabel", "[J", true)
  | 10 => ("LabelHallModel", "label", "[J", true)
  | 11 => ("LabelHallModel", "inner", "[I", true)
  | 12 => ("LabelHallModel", "markRow", "[I", true)
  | 13 => ("LabelHallModel", "markAt", "[I", true)
  | 14 => ("LabelHallModel", "markLean", "[I", true)
  | 15 => ("LabelHallModel", "renamed", "I", false)
  | 16 => ("LabelHallModel", "oldInts", "[I", true)
  | 17 => ("LabelHallModel", "oldLongs", "[J", true)
  | 18 => ("LabelHallModel", "keptEnd", "I", false)
  | 19 => ("LabelHallModel", "kept", "I", false)
  | 20 => ("LabelHallModel", "pen", "I", false)
  | 21 => ("LabelHallModel", "hand", "[J", true)
  | 22 => ("LabelHallModel", "handMany", "I", false)
  | 23 => ("LabelHallModel", "gone", "[I", true)
  | _ => ("LabelHallModel", "goneMany", "I", false)
def tyX4 : Nat → FieldType := fun k => match k with
  | 0 => .int
  | 1 => .int
  | 2 => .array .int
  | 3 => .array .int
  | 4 => .array .int
  | 5 => .array .int
  | 6 => .array .int
  | 7 => .array .int
  | 8 => .array .int
  | 9 => .array .long
  | 10 => .array .long
  | 11 => .array .int
  | 12 => .array .int
  | 13 => .array .int
  | 14 => .array .int
  | 15 => .int
  | 16 => .array .int
  | 17 => .array .long
  | 18 => .int
  | 19 => .int
  | 20 => .int
  | 21 => .array .long
  | 22 => .int
  | 23 => .array .int
  | _ => .int
theorem nmX4 : ∀ a, a < 25 → ∀ b, b < 25 → a ≠ b → (TX4 a).2.1 ≠ (TX4 b).2.1 := by decide +kernel
theorem tyX4_ok : ∀ k, k < 25 → parseFieldDescriptor (TX4 k).2.2.1 = some (tyX4 k) := by decide +kernel
abbrev cX4_init : ByteArray := prog_6_method_1_code
def yX4_init : MethodName := ⟨RX4, "<init>", "()V"⟩
abbrev cX4_in : ByteArray := prog_6_method_3_code
def yX4_in : MethodName := ⟨RX4, "in", "(III)Z"⟩
abbrev cX4_write : ByteArray := prog_6_method_4_code
def yX4_write : MethodName := ⟨RX4, "write", "([II)V"⟩
abbrev cX4_read : ByteArray := prog_6_method_5_code
def yX4_read : MethodName := ⟨RX4, "read", "([II)V"⟩
abbrev cX4_save : ByteArray := prog_6_method_6_code
def yX4_save : MethodName := ⟨RX4, "save", "(I)V"⟩
abbrev cX4_load : ByteArray := prog_6_method_7_code
def yX4_load : MethodName := ⟨RX4, "load", "(I)V"⟩
abbrev cX4_keep : ByteArray := prog_6_method_8_code
def yX4_keep : MethodName := ⟨RX4, "keep", "()V"⟩
abbrev cX4_undo : ByteArray := prog_6_method_9_code
def yX4_undo : MethodName := ⟨RX4, "undo", "()I"⟩
abbrev cX4_isRow : ByteArray := prog_6_method_10_code
def yX4_isRow : MethodName := ⟨RX4, "isRow", "(I)Z"⟩
abbrev cX4_rowWith : ByteArray := prog_6_method_11_code
def yX4_rowWith : MethodName := ⟨RX4, "rowWith", "(I)I"⟩
abbrev cX4_placeOf : ByteArray := prog_6_method_12_code
def yX4_placeOf : MethodName := ⟨RX4, "placeOf", "(II)I"⟩
abbrev cX4_isThing : ByteArray := prog_6_method_13_code
def yX4_isThing : MethodName := ⟨RX4, "isThing", "(I)Z"⟩
abbrev cX4_hasBlocks : ByteArray := prog_6_method_14_code
def yX4_hasBlocks : MethodName := ⟨RX4, "hasBlocks", "(I)Z"⟩
abbrev cX4_row : ByteArray := prog_6_method_15_code
def yX4_row : MethodName := ⟨RX4, "row", "(III)I"⟩
abbrev cX4_dealt : ByteArray := prog_6_method_16_code
def yX4_dealt : MethodName := ⟨RX4, "dealt", "(IIIJII)V"⟩
abbrev cX4_open : ByteArray := prog_6_method_17_code
def yX4_open : MethodName := ⟨RX4, "open", "(I)V"⟩
abbrev cX4_between : ByteArray := prog_6_method_18_code
def yX4_between : MethodName := ⟨RX4, "between", "(IJ)Z"⟩
abbrev cX4_tight : ByteArray := prog_6_method_19_code
def yX4_tight : MethodName := ⟨RX4, "tight", "(II)Z"⟩
abbrev cX4_spread : ByteArray := prog_6_method_20_code
def yX4_spread : MethodName := ⟨RX4, "spread", "(II)Z"⟩
abbrev cX4_shift : ByteArray := prog_6_method_21_code
def yX4_shift : MethodName := ⟨RX4, "shift", "(III)V"⟩
abbrev cX4_comeByLabel : ByteArray := prog_6_method_22_code
def yX4_comeByLabel : MethodName := ⟨RX4, "comeByLabel", "(III)Z"⟩
abbrev cX4_newBlock : ByteArray := prog_6_method_23_code
def yX4_newBlock : MethodName := ⟨RX4, "newBlock", "(III)Z"⟩
abbrev cX4_blockAt : ByteArray := prog_6_method_24_code
def yX4_blockAt : MethodName := ⟨RX4, "blockAt", "(II)I"⟩
abbrev cX4_beginOf : ByteArray := prog_6_method_25_code
def yX4_beginOf : MethodName := ⟨RX4, "beginOf", "(II)I"⟩
abbrev cX4_takeInner : ByteArray := prog_6_method_26_code
def yX4_takeInner : MethodName := ⟨RX4, "takeInner", "(III)V"⟩
abbrev cX4_giveInner : ByteArray := prog_6_method_27_code
def yX4_giveInner : MethodName := ⟨RX4, "giveInner", "(II)V"⟩
abbrev cX4_dealInner : ByteArray := prog_6_method_28_code
def yX4_dealInner : MethodName := ⟨RX4, "dealInner", "(III)V"⟩
abbrev cX4_comeToBlock : ByteArray := prog_6_method_29_code
def yX4_comeToBlock : MethodName := ⟨RX4, "comeToBlock", "(III)Z"⟩
abbrev cX4_come : ByteArray := prog_6_method_30_code
def yX4_come : MethodName := ⟨RX4, "come", "(III)Z"⟩
abbrev cX4_leave : ByteArray := prog_6_method_31_code
def yX4_leave : MethodName := ⟨RX4, "leave", "(II)V"⟩
abbrev cX4_span : ByteArray := prog_6_method_32_code
def yX4_span : MethodName := ⟨RX4, "span", "(II)I"⟩
abbrev cX4_takeOut : ByteArray := prog_6_method_33_code
def yX4_takeOut : MethodName := ⟨RX4, "takeOut", "(III)I"⟩
abbrev cX4_bring : ByteArray := prog_6_method_34_code
def yX4_bring : MethodName := ⟨RX4, "bring", "(II)Z"⟩
abbrev cX4_placeBehind : ByteArray := prog_6_method_35_code
def yX4_placeBehind : MethodName := ⟨RX4, "placeBehind", "(IIZ)I"⟩
abbrev cX4_putNew : ByteArray := prog_6_method_36_code
def yX4_putNew : MethodName := ⟨RX4, "putNew", "(II)I"⟩
abbrev cX4_put : ByteArray := prog_6_method_37_code
def yX4_put : MethodName := ⟨RX4, "put", "(IIZ)I"⟩
abbrev cX4_drop : ByteArray := prog_6_method_38_code
def yX4_drop : MethodName := ⟨RX4, "drop", "(I)I"⟩
abbrev cX4_move : ByteArray := prog_6_method_39_code
def yX4_move : MethodName := ⟨RX4, "move", "(IIZ)I"⟩
abbrev cX4_join : ByteArray := prog_6_method_40_code
def yX4_join : MethodName := ⟨RX4, "join", "(II)I"⟩
abbrev cX4_split : ByteArray := prog_6_method_41_code
def yX4_split : MethodName := ⟨RX4, "split", "(II)I"⟩
abbrev cX4_areApart : ByteArray := prog_6_method_42_code
def yX4_areApart : MethodName := ⟨RX4, "areApart", "(II)Z"⟩
abbrev cX4_less : ByteArray := prog_6_method_43_code
def yX4_less : MethodName := ⟨RX4, "less", "(II)I"⟩
abbrev cX4_label : ByteArray := prog_6_method_44_code
def yX4_label : MethodName := ⟨RX4, "label", "(IZ)J"⟩
abbrev cX4_inner : ByteArray := prog_6_method_45_code
def yX4_inner : MethodName := ⟨RX4, "inner", "(IZ)I"⟩
abbrev cX4_thingFrom : ByteArray := prog_6_method_46_code
def yX4_thingFrom : MethodName := ⟨RX4, "thingFrom", "(III)I"⟩
abbrev cX4_isWithin : ByteArray := prog_6_method_47_code
def yX4_isWithin : MethodName := ⟨RX4, "isWithin", "(III)Z"⟩
abbrev cX4_outerOf : ByteArray := prog_6_method_48_code
def yX4_outerOf : MethodName := ⟨RX4, "outerOf", "(II)I"⟩
abbrev cX4_depthOf : ByteArray := prog_6_method_49_code
def yX4_depthOf : MethodName := ⟨RX4, "depthOf", "(II)I"⟩
abbrev cX4_near : ByteArray := prog_6_method_50_code
def yX4_near : MethodName := ⟨RX4, "near", "(II)I"⟩
abbrev cX4_indexOf : ByteArray := prog_6_method_51_code
def yX4_indexOf : MethodName := ⟨RX4, "indexOf", "(II)I"⟩
abbrev cX4_index : ByteArray := prog_6_method_52_code
def yX4_index : MethodName := ⟨RX4, "index", "(I)I"⟩
abbrev cX4_at : ByteArray := prog_6_method_53_code
def yX4_at : MethodName := ⟨RX4, "at", "(II)I"⟩
abbrev cX4_between_ : ByteArray := prog_6_method_54_code
def yX4_between_ : MethodName := ⟨RX4, "between", "(II)I"⟩
abbrev cX4_holds : ByteArray := prog_6_method_55_code
def yX4_holds : MethodName := ⟨RX4, "holds", "(II)I"⟩
abbrev cX4_meet : ByteArray := prog_6_method_56_code
def yX4_meet : MethodName := ⟨RX4, "meet", "(II)I"⟩
abbrev cX4_depth : ByteArray := prog_6_method_57_code
def yX4_depth : MethodName := ⟨RX4, "depth", "(I)I"⟩
abbrev cX4_rowOf : ByteArray := prog_6_method_58_code
def yX4_rowOf : MethodName := ⟨RX4, "rowOf", "(I)I"⟩
abbrev cX4_mark : ByteArray := prog_6_method_59_code
def yX4_mark : MethodName := ⟨RX4, "mark", "(IIII)I"⟩
abbrev cX4_isMark : ByteArray := prog_6_method_60_code
def yX4_isMark : MethodName := ⟨RX4, "isMark", "(I)Z"⟩
abbrev cX4_marked : ByteArray := prog_6_method_61_code
def yX4_marked : MethodName := ⟨RX4, "marked", "(I)I"⟩
abbrev cX4_putAt : ByteArray := prog_6_method_62_code
def yX4_putAt : MethodName := ⟨RX4, "putAt", "(I)I"⟩
abbrev cX4_thingsIn : ByteArray := prog_6_method_63_code
def yX4_thingsIn : MethodName := ⟨RX4, "thingsIn", "(I)I"⟩
abbrev cX4_about : ByteArray := prog_6_method_64_code
def yX4_about : MethodName := ⟨RX4, "about", "(II)I"⟩
abbrev cX4_isOf : ByteArray := prog_6_method_65_code
def yX4_isOf : MethodName := ⟨RX4, "isOf", "(II)I"⟩
abbrev cX4_count : ByteArray := prog_6_method_66_code
def yX4_count : MethodName := ⟨RX4, "count", "(I)I"⟩
def RJ9 : String := "java/lang/Math"
def TJ9 : u_T := fun k => match k with
  | _ => ("", "", "", false)
def tyJ9 : Nat → FieldType := fun k => match k with
  | _ => .int
theorem nmJ9 : ∀ a, a < 0 → ∀ b, b < 0 → a ≠ b → (TJ9 a).2.1 ≠ (TJ9 b).2.1 := by decide +kernel
theorem tyJ9_ok : ∀ k, k < 0 → parseFieldDescriptor (TJ9 k).2.2.1 = some (tyJ9 k) := by decide +kernel
abbrev cJ9_abs_0f7a4 : ByteArray := prog_7_method_59_code
def yJ9_abs_0f7a4 : MethodName := ⟨RJ9, "abs", "(I)I"⟩
abbrev cJ9_max_7cf53 : ByteArray := prog_7_method_65_code
def yJ9_max_7cf53 : MethodName := ⟨RJ9, "max", "(II)I"⟩
abbrev cJ9_min_7cf53 : ByteArray := prog_7_method_69_code
def yJ9_min_7cf53 : MethodName := ⟨RJ9, "min", "(II)I"⟩
def RJ10 : String := "java/lang/System"
def TJ10 : u_T := fun k => match k with
  | _ => ("", "", "", false)
def tyJ10 : Nat → FieldType := fun k => match k with
  | _ => .int
theorem nmJ10 : ∀ a, a < 0 → ∀ b, b < 0 → a ≠ b → (TJ10 a).2.1 ≠ (TJ10 b).2.1 := by decide +kernel
theorem tyJ10_ok : ∀ k, k < 0 → parseFieldDescriptor (TJ10 k).2.2.1 = some (tyJ10 k) := by decide +kernel
def RJ7 : String := "java/util/Arrays"
def TJ7 : u_T := fun k => match k with
  | _ => ("", "", "", false)
def tyJ7 : Nat → FieldType := fun k => match k with
  | _ => .int
theorem nmJ7 : ∀ a, a < 0 → ∀ b, b < 0 → a ≠ b → (TJ7 a).2.1 ≠ (TJ7 b).2.1 := by decide +kernel
theorem tyJ7_ok : ∀ k, k < 0 → parseFieldDescriptor (TJ7 k).2.2.1 = some (tyJ7 k) := by decide +kernel
abbrev cJ7_fill_53178 : ByteArray := prog_9_method_103_code
def yJ7_fill_53178 : MethodName := ⟨RJ7, "fill", "([II)V"⟩
def RL : String := "LabelHallLaw"
abbrev cL_law : ByteArray := code
def yL_law : MethodName := ⟨RL, "law", "([I)Z"⟩
end
section
/-! ===== the frame of this proof: words, worlds, contracts ===== -/
abbrev vcl : List vw_C := [(RX0, TX0, 3), (RX1, TX1, 3), (RX2, TX2, 8), (RX3, TX3, 6), (RX4, TX4, 25)]
/-- the tables' words that hold at every state of the run -/
def lw_gt : List Cond := lw_tbl.filter goodWord
theorem lw_good : ∀ w ∈ lw_gt, goodWord w = true := fun _ h => (List.mem_filter.mp h).2
theorem lw_sub : ∀ w ∈ lw_gt, w ∈ lw_tbl := fun _ h => (List.mem_filter.mp h).1
theorem tw {w : Cond} (i : Nat) (h : tables_1[i]? = some w) (hg : goodWord w = true) : w ∈ lw_gt := List.mem_filter.mpr ⟨List.mem_append_right _ (List.mem_of_getElem? h), hg⟩
theorem tp {w : Cond} (i : Nat) (h : (k2_sels lw_privs)[i]? = some w) (hg : goodWord w = true) : w ∈ lw_gt := List.mem_filter.mpr ⟨List.mem_append_left _ (List.mem_of_getElem? h), hg⟩
def wM (y : MethodName) (cc : ByteArray) (n : Nat) (ret : Option FieldType) : List Cond := Cond.code y cc n ret :: lw_gt
theorem wM_good {y y0 : MethodName} {cc c0 : ByteArray} {n n0 : Nat} {ret r0 : Option FieldType} (h : Cond.code y cc n ret ∈ lw_gt) : GoodIn (wM y0 c0 n0 r0) (wM y cc n ret) := by
  intro w hw
  rcases List.mem_cons.mp hw with rfl | hw
  · exact ⟨List.mem_cons_of_mem _ h, good_of_word (lw_good _ h)⟩
  · exact ⟨List.mem_cons_of_mem _ hw, good_of_word (lw_good _ hw)⟩
abbrev GX : Type := va_G × ClassId × ClassId × ClassId
def tyL (G : GX) : List (ClassId × FieldType) := [(G.2.1, .int), (G.2.2.1, .long), (G.2.2.2, .object RX2)]
def PW (G : GX) (ws : va_W) (U : State) : Prop := va_P G.1 vcl ws U.heap ∧ va_K G.1 vcl (tyL G) U ∧ va_D (fun _ => True) ws
theorem PW.blind {av : List Value} {G : GX} {ws : va_W} : FrameBlind (va_Pc av (PW G ws)) := fun a U g mk q => ⟨q.1, q.2.1, va_K.moved (u := U) (U := U.calling g mk a) (Vm.Alike.refl U.vm) q.2.2.1, q.2.2.2⟩
def WD (G : GX) (A : Nat → Prop) (s : State) (ws : va_W) (H : Heap) (locs : List Loc) : Prop := va_K G.1 vcl (tyL G) s ∧ va_P G.1 vcl ws H ∧ va_D A ws ∧ va_S A s.heap H locs
def aw (ws : va_W) : Nat → Prop := fun q => ∃ (k : Nat) (e : va_E), ws[k]? = some (q, e)
def QO (v : Option Value) : Array Value → State → Outcome → State → Prop := fun _ st o t => o = .returned v ∧ t.heap = st.heap
def QW (G : GX) (ws' : va_W) (A : Nat → Prop) (v : Option Value) : Array Value → State → Outcome → State → Prop := fun _ st o t => o = .returned v ∧ va_P G.1 vcl ws' t.heap ∧ va_F A st t
def FX (p : Program) (m : MethodId) (c : Code) (cc : ByteArray) (nL : Nat) (s : State) (args : Array Value) (y : MethodName) (ret : Option FieldType) (own : String) (meth : Method) : Prop := CallFix p m c cc nL s args (wM y cc nL ret) own ∧ meth.sig.returnType = ret ∧ meth.locks = false
def MO (l : Launch) (y : MethodName) (cc : ByteArray) (n : Nat) (ret : Option FieldType) (rm : Room) (G : GX) (ws : va_W) (av : List Value) (v : Option Value) : Prop := Met l y (wM y cc n ret) rm (va_Pc av (PW G ws)) (QO v) 0 0 (fun _ => False)
def MW (l : Launch) (y : MethodName) (cc : ByteArray) (n : Nat) (ret : Option FieldType) (rm : Room) (G : GX) (ws ws' : va_W) (av : List Value) (v : Option Value) : Prop := Met l y (wM y cc n ret) rm (va_Pc av (PW G ws)) (QW G ws' (aw ws) v) 0 0 (aw ws)
theorem aw_of {ws : va_W} {k : Nat} {q : Nat × va_E} (h : ws[k]? = some q) : aw ws q.1 := ⟨k, q.2, h⟩
theorem va_D.own {A : Nat → Prop} {ws : va_W} (h : va_D A ws) : va_D (aw ws) ws := ⟨h.1, fun _ _ hk => aw_of hk⟩
theorem va_D.any {A : Nat → Prop} {ws : va_W} (h : va_D A ws) : va_D (fun _ => True) ws := ⟨h.1, fun _ _ _ => trivial⟩
theorem va_D.own_in {A : Nat → Prop} {ws : va_W} (h : va_D A ws) : ∀ q, aw ws q → A q := fun q ⟨k, e, hk⟩ => h.2 k (q, e) hk
theorem aw_va {ws : va_W} {n q : Nat} (h : aw ws q) : va_A ws n q := Or.inl h
/-- the same addresses: apart as before -/
theorem va_D.addr {A : Nat → Prop} {ws ws' : va_W} (h : va_D A ws) (he : ws'.map (fun q => q.1) = ws.map (fun q => q.1)) : va_D A ws' := by
  have key : ∀ (i : Nat) (q : Nat × va_E), ws'[i]? = some q → ∃ e, ws[i]? = some (q.1, e) := by
    intro i q hq
    have h1 : (ws'.map (fun q => q.1))[i]? = some q.1 := by rw [List.getElem?_map, hq]; rfl
    rw [he, List.getElem?_map] at h1
    cases hi : ws[i]? with
    | none => rw [hi] at h1; cases h1
    | some z => rw [hi] at h1; exact ⟨z.2, by rw [← (Option.some.inj h1 : z.1 = q.1)]⟩
  refine ⟨fun i j p q hp hq hpq => ?_, fun k q hq => ?_⟩
  · obtain ⟨e1, h1⟩ := key i p hp
    obtain ⟨e2, h2⟩ := key j q hq
    exact h.1 i j _ _ h1 h2 hpq
  · obtain ⟨e1, h1⟩ := key k q hq
    exact h.2 k (q.1, e1) h1
theorem aw_addr {ws ws' : va_W} (he : ws'.map (fun q => q.1) = ws.map (fun q => q.1)) {q : Nat} (h : aw ws' q) : aw ws q := by
  obtain ⟨k, e, hk⟩ := h
  have h1 : (ws'.map (fun q => q.1))[k]? = some q := by rw [List.getElem?_map, hk]; rfl
  rw [he, List.getElem?_map] at h1
  cases hi : ws[k]? with
  | none => rw [hi] at h1; cases h1
  | some z =>
    rw [hi] at h1
    have e1 : z.1 = q := Option.some.inj h1
    exact ⟨k, z.2, by rw [← e1]; exact hi⟩
-- pure words
theorem gd {α : Type} {c : Prop} {inst : Decidable c} {x : Option α} {y : α} (h : @ite (Option α) c inst x none = some y) : c ∧ x = some y := by
  by_cases hc : c
  · rw [if_pos hc] at h; exact ⟨hc, h⟩
  · rw [if_neg hc] at h; cases h
theorem itT {α : Type} {c : Prop} {inst : Decidable c} {x z : Option α} {y : α} (h : @ite (Option α) c inst x z = some y) (hc : c) : x = some y := by rw [if_pos hc] at h; exact h
theorem itF {α : Type} {c : Prop} {inst : Decidable c} {x z : Option α} {y : α} (h : @ite (Option α) c inst x z = some y) (hc : ¬ c) : z = some y := by rw [if_neg hc] at h; exact h
/-- of a branch that is taken where its word is false -/
theorem itN {α : Type} {c : Prop} {inst : Decidable c} {x z : Option α} {y : α} (h : @ite (Option α) c inst x z = some y) (hc : ¬ ¬ c) : x = some y := itT h (Decidable.not_not.mp hc)
theorem bnd {α β : Type} {o : Option α} {k : α → Option β} {y : β} (h : o.bind k = some y) : ∃ x, o = some x ∧ k x = some y := by
  cases o with
  | none => cases h
  | some x => exact ⟨x, rfl, h⟩
/-- an index within -/
def ix (i : Int32) (n : Nat) : Bool := !(decide (i < 0)) && decide (i.toNatClampNeg < n)
theorem ix_in {i : Int32} {n : Nat} (h : ix i n = true) : vp_in i n := by
  unfold ix at h
  simp only [Bool.and_eq_true, Bool.not_eq_true', decide_eq_false_iff_not, decide_eq_true_eq] at h
  rintro (q | q)
  · exact h.1 q
  · omega
/-- a truth value -/
def zb (v : Int32) : Bool := v == 0 || v == 1
theorem zb_ok {v : Int32} (h : zb v = true) : narrow .boolean (.int v) = .int v := by
  unfold zb at h
  simp only [Bool.or_eq_true, beq_iff_eq] at h
  rcases h with rfl | rfl <;> rfl
noncomputable def NF : Nat := Classical.choose (⟨20000, rfl⟩ : ∃ n : Nat, n = 20000)
theorem NF_eq : NF = 20000 := Classical.choose_spec (⟨20000, rfl⟩ : ∃ n : Nat, n = 20000)
section BASE
variable {p : Program} {l : Launch} {e : Env} {R : Room} {s : State} {m : MethodId} {args : Array Value} {below : List Frame} {meth : Method} {c : Code} {H : Heap} {locs : List Loc} {cells slots : Nat} {Q : State → Prop}
variable {G : GX} {A : Nat → Prop} {ws ws' : va_W} {cc : ByteArray} {nL pc : Nat} {y : MethodName} {ret : Option FieldType} {own : String} {ls : Array Slot} {rest : List Value}
theorem retO_i {r : Int32} (F : FX p m c cc nL s args y (some .int) own meth) (hdg : decode cc pc = .ok (.ireturn, 1)) : W p l e R s m args below meth c s.heap [] 0 0 (MQ below (QO (some (.int r))) args s 0 0 (fun _ => False)) (F0 m pc ls [.int r]) :=
  W.iret F.1.1 F.1.2.1 F.2.1 (fun t ht _ => ⟨rfl, ht⟩) (fun q h => by cases h) hdg F.2.2
theorem retO_z {r : Int32} (F : FX p m c cc nL s args y (some .boolean) own meth) (hn : narrow .boolean (.int r) = .int r) (hdg : decode cc pc = .ok (.ireturn, 1)) : W p l e R s m args below meth c s.heap [] 0 0 (MQ below (QO (some (.int r))) args s 0 0 (fun _ => False)) (F0 m pc ls [.int r]) :=
  W.zret F.1.1 F.1.2.1 F.2.1 hn (fun t ht _ => ⟨rfl, ht⟩) (fun q h => by cases h) hdg F.2.2
theorem retO_l {r : Int64} (F : FX p m c cc nL s args y (some .long) own meth) (hdg : decode cc pc = .ok (.lreturn, 1)) : W p l e R s m args below meth c s.heap [] 0 0 (MQ below (QO (some (.long r))) args s 0 0 (fun _ => False)) (F0 m pc ls [.long r]) :=
  W.lret F.1.1 F.1.2.1 F.2.1 (fun t ht _ => ⟨rfl, ht⟩) (fun q h => by cases h) hdg F.2.2
theorem retW_i {r : Int32} (F : FX p m c cc nL s args y (some .int) own meth) (hw : WD G A s ws H locs) (hdg : decode cc pc = .ok (.ireturn, 1)) : W p l e R s m args below meth c H locs 0 0 (MQ below (QW G ws A (some (.int r))) args s 0 0 A) (F0 m pc ls [.int r]) :=
  W.iret F.1.1 F.1.2.1 F.2.1 (fun t ht _ => ⟨rfl, by rw [ht]; exact hw.2.1, hw.2.2.2.F ht⟩) hw.2.2.2.2.2 hdg F.2.2
theorem retW_z {r : Int32} (F : FX p m c cc nL s args y (some .boolean) own meth) (hw : WD G A s ws H locs) (hn : narrow .boolean (.int r) = .int r) (hdg : decode cc pc = .ok (.ireturn, 1)) : W p l e R s m args below meth c H locs 0 0 (MQ below (QW G ws A (some (.int r))) args s 0 0 A) (F0 m pc ls [.int r]) :=
  W.zret F.1.1 F.1.2.1 F.2.1 hn (fun t ht _ => ⟨rfl, by rw [ht]; exact hw.2.1, hw.2.2.2.F ht⟩) hw.2.2.2.2.2 hdg F.2.2
theorem retW_l {r : Int64} (F : FX p m c cc nL s args y (some .long) own meth) (hw : WD G A s ws H locs) (hdg : decode cc pc = .ok (.lreturn, 1)) : W p l e R s m args below meth c H locs 0 0 (MQ below (QW G ws A (some (.long r))) args s 0 0 A) (F0 m pc ls [.long r]) :=
  W.lret F.1.1 F.1.2.1 F.2.1 (fun t ht _ => ⟨rfl, by rw [ht]; exact hw.2.1, hw.2.2.2.F ht⟩) hw.2.2.2.2.2 hdg F.2.2
theorem retW_v (F : FX p m c cc nL s args y none own meth) (hw : WD G A s ws H locs) (hdg : decode cc pc = .ok (.return_, 1)) : W p l e R s m args below meth c H locs 0 0 (MQ below (QW G ws A none) args s 0 0 A) (F0 m pc ls []) :=
  W.vret F.1.1 F.1.2.1 F.2.1 (fun t ht _ => ⟨rfl, by rw [ht]; exact hw.2.1, hw.2.2.2.F ht⟩) hw.2.2.2.2.2 hdg F.2.2
/-- a call that changes nothing -/
theorem callO {v : Option Value} {a : Array Value} {g : JFrame} (hr : va_Run p l e R s m args below meth c H locs cells slots 0 0 g rest (QO v a) (fun _ => False)) (kk : W p l e R s m args below meth c H locs cells slots Q { g with pc := g.pc + 3, stack := v.toList ++ rest }) : W p l e R s m args below meth c H locs cells slots Q g := by
  intro T hT X
  obtain ⟨v', st₀, t, T', L, h0, X', hL, e1, -, ⟨hv, hh⟩, st⟩ := hr T hT X
  cases hv
  obtain ⟨t2, a1, b1⟩ := kk T' (by rw [e1, hh, h0]) (Stand.forget X' (fun q h => (hL q h).elim))
  exact ⟨t2, st t2 a1, b1⟩
/-- a call that changes its world -/
theorem callW {v : Option Value} {a : Array Value} {g : JFrame} {A1 : Nat → Prop} {H0 : Heap} (hr : va_Run p l e R s m args below meth c H locs cells slots 0 0 g rest (QW G ws' A1 v a) A1) (hS : va_S A H0 H locs) (hA : ∀ q, A1 q → A q)
    (kk : ∀ (H1 : Heap) (locs1 : List Loc), va_P G.1 vcl ws' H1 → (∀ q : Nat, q < H.size → ¬ A1 q → H1[q]? = H[q]?) → va_S A H0 H1 locs1 → W p l e R s m args below meth c H1 locs1 cells slots Q { g with pc := g.pc + 3, stack := v.toList ++ rest }) : W p l e R s m args below meth c H locs cells slots Q g := by
  intro T hT X
  obtain ⟨v', st₀, t, T', L, h0, X', hL, e1, -, ⟨hv, hP, hz, hk⟩, st⟩ := hr T hT X
  cases hv
  rw [h0] at hz hk
  obtain ⟨t2, a1, b1⟩ := kk T'.heap (locs ++ L) (by rw [e1]; exact hP) (fun q h1 h2 => by rw [e1]; exact hk q h1 h2)
    ⟨Nat.le_trans hS.1 (by rw [e1]; exact hz), fun q h1 h2 => by rw [e1, hk q (Nat.lt_of_lt_of_le h1 hS.1) (fun z => h2 (hA q z))]; exact hS.2.1 q h1 h2, fun q hq => by
      rcases List.mem_append.mp hq with h | h
      · exact hS.2.2 q h
      · exact hA _ (hL q h)⟩ T' rfl X'
  exact ⟨t2, st t2 a1, b1⟩
theorem MO.of {n : Nat} {rm : Room} {av : List Value} {v : Option Value} (hy : plainName y.cls = true) (hn : (lg_sl av).length ≤ n)
    (body : ∀ (p : Program) (e : Env) (s : State) (m : MethodId) (below : List Frame) (meth : Method) (c : Code) (ls : Array Slot), FX p m c cc n s av.toArray y ret y.cls meth → WD G (fun _ => True) s ws s.heap [] → lv_has ls n (lv_args 0 av) →
      W p l e rm s m av.toArray below meth c s.heap [] 0 0 (MQ below (QO v) av.toArray s 0 0 (fun _ => False)) (F0 m 0 ls [])) : MO l y cc n ret rm G ws av v := by
  refine Met.ofW (cc := cc) (maxL := n) (ret := ret) hy rfl ?_
  intro p e s m args below meth c s₁ B hml hv
  obtain ⟨rfl, hP, hK, hD⟩ := hv
  rw [lg_entry_eq]
  exact body p e s m below meth c _ ⟨⟨B.exec, B.bytes, hml, findClass_of_methodNamed B.named, atoms_spec (ws := wM y cc n ret) B.pre⟩, B.returns, B.notSynchronized⟩ ⟨hK, hP, hD, va_S.rf⟩ (lv_entry av hn)
theorem MW.of {n : Nat} {rm : Room} {av : List Value} {v : Option Value} (hy : plainName y.cls = true) (hn : (lg_sl av).length ≤ n)
    (body : ∀ (p : Program) (e : Env) (s : State) (m : MethodId) (below : List Frame) (meth : Method) (c : Code) (ls : Array Slot), FX p m c cc n s av.toArray y ret y.cls meth → WD G (aw ws) s ws s.heap [] → lv_has ls n (lv_args 0 av) →
      W p l e rm s m av.toArray below meth c s.heap [] 0 0 (MQ below (QW G ws' (aw ws) v) av.toArray s 0 0 (aw ws)) (F0 m 0 ls [])) : MW l y cc n ret rm G ws ws' av v := by
  refine Met.ofW (cc := cc) (maxL := n) (ret := ret) hy rfl ?_
  intro p e s m args below meth c s₁ B hml hv
  obtain ⟨rfl, hP, hK, hD⟩ := hv
  rw [lg_entry_eq]
  exact body p e s m below meth c _ ⟨⟨B.exec, B.bytes, hml, findClass_of_methodNamed B.named, atoms_spec (ws := wM y cc n ret) B.pre⟩, B.returns, B.notSynchronized⟩ ⟨hK, hP, hD.own, va_S.rf⟩ (lv_entry av hn)
/-- what the tables say of a method that is called on an object -/
def YV (own : String) (idx : Nat) (y : MethodName) (cy : ByteArray) (n : Nat) (ret : Option FieldType) (k : Nat) : Prop := Cond.code y cy n ret ∈ lw_gt ∧ Cond.initialized y.cls ∈ lw_gt ∧ Cond.methodLink own idx y ∈ lw_gt ∧ Cond.instanceMethod y ∈ lw_gt ∧ Cond.selects y.cls y y ∈ lw_gt ∧ (y.cls ≠ "java/lang/invoke/MethodHandle" ∧ y.cls ≠ "java/lang/invoke/VarHandle" ∧ (parseMethodDescriptor y.desc).map (fun d => d.parameters.length) = some k)
def YS (own : String) (idx : Nat) (y : MethodName) (cy : ByteArray) (n : Nat) (ret : Option FieldType) (k : Nat) : Prop := Cond.code y cy n ret ∈ lw_gt ∧ Cond.initialized y.cls ∈ lw_gt ∧ Cond.methodLink own idx y ∈ lw_gt ∧ Cond.static y ∈ lw_gt ∧ (y.cls ≠ "java/lang/invoke/MethodHandle" ∧ y.cls ≠ "java/lang/invoke/VarHandle" ∧ (parseMethodDescriptor y.desc).map (fun d => d.parameters.length) = some k)
/-- a static method of a nest mate -/
def YN (own : String) (idx : Nat) (y : MethodName) (host : String) (cy : ByteArray) (n : Nat) (ret : Option FieldType) (k : Nat) : Prop := Cond.code y cy n ret ∈ lw_gt ∧ Cond.initialized y.cls ∈ lw_gt ∧ Cond.methodLinkNest own idx y host ∈ lw_gt ∧ Cond.static y ∈ lw_gt ∧ (y.cls ≠ "java/lang/invoke/MethodHandle" ∧ y.cls ≠ "java/lang/invoke/VarHandle" ∧ (parseMethodDescriptor y.desc).map (fun d => d.parameters.length) = some k)
variable {y2 : MethodName} {cy : ByteArray} {n2 k idx ci : Nat} {ret2 : Option FieldType} {rm : Room} {wc wc' : va_W} {b : Nat} {As st0 : List Value} {v : Option Value} {fs : List Value} {host : String}
theorem FX.tb (F : FX p m c cc nL s args y ret own meth) {w : Cond} (h : w ∈ lw_gt) : w.before args s = true := F.1.2.2.2.2 w (List.mem_cons_of_mem _ h)
theorem runV {Qc : Array Value → State → Outcome → State → Prop} {free : Addr → Prop} {q : vw_C} (F : FX p m c cc nL s args y ret own meth) (Y : YV own idx y2 cy n2 ret2 k) (hM : Met l y2 (wM y2 cy n2 ret2) rm (va_Pc (.ref b :: As) (PW G wc)) Qc 0 0 free) (hK : va_K G.1 vcl (tyL G) s) (hP : va_P G.1 vcl wc H) (hD : va_D A wc)
    (he : wc[0]? = some (b, .inr (ci, fs))) (hc : vcl[ci]? = some q) (hq : q.1 = y2.cls) (hrc : rm.cells = 0 ∧ rm.slots = 0) (hR : rm.frames + 1 ≤ R.frames ∧ 8 + (n2 + 11) + rm.locals ≤ R.locals) (hcs : cells ≤ R.cells ∧ slots ≤ R.slots) (hn : As.length = k) (hsz : ls.size = nL) (hst : st0 = As.reverse ++ .ref b :: rest) (hW : (rest.map fun v => v.category).sum ≤ 8) (hdg : decode cc pc = .ok (.invokevirtual idx, 3)) :
    va_Run p l e R s m args below meth c H locs cells slots 0 0 (F0 m pc ls st0) rest (Qc (Value.ref b :: As).toArray) free := by
  have h1 := F.tb Y.2.1
  refine va_runV F.1 hM ⟨callB_of k F.1.2.2.2.2 (wM_good Y.1) rfl hrc.1 hrc.2 h1 (F.tb Y.2.2.1) Y.2.2.2.2.2 hR, F.tb Y.2.2.2.1, F.tb Y.2.2.2.2.1⟩ ⟨PW.blind, ?_, fun U hU hW => ⟨rfl, by rw [hU]; exact hP, va_K.moved hW.alike hK, hD.any⟩⟩ rfl hn hsz hst (lv_room hW) hdg hcs
  have := va_recv hK hP hc he
  rw [hq] at this
  exact this
theorem runS {Qc : Array Value → State → Outcome → State → Prop} {free : Addr → Prop} (F : FX p m c cc nL s args y ret own meth) (Y : YS own idx y2 cy n2 ret2 k) (hM : Met l y2 (wM y2 cy n2 ret2) rm (va_Pc As (PW G wc)) Qc 0 0 free) (hK : va_K G.1 vcl (tyL G) s) (hP : va_P G.1 vcl wc H) (hD : va_D A wc)
    (hrc : rm.cells = 0 ∧ rm.slots = 0) (hR : rm.frames + 1 ≤ R.frames ∧ 8 + (n2 + 11) + rm.locals ≤ R.locals) (hcs : cells ≤ R.cells ∧ slots ≤ R.slots) (hn : As.length = k) (hsz : ls.size = nL) (hst : st0 = As.reverse ++ rest) (hW : (rest.map fun v => v.category).sum ≤ 8) (hdg : decode cc pc = .ok (.invokestatic idx, 3)) :
    va_Run p l e R s m args below meth c H locs cells slots 0 0 (F0 m pc ls st0) rest (Qc As.toArray) free :=
  va_runS F.1 hM ⟨callB_of k F.1.2.2.2.2 (wM_good Y.1) rfl hrc.1 hrc.2 (F.tb Y.2.1) (F.tb Y.2.2.1) Y.2.2.2.2 hR, F.tb Y.2.2.2.1⟩ ⟨PW.blind, fun U hU hW => ⟨rfl, by rw [hU]; exact hP, va_K.moved hW.alike hK, hD.any⟩⟩ rfl hn hsz hst (lv_room hW) hdg hcs
theorem runN {Qc : Array Value → State → Outcome → State → Prop} {free : Addr → Prop} (F : FX p m c cc nL s args y ret own meth) (Y : YN own idx y2 host cy n2 ret2 k) (hM : Met l y2 (wM y2 cy n2 ret2) rm (va_Pc As (PW G wc)) Qc 0 0 free) (hK : va_K G.1 vcl (tyL G) s) (hP : va_P G.1 vcl wc H) (hD : va_D A wc)
    (hrc : rm.cells = 0 ∧ rm.slots = 0) (hR : rm.frames + 1 ≤ R.frames ∧ 8 + (n2 + 11) + rm.locals ≤ R.locals) (hcs : cells ≤ R.cells ∧ slots ≤ R.slots) (hn : As.length = k) (hsz : ls.size = nL) (hst : st0 = As.reverse ++ rest) (hW : (rest.map fun v => v.category).sum ≤ 8) (hdg : decode cc pc = .ok (.invokestatic idx, 3)) :
    va_Run p l e R s m args below meth c H locs cells slots 0 0 (F0 m pc ls st0) rest (Qc As.toArray) free :=
  va_runSN F.1 hM ⟨va_cnB k F.1.2.2.2.2 (wM_good Y.1) rfl hrc.1 hrc.2 (va_Nw.of rfl (F.tb Y.2.2.1)) (F.tb Y.2.1) Y.2.2.2.2 hR, F.tb Y.2.2.2.1, trivial⟩ ⟨PW.blind, fun U hU hW => ⟨rfl, by rw [hU]; exact hP, va_K.moved hW.alike hK, hD.any⟩⟩ rfl hn hsz hst (lv_room hW) hdg hcs
end BASE
end
section
/-! ===== the world of LabelHallModel ===== -/
abbrev MS : Type := (Nat → Int32) × (Nat → Nat → Int32) × (Nat → Nat → Int64)
def mF (u : MS) (k : Nat) (x : Int32) : MS := (va_up u.1 k x, u.2)
def mA (u : MS) (k i : Nat) (x : Int32) : MS := (u.1, va_up u.2.1 k (upd (u.2.1 k) i x), u.2.2)
def mB (u : MS) (k i : Nat) (x : Int64) : MS := (u.1, u.2.1, va_up u.2.2 k (vp_updL (u.2.2 k) i x))
def mw (G : GX) (ad : Nat → Nat) (u : MS) : va_W := [(ad 0, .inr (4, [.int (u.1 0), .int (u.1 1), .ref (ad 2), .ref (ad 3), .ref (ad 4), .ref (ad 5), .ref (ad 6), .ref (ad 7), .ref (ad 8), .ref (ad 9), .ref (ad 10), .ref (ad 11), .ref (ad 12), .ref (ad 13), .ref (ad 14), .int (u.1 15), .ref (ad 16), .ref (ad 17), .int (u.1 18), .int (u.1 19), .int (u.1 20), .ref (ad 21), .int (u.1 22), .ref (ad 23), .int (u.1 24)])), (ad 2, .inl (G.2.1, 8, .inl (u.2.1 2))), (ad 3, .inl (G.2.1, 8, .inl (u.2.1 3))), (ad 4, .inl (G.2.1, 8, .inl (u.2.1 4))), (ad 5, .inl (G.2.1, 8, .inl (u.2.1 5))), (ad 6, .inl (G.2.1, 8, .inl (u.2.1 6))), (ad 7, .inl (G.2.1, 4800, .inl (u.2.1 7))), (ad 8, .inl (G.2.1, 4800, .inl (u.2.1 8))), (ad 9, .inl (G.2.2.1, 4800, .inr (.inl (u.2.2 9)))), (ad 10, .inl (G.2.2.1, 600, .inr (.inl (u.2.2 10)))), (ad 11, .inl (G.2.1, 600, .inl (u.2.1 11))), (ad 12, .inl (G.2.1, 20, .inl (u.2.1 12))), (ad 13, .inl (G.2.1, 20, .inl (u.2.1 13))), (ad 14, .inl (G.2.1, 20, .inl (u.2.1 14))), (ad 16, .inl (G.2.1, 98460, .inl (u.2.1 16))), (ad 17, .inl (G.2.2.1, 48600, .inr (.inl (u.2.2 17)))), (ad 21, .inl (G.2.2.1, 601, .inr (.inl (u.2.2 21)))), (ad 23, .inl (G.2.1, 600, .inl (u.2.1 23)))]
theorem inX4 : ∀ w ∈ u_ws RX4 TX4 25, w ∈ lw_gt := by decide +kernel
section WM
variable {p : Program} {l : Launch} {e : Env} {R : Room} {s : State} {m : MethodId} {args : Array Value} {below : List Frame} {meth : Method} {c : Code} {H : Heap} {locs : List Loc} {cells slots : Nat} {Q : State → Prop}
variable {G : GX} {A : Nat → Prop} {ad : Nat → Nat} {u : MS} {cc : ByteArray} {nL pc : Nat} {y : MethodName} {ret : Option FieldType} {ls : Array Slot} {rest : List Value}
theorem m_g0 (F : FX p m c cc nL s args y ret RX4 meth) (hw : WD G A s (mw G ad u) H locs) (hdg : decode cc pc = .ok (.getfield 64, 3)) (kk : W p l e R s m args below meth c H locs cells slots Q (F0 m (pc + 3) ls (.int (u.1 0) :: rest))) : W p l e R s m args below meth c H locs cells slots Q (F0 m pc ls (.ref (ad 0) :: rest)) := va_get (D := G.1) (ci := 4) (C := RX4) (T := TX4) (N := 25) (Ts := lw_gt) F.1.1 F.1.2.1 (fun _ h => F.tb h) inX4 F.1.2.2.2.1 hw.1 hw.2.1 0 rfl rfl 0 (by decide) (F.tb (tw 511 (by decide +kernel) rfl)) (fun _ h9 => h9) rfl hdg kk
theorem m_p0 {x : Int32} (F : FX p m c cc nL s args y ret RX4 meth) (hw : WD G A s (mw G ad u) H locs) (hdg : decode cc pc = .ok (.putfield 64, 3)) (kk : ∀ (H : Heap) (locs : List Loc), WD G A s (mw G ad (mF u 0 x)) H locs → W p l e R s m args below meth c H locs cells slots Q (F0 m (pc + 3) ls (rest))) : W p l e R s m args below meth c H locs cells slots Q (F0 m pc ls (.int x :: .ref (ad 0) :: rest)) := va_put (D := G.1) (ci := 4) (ty := .int) (C := RX4) (T := TX4) (N := 25) (Ts := lw_gt) F.1.1 F.1.2.1 (fun _ h => F.tb h) inX4 tyX4 tyX4_ok nmX4 F.1.2.2.2.1 hw.1 hw.2.1 hw.2.2.1 hw.2.2.2 0 rfl rfl 0 (by decide) (F.tb (tw 511 (by decide +kernel) rfl)) (fun _ h9 => h9) rfl (by decide +kernel) rfl rfl (Nat.le_of_ble_eq_true rfl) hdg (fun H1 l1 hP hD hS => kk H1 l1 ⟨hw.1, hP, hD, hS⟩)
theorem m_g1 (F : FX p m c cc nL s args y ret RX4 meth) (hw : WD G A s (mw G ad u) H locs) (hdg : decode cc pc = .ok (.getfield 97, 3)) (kk : W p l e R s m args below meth c H locs cells slots Q (F0 m (pc + 3) ls (.int (u.1 1) :: rest))) : W p l e R s m args below meth c H locs cells slots Q (F0 m pc ls (.ref (ad 0) :: rest)) := va_get (D := G.1) (ci := 4) (C := RX4) (T := TX4) (N := 25) (Ts := lw_gt) F.1.1 F.1.2.1 (fun _ h => F.tb h) inX4 F.1.2.2.2.1 hw.1 hw.2.1 0 rfl rfl 1 (by decide) (F.tb (tw 512 (by decide +kernel) rfl)) (fun _ h9 => h9) rfl hdg kk
theorem m_p1 {x : Int32} (F : FX p m c cc nL s args y ret RX4 meth) (hw : WD G A s (mw G ad u) H locs) (hdg : decode cc pc = .ok (.putfield 97, 3)) (kk : ∀ (H : Heap) (locs : List Loc), WD G A s (mw G ad (mF u 1 x)) H locs → W p l e R s m args below meth c H locs cells slots Q (F0 m (pc + 3) ls (rest))) : W p l e R s m args below meth c H locs cells slots Q (F0 m pc ls (.int x :: .ref (ad 0) :: rest)) := va_put (D := G.1) (ci := 4) (ty := .int) (C := RX4) (T := TX4) (N := 25) (Ts := lw_gt) F.1.1 F.1.2.1 (fun _ h => F.tb h) inX4 tyX4 tyX4_ok nmX4 F.1.2.2.2.1 hw.1 hw.2.1 hw.2.2.1 hw.2.2.2 0 rfl rfl 1 (by decide) (F.tb (tw 512 (by decide +kernel) rfl)) (fun _ h9 => h9) rfl (by decide +kernel) rfl rfl (Nat.le_of_ble_eq_true rfl) hdg (fun H1 l1 hP hD hS => kk H1 l1 ⟨hw.1, hP, hD, hS⟩)
theorem m_g2 (F : FX p m c cc nL s args y ret RX4 meth) (hw : WD G A s (mw G ad u) H locs) (hdg : decode cc pc = .ok (.getfield 7, 3)) (kk : W p l e R s m args below meth c H locs cells slots Q (F0 m (pc + 3) ls (.ref (ad 2) :: rest))) : W p l e R s m args below meth c H locs cells slots Q (F0 m pc ls (.ref (ad 0) :: rest)) := va_get (D := G.1) (ci := 4) (C := RX4) (T := TX4) (N := 25) (Ts := lw_gt) F.1.1 F.1.2.1 (fun _ h => F.tb h) inX4 F.1.2.2.2.1 hw.1 hw.2.1 0 rfl rfl 2 (by decide) (F.tb (tw 513 (by decide +kernel) rfl)) (fun _ h9 => h9) rfl hdg kk
theorem m_l2 {i : Int32} (F : FX p m c cc nL s args y ret RX4 meth) (hw : WD G A s (mw G ad u) H locs) (hi : ix i 8 = true) (hdg : decode cc pc = .ok (.iaload, 1)) (kk : W p l e R s m args below meth c H locs cells slots Q (F0 m (pc + 1) ls (.int (u.2.1 2 i.toNatClampNeg) :: rest))) : W p l e R s m args below meth c H locs cells slots Q (F0 m pc ls (.int i :: .ref (ad 2) :: rest)) := va_iald F.1.1 F.1.2.1 hw.1 hw.2.1 1 0 rfl rfl (ix_in hi) hdg kk
theorem m_s2 {i x : Int32} (F : FX p m c cc nL s args y ret RX4 meth) (hw : WD G A s (mw G ad u) H locs) (hi : ix i 8 = true) (hdg : decode cc pc = .ok (.iastore, 1)) (kk : ∀ (H : Heap) (locs : List Loc), WD G A s (mw G ad (mA u 2 i.toNatClampNeg x)) H locs → W p l e R s m args below meth c H locs cells slots Q (F0 m (pc + 1) ls (rest))) : W p l e R s m args below meth c H locs cells slots Q (F0 m pc ls (.int x :: .int i :: .ref (ad 2) :: rest)) := va_iast F.1.1 F.1.2.1 hw.1 hw.2.1 hw.2.2.1 hw.2.2.2 1 0 rfl rfl (ix_in hi) hdg (fun H1 l1 hP hD hS => kk H1 l1 ⟨hw.1, hP, hD, hS⟩)
theorem m_g3 (F : FX p m c cc nL s args y ret RX4 meth) (hw : WD G A s (mw G ad u) H locs) (hdg : decode cc pc = .ok (.getfield 13, 3)) (kk : W p l e R s m args below meth c H locs cells slots Q (F0 m (pc + 3) ls (.ref (ad 3) :: rest))) : W p l e R s m args below meth c H locs cells slots Q (F0 m pc ls (.ref (ad 0) :: rest)) := va_get (D := G.1) (ci := 4) (C := RX4) (T := TX4) (N := 25) (Ts := lw_gt) F.1.1 F.1.2.1 (fun _ h => F.tb h) inX4 F.1.2.2.2.1 hw.1 hw.2.1 0 rfl rfl 3 (by decide) (F.tb (tw 514 (by decide +kernel) rfl)) (fun _ h9 => h9) rfl hdg kk
theorem m_l3 {i : Int32} (F : FX p m c cc nL s args y ret RX4 meth) (hw : WD G A s (mw G ad u) H locs) (hi : ix i 8 = true) (hdg : decode cc pc = .ok (.iaload, 1)) (kk : W p l e R s m args below meth c H locs cells slots Q (F0 m (pc + 1) ls (.int (u.2.1 3 i.toNatClampNeg) :: rest))) : W p l e R s m args below meth c H locs cells slots Q (F0 m pc ls (.int i :: .ref (ad 3) :: rest)) := va_iald F.1.1 F.1.2.1 hw.1 hw.2.1 2 0 rfl rfl (ix_in hi) hdg kk
theorem m_s3 {i x : Int32} (F : FX p m c cc nL s args y ret RX4 meth) (hw : WD G A s (mw G ad u) H locs) (hi : ix i 8 = true) (hdg : decode cc pc = .ok (.iastore, 1)) (kk : ∀ (H : Heap) (locs : List Loc), WD G A s (mw G ad (mA u 3 i.toNatClampNeg x)) H locs → W p l e R s m args below meth c H locs cells slots Q (F0 m (pc + 1) ls (rest))) : W p l e R s m args below meth c H locs cells slots Q (F0 m pc ls (.int x :: .int i :: .ref (ad 3) :: rest)) := va_iast F.1.1 F.1.2.1 hw.1 hw.2.1 hw.2.2.1 hw.2.2.2 2 0 rfl rfl (ix_in hi) hdg (fun H1 l1 hP hD hS => kk H1 l1 ⟨hw.1, hP, hD, hS⟩)
theorem m_g4 (F : FX p m c cc nL s args y ret RX4 meth) (hw : WD G A s (mw G ad u) H locs) (hdg : decode cc pc = .ok (.getfield 16, 3)) (kk : W p l e R s m args below meth c H locs cells slots Q (F0 m (pc + 3) ls (.ref (ad 4) :: rest))) : W p l e R s m args below meth c H locs cells slots Q (F0 m pc ls (.ref (ad 0) :: rest)) := va_get (D := G.1) (ci := 4) (C := RX4) (T := TX4) (N := 25) (Ts := lw_gt) F.1.1 F.1.2.1 (fun _ h => F.tb h) inX4 F.1.2.2.2.1 hw.1 hw.2.1 0 rfl rfl 4 (by decide) (F.tb (tw 515 (by decide +kernel) rfl)) (fun _ h9 => h9) rfl hdg kk
theorem m_l4 {i : Int32} (F : FX p m c cc nL s args y ret RX4 meth) (hw : WD G A s (mw G ad u) H locs) (hi : ix i 8 = true) (hdg : decode cc pc = .ok (.iaload, 1)) (kk : W p l e R s m args below meth c H locs cells slots Q (F0 m (pc + 1) ls (.int (u.2.1 4 i.toNatClampNeg) :: rest))) : W p l e R s m args below meth c H locs cells slots Q (F0 m pc ls (.int i :: .ref (ad 4) :: rest)) := va_iald F.1.1 F.1.2.1 hw.1 hw.2.1 3 0 rfl rfl (ix_in hi) hdg kk
theorem m_s4 {i x : Int32} (F : FX p m c cc nL s args y ret RX4 meth) (hw : WD G A s (mw G ad u) H locs) (hi : ix i 8 = true) (hdg : decode cc pc = .ok (.iastore, 1)) (kk : ∀ (H : Heap) (locs : List Loc), WD G A s (mw G ad (mA u 4 i.toNatClampNeg x)) H locs → W p l e R s m args below meth c H locs cells slots Q (F0 m (pc + 1) ls (rest))) : W p l e R s m args below meth c H locs cells slots Q (F0 m pc ls (.int x :: .int i :: .ref (ad 4) :: rest)) := va_iast F.1.1 F.1.2.1 hw.1 hw.2.1 hw.2.2.1 hw.2.2.2 3 0 rfl rfl (ix_in hi) hdg (fun H1 l1 hP hD hS => kk H1 l1 ⟨hw.1, hP, hD, hS⟩)
theorem m_g5 (F : FX p m c cc nL s args y ret RX4 meth) (hw : WD G A s (mw G ad u) H locs) (hdg : decode cc pc = .ok (.getfield 19, 3)) (kk : W p l e R s m args below meth c H locs cells slots Q (F0 m (pc + 3) ls (.ref (ad 5) :: rest))) : W p l e R s m args below meth c H locs cells slots Q (F0 m pc ls (.ref (ad 0) :: rest)) := va_get (D := G.1) (ci := 4) (C := RX4) (T := TX4) (N := 25) (Ts := lw_gt) F.1.1 F.1.2.1 (fun _ h => F.tb h) inX4 F.1.2.2.2.1 hw.1 hw.2.1 0 rfl rfl 5 (by decide) (F.tb (tw 516 (by decide +kernel) rfl)) (fun _ h9 => h9) rfl hdg kk
theorem m_l5 {i : Int32} (F : FX p m c cc nL s args y ret RX4 meth) (hw : WD G A s (mw G ad u) H locs) (hi : ix i 8 = true) (hdg : decode cc pc = .ok (.iaload, 1)) (kk : W p l e R s m args below meth c H locs cells slots Q (F0 m (pc + 1) ls (.int (u.2.1 5 i.toNatClampNeg) :: rest))) : W p l e R s m args below meth c H locs cells slots Q (F0 m pc ls (.int i :: .ref (ad 5) :: rest)) := va_iald F.1.1 F.1.2.1 hw.1 hw.2.1 4 0 rfl rfl (ix_in hi) hdg kk
theorem m_s5 {i x : Int32} (F : FX p m c cc nL s args y ret RX4 meth) (hw : WD G A s (mw G ad u) H locs) (hi : ix i 8 = true) (hdg : decode cc pc = .ok (.iastore, 1)) (kk : ∀ (H : Heap) (locs : List Loc), WD G A s (mw G ad (mA u 5 i.toNatClampNeg x)) H locs → W p l e R s m args below meth c H locs cells slots Q (F0 m (pc + 1) ls (rest))) : W p l e R s m args below meth c H locs cells slots Q (F0 m pc ls (.int x :: .int i :: .ref (ad 5) :: rest)) := va_iast F.1.1 F.1.2.1 hw.1 hw.2.1 hw.2.2.1 hw.2.2.2 4 0 rfl rfl (ix_in hi) hdg (fun H1 l1 hP hD hS => kk H1 l1 ⟨hw.1, hP, hD, hS⟩)
theorem m_g6 (F : FX p m c cc nL s args y ret RX4 meth) (hw : WD G A s (mw G ad u) H locs) (hdg : decode cc pc = .ok (.getfield 22, 3)) (kk : W p l e R s m args below meth c H locs cells slots Q (F0 m (pc + 3) ls (.ref (ad 6) :: rest))) : W p l e R s m args below meth c H locs cells slots Q (F0 m pc ls (.ref (ad 0) :: rest)) := va_get (D := G.1) (ci := 4) (C := RX4) (T := TX4) (N := 25) (Ts := lw_gt) F.1.1 F.1.2.1 (fun _ h => F.tb h) inX4 F.1.2.2.2.1 hw.1 hw.2.1 0 rfl rfl 6 (by decide) (F.tb (tw 517 (by decide +kernel) rfl)) (fun _ h9 => h9) rfl hdg kk
theorem m_l6 {i : Int32} (F : FX p m c cc nL s args y ret RX4 meth) (hw : WD G A s (mw G ad u) H locs) (hi : ix i 8 = true) (hdg : decode cc pc = .ok (.iaload, 1)) (kk : W p l e R s m args below meth c H locs cells slots Q (F0 m (pc + 1) ls (.int (u.2.1 6 i.toNatClampNeg) :: rest))) : W p l e R s m args below meth c H locs cells slots Q (F0 m pc ls (.int i :: .ref (ad 6) :: rest)) := va_iald F.1.1 F.1.2.1 hw.1 hw.2.1 5 0 rfl rfl (ix_in hi) hdg kk
theorem m_s6 {i x : Int32} (F : FX p m c cc nL s args y ret RX4 meth) (hw : WD G A s (mw G ad u) H locs) (hi : ix i 8 = true) (hdg : decode cc pc = .ok (.iastore, 1)) (kk : ∀ (H : Heap) (locs : List Loc), WD G A s (mw G ad (mA u 6 i.toNatClampNeg x)) H locs → W p l e R s m args below meth c H locs cells slots Q (F0 m (pc + 1) ls (rest))) : W p l e R s m args below meth c H locs cells slots Q (F0 m pc ls (.int x :: .int i :: .ref (ad 6) :: rest)) := va_iast F.1.1 F.1.2.1 hw.1 hw.2.1 hw.2.2.1 hw.2.2.2 5 0 rfl rfl (ix_in hi) hdg (fun H1 l1 hP hD hS => kk H1 l1 ⟨hw.1, hP, hD, hS⟩)
theorem m_g7 (F : FX p m c cc nL s args y ret RX4 meth) (hw : WD G A s (mw G ad u) H locs) (hdg : decode cc pc = .ok (.getfield 25, 3)) (kk : W p l e R s m args below meth c H locs cells slots Q (F0 m (pc + 3) ls (.ref (ad 7) :: rest))) : W p l e R s m args below meth c H locs cells slots Q (F0 m pc ls (.ref (ad 0) :: rest)) := va_get (D := G.1) (ci := 4) (C := RX4) (T := TX4) (N := 25) (Ts := lw_gt) F.1.1 F.1.2.1 (fun _ h => F.tb h) inX4 F.1.2.2.2.1 hw.1 hw.2.1 0 rfl rfl 7 (by decide) (F.tb (tw 518 (by decide +kernel) rfl)) (fun _ h9 => h9) rfl hdg kk
theorem m_l7 {i : Int32} (F : FX p m c cc nL s args y ret RX4 meth) (hw : WD G A s (mw G ad u) H locs) (hi : ix i 4800 = true) (hdg : decode cc pc = .ok (.iaload, 1)) (kk : W p l e R s m args below meth c H locs cells slots Q (F0 m (pc + 1) ls (.int (u.2.1 7 i.toNatClampNeg) :: rest))) : W p l e R s m args below meth c H locs cells slots Q (F0 m pc ls (.int i :: .ref (ad 7) :: rest)) := va_iald F.1.1 F.1.2.1 hw.1 hw.2.1 6 0 rfl rfl (ix_in hi) hdg kk
theorem m_s7 {i x : Int32} (F : FX p m c cc nL s args y ret RX4 meth) (hw : WD G A s (mw G ad u) H locs) (hi : ix i 4800 = true) (hdg : decode cc pc = .ok (.iastore, 1)) (kk : ∀ (H : Heap) (locs : List Loc), WD G A s (mw G ad (mA u 7 i.toNatClampNeg x)) H locs → W p l e R s m args below meth c H locs cells slots Q (F0 m (pc + 1) ls (rest))) : W p l e R s m args below meth c H locs cells slots Q (F0 m pc ls (.int x :: .int i :: .ref (ad 7) :: rest)) := va_iast F.1.1 F.1.2.1 hw.1 hw.2.1 hw.2.2.1 hw.2.2.2 6 0 rfl rfl (ix_in hi) hdg (fun H1 l1 hP hD hS => kk H1 l1 ⟨hw.1, hP, hD, hS⟩)
theorem m_g8 (F : FX p m c cc nL s args y ret RX4 meth) (hw : WD G A s (mw G ad u) H locs) (hdg : decode cc pc = .ok (.getfield 28, 3)) (kk : W p l e R s m args below meth c H locs cells slots Q (F0 m (pc + 3) ls (.ref (ad 8) :: rest))) : W p l e R s m args below meth c H locs cells slots Q (F0 m pc ls (.ref (ad 0) :: rest)) := va_get (D := G.1) (ci := 4) (C := RX4) (T := TX4) (N := 25) (Ts := lw_gt) F.1.1 F.1.2.1 (fun _ h => F.tb h) inX4 F.1.2.2.2.1 hw.1 hw.2.1 0 rfl rfl 8 (by decide) (F.tb (tw 519 (by decide +kernel) rfl)) (fun _ h9 => h9) rfl hdg kk
theorem m_l8 {i : Int32} (F : FX p m c cc nL s args y ret RX4 meth) (hw : WD G A s (mw G ad u) H locs) (hi : ix i 4800 = true) (hdg : decode cc pc = .ok (.iaload, 1)) (kk : W p l e R s m args below meth c H locs cells slots Q (F0 m (pc + 1) ls (.int (u.2.1 8 i.toNatClampNeg) :: rest))) : W p l e R s m args below meth c H locs cells slots Q (F0 m pc ls (.int i :: .ref (ad 8) :: rest)) := va_iald F.1.1 F.1.2.1 hw.1 hw.2.1 7 0 rfl rfl (ix_in hi) hdg kk
theorem m_s8 {i x : Int32} (F : FX p m c cc nL s args y ret RX4 meth) (hw : WD G A s (mw G ad u) H locs) (hi : ix i 4800 = true) (hdg : decode cc pc = .ok (.iastore, 1)) (kk : ∀ (H : Heap) (locs : List Loc), WD G A s (mw G ad (mA u 8 i.toNatClampNeg x)) H locs → W p l e R s m args below meth c H locs cells slots Q (F0 m (pc + 1) ls (rest))) : W p l e R s m args below meth c H locs cells slots Q (F0 m pc ls (.int x :: .int i :: .ref (ad 8) :: rest)) := va_iast F.1.1 F.1.2.1 hw.1 hw.2.1 hw.2.2.1 hw.2.2.2 7 0 rfl rfl (ix_in hi) hdg (fun H1 l1 hP hD hS => kk H1 l1 ⟨hw.1, hP, hD, hS⟩)
theorem m_g9 (F : FX p m c cc nL s args y ret RX4 meth) (hw : WD G A s (mw G ad u) H locs) (hdg : decode cc pc = .ok (.getfield 31, 3)) (kk : W p l e R s m args below meth c H locs cells slots Q (F0 m (pc + 3) ls (.ref (ad 9) :: rest))) : W p l e R s m args below meth c H locs cells slots Q (F0 m pc ls (.ref (ad 0) :: rest)) := va_get (D := G.1) (ci := 4) (C := RX4) (T := TX4) (N := 25) (Ts := lw_gt) F.1.1 F.1.2.1 (fun _ h => F.tb h) inX4 F.1.2.2.2.1 hw.1 hw.2.1 0 rfl rfl 9 (by decide) (F.tb (tw 520 (by decide +kernel) rfl)) (fun _ h9 => h9) rfl hdg kk
theorem m_l9 {i : Int32} (F : FX p m c cc nL s args y ret RX4 meth) (hw : WD G A s (mw G ad u) H locs) (hi : ix i 4800 = true) (hdg : decode cc pc = .ok (.laload, 1)) (kk : W p l e R s m args below meth c H locs cells slots Q (F0 m (pc + 1) ls (.long (u.2.2 9 i.toNatClampNeg) :: rest))) : W p l e R s m args below meth c H locs cells slots Q (F0 m pc ls (.int i :: .ref (ad 9) :: rest)) := va_lald F.1.1 F.1.2.1 hw.1 hw.2.1 8 1 rfl rfl (ix_in hi) hdg kk
theorem m_s9 {i : Int32} {x : Int64} (F : FX p m c cc nL s args y ret RX4 meth) (hw : WD G A s (mw G ad u) H locs) (hi : ix i 4800 = true) (hdg : decode cc pc = .ok (.lastore, 1)) (kk : ∀ (H : Heap) (locs : List Loc), WD G A s (mw G ad (mB u 9 i.toNatClampNeg x)) H locs → W p l e R s m args below meth c H locs cells slots Q (F0 m (pc + 1) ls (rest))) : W p l e R s m args below meth c H locs cells slots Q (F0 m pc ls (.long x :: .int i :: .ref (ad 9) :: rest)) := va_last F.1.1 F.1.2.1 hw.1 hw.2.1 hw.2.2.1 hw.2.2.2 8 1 rfl rfl (ix_in hi) hdg (fun H1 l1 hP hD hS => kk H1 l1 ⟨hw.1, hP, hD, hS⟩)
theorem m_g10 (F : FX p m c cc nL s args y ret RX4 meth) (hw : WD G A s (mw G ad u) H locs) (hdg : decode cc pc = .ok (.getfield 35, 3)) (kk : W p l e R s m args below meth c H locs cells slots Q (F0 m (pc + 3) ls (.ref (ad 10) :: rest))) : W p l e R s m args below meth c H locs cells slots Q (F0 m pc ls (.ref (ad 0) :: rest)) := va_get (D := G.1) (ci := 4) (C := RX4) (T := TX4) (N := 25) (Ts := lw_gt) F.1.1 F.1.2.1 (fun _ h => F.tb h) inX4 F.1.2.2.2.1 hw.1 hw.2.1 0 rfl rfl 10 (by decide) (F.tb (tw 521 (by decide +kernel) rfl)) (fun _ h9 => h9) rfl hdg kk
theorem m_l10 {i : Int32} (F : FX p m c cc nL s args y ret RX4 meth) (hw : WD G A s (mw G ad u) H locs) (hi : ix i 600 = true) (hdg : decode cc pc = .ok (.laload, 1)) (kk : W p l e R s m args below meth c H locs cells slots Q (F0 m (pc + 1) ls (.long (u.2.2 10 i.toNatClampNeg) :: rest))) : W p l e R s m args below meth c H locs cells slots Q (F0 m pc ls (.int i :: .ref (ad 10) :: rest)) := va_lald F.1.1 F.1.2.1 hw.1 hw.2.1 9 1 rfl rfl (ix_in hi) hdg kk
theorem m_s10 {i : Int32} {x : Int64} (F : FX p m c cc nL s args y ret RX4 meth) (hw : WD G A s (mw G ad u) H locs) (hi : ix i 600 = true) (hdg : decode cc pc = .ok (.lastore, 1)) (kk : ∀ (H : Heap) (locs : List Loc), WD G A s (mw G ad (mB u 10 i.toNatClampNeg x)) H locs → W p l e R s m args below meth c H locs cells slots Q (F0 m (pc + 1) ls (rest))) : W p l e R s m args below meth c H locs cells slots Q (F0 m pc ls (.long x :: .int i :: .ref (ad 10) :: rest)) := va_last F.1.1 F.1.2.1 hw.1 hw.2.1 hw.2.2.1 hw.2.2.2 9 1 rfl rfl (ix_in hi) hdg (fun H1 l1 hP hD hS => kk H1 l1 ⟨hw.1, hP, hD, hS⟩)
theorem m_g11 (F : FX p m c cc nL s args y ret RX4 meth) (hw : WD G A s (mw G ad u) H locs) (hdg : decode cc pc = .ok (.getfield 38, 3)) (kk : W p l e R s m args below meth c H locs cells slots Q (F0 m (pc + 3) ls (.ref (ad 11) :: rest))) : W p l e R s m args below meth c H locs cells slots Q (F0 m pc ls (.ref (ad 0) :: rest)) := va_get (D := G.1) (ci := 4) (C := RX4) (T := TX4) (N := 25) (Ts := lw_gt) F.1.1 F.1.2.1 (fun _ h => F.tb h) inX4 F.1.2.2.2.1 hw.1 hw.2.1 0 rfl rfl 11 (by decide) (F.tb (tw 522 (by decide +kernel) rfl)) (fun _ h9 => h9) rfl hdg kk
theorem m_l11 {i : Int32} (F : FX p m c cc nL s args y ret RX4 meth) (hw : WD G A s (mw G ad u) H locs) (hi : ix i 600 = true) (hdg : decode cc pc = .ok (.iaload, 1)) (kk : W p l e R s m args below meth c H locs cells slots Q (F0 m (pc + 1) ls (.int (u.2.1 11 i.toNatClampNeg) :: rest))) : W p l e R s m args below meth c H locs cells slots Q (F0 m pc ls (.int i :: .ref (ad 11) :: rest)) := va_iald F.1.1 F.1.2.1 hw.1 hw.2.1 10 0 rfl rfl (ix_in hi) hdg kk
theorem m_s11 {i x : Int32} (F : FX p m c cc nL s args y ret RX4 meth) (hw : WD G A s (mw G ad u) H locs) (hi : ix i 600 = true) (hdg : decode cc pc = .ok (.iastore, 1)) (kk : ∀ (H : Heap) (locs : List Loc), WD G A s (mw G ad (mA u 11 i.toNatClampNeg x)) H locs → W p l e R s m args below meth c H locs cells slots Q (F0 m (pc + 1) ls (rest))) : W p l e R s m args below meth c H locs cells slots Q (F0 m pc ls (.int x :: .int i :: .ref (ad 11) :: rest)) := va_iast F.1.1 F.1.2.1 hw.1 hw.2.1 hw.2.2.1 hw.2.2.2 10 0 rfl rfl (ix_in hi) hdg (fun H1 l1 hP hD hS => kk H1 l1 ⟨hw.1, hP, hD, hS⟩)
theorem m_g12 (F : FX p m c cc nL s args y ret RX4 meth) (hw : WD G A s (mw G ad u) H locs) (hdg : decode cc pc = .ok (.getfield 41, 3)) (kk : W p l e R s m args below meth c H locs cells slots Q (F0 m (pc + 3) ls (.ref (ad 12) :: rest))) : W p l e R s m args below meth c H locs cells slots Q (F0 m pc ls (.ref (ad 0) :: rest)) := va_get (D := G.1) (ci := 4) (C := RX4) (T := TX4) (N := 25) (Ts := lw_gt) F.1.1 F.1.2.1 (fun _ h => F.tb h) inX4 F.1.2.2.2.1 hw.1 hw.2.1 0 rfl rfl 12 (by decide) (F.tb (tw 523 (by decide +kernel) rfl)) (fun _ h9 => h9) rfl hdg kk
theorem m_l12 {i : Int32} (F : FX p m c cc nL s args y ret RX4 meth) (hw : WD G A s (mw G ad u) H locs) (hi : ix i 20 = true) (hdg : decode cc pc = .ok (.iaload, 1)) (kk : W p l e R s m args below meth c H locs cells slots Q (F0 m (pc + 1) ls (.int (u.2.1 12 i.toNatClampNeg) :: rest))) : W p l e R s m args below meth c H locs cells slots Q (F0 m pc ls (.int i :: .ref (ad 12) :: rest)) := va_iald F.1.1 F.1.2.1 hw.1 hw.2.1 11 0 rfl rfl (ix_in hi) hdg kk
theorem m_s12 {i x : Int32} (F : FX p m c cc nL s args y ret RX4 meth) (hw : WD G A s (mw G ad u) H locs) (hi : ix i 20 = true) (hdg : decode cc pc = .ok (.iastore, 1)) (kk : ∀ (H : Heap) (locs : List Loc), WD G A s (mw G ad (mA u 12 i.toNatClampNeg x)) H locs → W p l e R s m args below meth c H locs cells slots Q (F0 m (pc + 1) ls (rest))) : W p l e R s m args below meth c H locs cells slots Q (F0 m pc ls (.int x :: .int i :: .ref (ad 12) :: rest)) := va_iast F.1.1 F.1.2.1 hw.1 hw.2.1 hw.2.2.1 hw.2.2.2 11 0 rfl rfl (ix_in hi) hdg (fun H1 l1 hP hD hS => kk H1 l1 ⟨hw.1, hP, hD, hS⟩)
theorem m_g13 (F : FX p m c cc nL s args y ret RX4 meth) (hw : WD G A s (mw G ad u) H locs) (hdg : decode cc pc = .ok (.getfield 44, 3)) (kk : W p l e R s m args below meth c H locs cells slots Q (F0 m (pc + 3) ls (.ref (ad 13) :: rest))) : W p l e R s m args below meth c H locs cells slots Q (F0 m pc ls (.ref (ad 0) :: rest)) := va_get (D := G.1) (ci := 4) (C := RX4) (T := TX4) (N := 25) (Ts := lw_gt) F.1.1 F.1.2.1 (fun _ h => F.tb h) inX4 F.1.2.2.2.1 hw.1 hw.2.1 0 rfl rfl 13 (by decide) (F.tb (tw 524 (by decide +kernel) rfl)) (fun _ h9 => h9) rfl hdg kk
theorem m_l13 {i : Int32} (F : FX p m c cc nL s args y ret RX4 meth) (hw : WD G A s (mw G ad u) H locs) (hi : ix i 20 = true) (hdg : decode cc pc = .ok (.iaload, 1)) (kk : W p l e R s m args below meth c H locs cells slots Q (F0 m (pc + 1) ls (.int (u.2.1 13 i.toNatClampNeg) :: rest))) : W p l e R s m args below meth c H locs cells slots Q (F0 m pc ls (.int i :: .ref (ad 13) :: rest)) := va_iald F.1.1 F.1.2.1 hw.1 hw.2.1 12 0 rfl rfl (ix_in hi) hdg kk
theorem m_s13 {i x : Int32} (F : FX p m c cc nL s args y ret RX4 meth) (hw : WD G A s (mw G ad u) H locs) (hi : ix i 20 = true) (hdg : decode cc pc = .ok (.iastore, 1)) (kk : ∀ (H : Heap) (locs : List Loc), WD G A s (mw G ad (mA u 13 i.toNatClampNeg x)) H locs → W p l e R s m args below meth c H locs cells slots Q (F0 m (pc + 1) ls (rest))) : W p l e R s m args below meth c H locs cells slots Q (F0 m pc ls (.int x :: .int i :: .ref (ad 13) :: rest)) := va_iast F.1.1 F.1.2.1 hw.1 hw.2.1 hw.2.2.1 hw.2.2.2 12 0 rfl rfl (ix_in hi) hdg (fun H1 l1 hP hD hS => kk H1 l1 ⟨hw.1, hP, hD, hS⟩)
theorem m_g14 (F : FX p m c cc nL s args y ret RX4 meth) (hw : WD G A s (mw G ad u) H locs) (hdg : decode cc pc = .ok (.getfield 47, 3)) (kk : W p l e R s m args below meth c H locs cells slots Q (F0 m (pc + 3) ls (.ref (ad 14) :: rest))) : W p l e R s m args below meth c H locs cells slots Q (F0 m pc ls (.ref (ad 0) :: rest)) := va_get (D := G.1) (ci := 4) (C := RX4) (T := TX4) (N := 25) (Ts := lw_gt) F.1.1 F.1.2.1 (fun _ h => F.tb h) inX4 F.1.2.2.2.1 hw.1 hw.2.1 0 rfl rfl 14 (by decide) (F.tb (tw 525 (by decide +kernel) rfl)) (fun _ h9 => h9) rfl hdg kk
theorem m_l14 {i : Int32} (F : FX p m c cc nL s args y ret RX4 meth) (hw : WD G A s (mw G ad u) H locs) (hi : ix i 20 = true) (hdg : decode cc pc = .ok (.iaload, 1)) (kk : W p l e R s m args below meth c H locs cells slots Q (F0 m (pc + 1) ls (.int (u.2.1 14 i.toNatClampNeg) :: rest))) : W p l e R s m args below meth c H locs cells slots Q (F0 m pc ls (.int i :: .ref (ad 14) :: rest)) := va_iald F.1.1 F.1.2.1 hw.1 hw.2.1 13 0 rfl rfl (ix_in hi) hdg kk
theorem m_s14 {i x : Int32} (F : FX p m c cc nL s args y ret RX4 meth) (hw : WD G A s (mw G ad u) H locs) (hi : ix i 20 = true) (hdg : decode cc pc = .ok (.iastore, 1)) (kk : ∀ (H : Heap) (locs : List Loc), WD G A s (mw G ad (mA u 14 i.toNatClampNeg x)) H locs → W p l e R s m args below meth c H locs cells slots Q (F0 m (pc + 1) ls (rest))) : W p l e R s m args below meth c H locs cells slots Q (F0 m pc ls (.int x :: .int i :: .ref (ad 14) :: rest)) := va_iast F.1.1 F.1.2.1 hw.1 hw.2.1 hw.2.2.1 hw.2.2.2 13 0 rfl rfl (ix_in hi) hdg (fun H1 l1 hP hD hS => kk H1 l1 ⟨hw.1, hP, hD, hS⟩)
theorem m_g15 (F : FX p m c cc nL s args y ret RX4 meth) (hw : WD G A s (mw G ad u) H locs) (hdg : decode cc pc = .ok (.getfield 75, 3)) (kk : W p l e R s m args below meth c H locs cells slots Q (F0 m (pc + 3) ls (.int (u.1 15) :: rest))) : W p l e R s m args below meth c H locs cells slots Q (F0 m pc ls (.ref (ad 0) :: rest)) := va_get (D := G.1) (ci := 4) (C := RX4) (T := TX4) (N := 25) (Ts := lw_gt) F.1.1 F.1.2.1 (fun _ h => F.tb h) inX4 F.1.2.2.2.1 hw.1 hw.2.1 0 rfl rfl 15 (by decide) (F.tb (tw 526 (by decide +kernel) rfl)) (fun _ h9 => h9) rfl hdg kk
theorem m_p15 {x : Int32} (F : FX p m c cc nL s args y ret RX4 meth) (hw : WD G A s (mw G ad u) H locs) (hdg : decode cc pc = .ok (.putfield 75, 3)) (kk : ∀ (H : Heap) (locs : List Loc), WD G A s (mw G ad (mF u 15 x)) H locs → W p l e R s m args below meth c H locs cells slots Q (F0 m (pc + 3) ls (rest))) : W p l e R s m args below meth c H locs cells slots Q (F0 m pc ls (.int x :: .ref (ad 0) :: rest)) := va_put (D := G.1) (ci := 4) (ty := .int) (C := RX4) (T := TX4) (N := 25) (Ts := lw_gt) F.1.1 F.1.2.1 (fun _ h => F.tb h) inX4 tyX4 tyX4_ok nmX4 F.1.2.2.2.1 hw.1 hw.2.1 hw.2.2.1 hw.2.2.2 0 rfl rfl 15 (by decide) (F.tb (tw 526 (by decide +kernel) rfl)) (fun _ h9 => h9) rfl (by decide +kernel) rfl rfl (Nat.le_of_ble_eq_true rfl) hdg (fun H1 l1 hP hD hS => kk H1 l1 ⟨hw.1, hP, hD, hS⟩)
theorem m_g16 (F : FX p m c cc nL s args y ret RX4 meth) (hw : WD G A s (mw G ad u) H locs) (hdg : decode cc pc = .ok (.getfield 51, 3)) (kk : W p l e R s m args below meth c H locs cells slots Q (F0 m (pc + 3) ls (.ref (ad 16) :: rest))) : W p l e R s m args below meth c H locs cells slots Q (F0 m pc ls (.ref (ad 0) :: rest)) := va_get (D := G.1) (ci := 4) (C := RX4) (T := TX4) (N := 25) (Ts := lw_gt) F.1.1 F.1.2.1 (fun _ h => F.tb h) inX4 F.1.2.2.2.1 hw.1 hw.2.1 0 rfl rfl 16 (by decide) (F.tb (tw 527 (by decide +kernel) rfl)) (fun _ h9 => h9) rfl hdg kk
theorem m_l16 {i : Int32} (F : FX p m c cc nL s args y ret RX4 meth) (hw : WD G A s (mw G ad u) H locs) (hi : ix i 98460 = true) (hdg : decode cc pc = .ok (.iaload, 1)) (kk : W p l e R s m args below meth c H locs cells slots Q (F0 m (pc + 1) ls (.int (u.2.1 16 i.toNatClampNeg) :: rest))) : W p l e R s m args below meth c H locs cells slots Q (F0 m pc ls (.int i :: .ref (ad 16) :: rest)) := va_iald F.1.1 F.1.2.1 hw.1 hw.2.1 14 0 rfl rfl (ix_in hi) hdg kk
theorem m_s16 {i x : Int32} (F : FX p m c cc nL s args y ret RX4 meth) (hw : WD G A s (mw G ad u) H locs) (hi : ix i 98460 = true) (hdg : decode cc pc = .ok (.iastore, 1)) (kk : ∀ (H : Heap) (locs : List Loc), WD G A s (mw G ad (mA u 16 i.toNatClampNeg x)) H locs → W p l e R s m args below meth c H locs cells slots Q (F0 m (pc + 1) ls (rest))) : W p l e R s m args below meth c H locs cells slots Q (F0 m pc ls (.int x :: .int i :: .ref (ad 16) :: rest)) := va_iast F.1.1 F.1.2.1 hw.1 hw.2.1 hw.2.2.1 hw.2.2.2 14 0 rfl rfl (ix_in hi) hdg (fun H1 l1 hP hD hS => kk H1 l1 ⟨hw.1, hP, hD, hS⟩)
theorem m_g17 (F : FX p m c cc nL s args y ret RX4 meth) (hw : WD G A s (mw G ad u) H locs) (hdg : decode cc pc = .ok (.getfield 55, 3)) (kk : W p l e R s m args below meth c H locs cells slots Q (F0 m (pc + 3) ls (.ref (ad 17) :: rest))) : W p l e R s m args below meth c H locs cells slots Q (F0 m pc ls (.ref (ad 0) :: rest)) := va_get (D := G.1) (ci := 4) (C := RX4) (T := TX4) (N := 25) (Ts := lw_gt) F.1.1 F.1.2.1 (fun _ h => F.tb h) inX4 F.1.2.2.2.1 hw.1 hw.2.1 0 rfl rfl 17 (by decide) (F.tb (tw 528 (by decide +kernel) rfl)) (fun _ h9 => h9) rfl hdg kk
theorem m_l17 {i : Int32} (F : FX p m c cc nL s args y ret RX4 meth) (hw : WD G A s (mw G ad u) H locs) (hi : ix i 48600 = true) (hdg : decode cc pc = .ok (.laload, 1)) (kk : W p l e R s m args below meth c H locs cells slots Q (F0 m (pc + 1) ls (.long (u.2.2 17 i.toNatClampNeg) :: rest))) : W p l e R s m args below meth c H locs cells slots Q (F0 m pc ls (.int i :: .ref (ad 17) :: rest)) := va_lald F.1.1 F.1.2.1 hw.1 hw.2.1 15 1 rfl rfl (ix_in hi) hdg kk
theorem m_s17 {i : Int32} {x : Int64} (F : FX p m c cc nL s args y ret RX4 meth) (hw : WD G A s (mw G ad u) H locs) (hi : ix i 48600 = true) (hdg : decode cc pc = .ok (.lastore, 1)) (kk : ∀ (H : Heap) (locs : List Loc), WD G A s (mw G ad (mB u 17 i.toNatClampNeg x)) H locs → W p l e R s m args below meth c H locs cells slots Q (F0 m (pc + 1) ls (rest))) : W p l e R s m args below meth c H locs cells slots Q (F0 m pc ls (.long x :: .int i :: .ref (ad 17) :: rest)) := va_last F.1.1 F.1.2.1 hw.1 hw.2.1 hw.2.2.1 hw.2.2.2 15 1 rfl rfl (ix_in hi) hdg (fun H1 l1 hP hD hS => kk H1 l1 ⟨hw.1, hP, hD, hS⟩)
theorem m_g18 (F : FX p m c cc nL s args y ret RX4 meth) (hw : WD G A s (mw G ad u) H locs) (hdg : decode cc pc = .ok (.getfield 81, 3)) (kk : W p l e R s m args below meth c H locs cells slots Q (F0 m (pc + 3) ls (.int (u.1 18) :: rest))) : W p l e R s m args below meth c H locs cells slots Q (F0 m pc ls (.ref (ad 0) :: rest)) := va_get (D := G.1) (ci := 4) (C := RX4) (T := TX4) (N := 25) (Ts := lw_gt) F.1.1 F.1.2.1 (fun _ h => F.tb h) inX4 F.1.2.2.2.1 hw.1 hw.2.1 0 rfl rfl 18 (by decide) (F.tb (tw 529 (by decide +kernel) rfl)) (fun _ h9 => h9) rfl hdg kk
theorem m_p18 {x : Int32} (F : FX p m c cc nL s args y ret RX4 meth) (hw : WD G A s (mw G ad u) H locs) (hdg : decode cc pc = .ok (.putfield 81, 3)) (kk : ∀ (H : Heap) (locs : List Loc), WD G A s (mw G ad (mF u 18 x)) H locs → W p l e R s m args below meth c H locs cells slots Q (F0 m (pc + 3) ls (rest))) : W p l e R s m args below meth c H locs cells slots Q (F0 m pc ls (.int x :: .ref (ad 0) :: rest)) := va_put (D := G.1) (ci := 4) (ty := .int) (C := RX4) (T := TX4) (N := 25) (Ts := lw_gt) F.1.1 F.1.2.1 (fun _ h => F.tb h) inX4 tyX4 tyX4_ok nmX4 F.1.2.2.2.1 hw.1 hw.2.1 hw.2.2.1 hw.2.2.2 0 rfl rfl 18 (by decide) (F.tb (tw 529 (by decide +kernel) rfl)) (fun _ h9 => h9) rfl (by decide +kernel) rfl rfl (Nat.le_of_ble_eq_true rfl) hdg (fun H1 l1 hP hD hS => kk H1 l1 ⟨hw.1, hP, hD, hS⟩)
theorem m_g19 (F : FX p m c cc nL s args y ret RX4 meth) (hw : WD G A s (mw G ad u) H locs) (hdg : decode cc pc = .ok (.getfield 86, 3)) (kk : W p l e R s m args below meth c H locs cells slots Q (F0 m (pc + 3) ls (.int (u.1 19) :: rest))) : W p l e R s m args below meth c H locs cells slots Q (F0 m pc ls (.ref (ad 0) :: rest)) := va_get (D := G.1) (ci := 4) (C := RX4) (T := TX4) (N := 25) (Ts := lw_gt) F.1.1 F.1.2.1 (fun _ h => F.tb h) inX4 F.1.2.2.2.1 hw.1 hw.2.1 0 rfl rfl 19 (by decide) (F.tb (tw 530 (by decide +kernel) rfl)) (fun _ h9 => h9) rfl hdg kk
theorem m_p19 {x : Int32} (F : FX p m c cc nL s args y ret RX4 meth) (hw : WD G A s (mw G ad u) H locs) (hdg : decode cc pc = .ok (.putfield 86, 3)) (kk : ∀ (H : Heap) (locs : List Loc), WD G A s (mw G ad (mF u 19 x)) H locs → W p l e R s m args below meth c H locs cells slots Q (F0 m (pc + 3) ls (rest))) : W p l e R s m args below meth c H locs cells slots Q (F0 m pc ls (.int x :: .ref (ad 0) :: rest)) := va_put (D := G.1) (ci := 4) (ty := .int) (C := RX4) (T := TX4) (N := 25) (Ts := lw_gt) F.1.1 F.1.2.1 (fun _ h => F.tb h) inX4 tyX4 tyX4_ok nmX4 F.1.2.2.2.1 hw.1 hw.2.1 hw.2.2.1 hw.2.2.2 0 rfl rfl 19 (by decide) (F.tb (tw 530 (by decide +kernel) rfl)) (fun _ h9 => h9) rfl (by decide +kernel) rfl rfl (Nat.le_of_ble_eq_true rfl) hdg (fun H1 l1 hP hD hS => kk H1 l1 ⟨hw.1, hP, hD, hS⟩)
theorem m_g20 (F : FX p m c cc nL s args y ret RX4 meth) (hw : WD G A s (mw G ad u) H locs) (hdg : decode cc pc = .ok (.getfield 68, 3)) (kk : W p l e R s m args below meth c H locs cells slots Q (F0 m (pc + 3) ls (.int (u.1 20) :: rest))) : W p l e R s m args below meth c H locs cells slots Q (F0 m pc ls (.ref (ad 0) :: rest)) := va_get (D := G.1) (ci := 4) (C := RX4) (T := TX4) (N := 25) (Ts := lw_gt) F.1.1 F.1.2.1 (fun _ h => F.tb h) inX4 F.1.2.2.2.1 hw.1 hw.2.1 0 rfl rfl 20 (by decide) (F.tb (tw 531 (by decide +kernel) rfl)) (fun _ h9 => h9) rfl hdg kk
theorem m_p20 {x : Int32} (F : FX p m c cc nL s args y ret RX4 meth) (hw : WD G A s (mw G ad u) H locs) (hdg : decode cc pc = .ok (.putfield 68, 3)) (kk : ∀ (H : Heap) (locs : List Loc), WD G A s (mw G ad (mF u 20 x)) H locs → W p l e R s m args below meth c H locs cells slots Q (F0 m (pc + 3) ls (rest))) : W p l e R s m args below meth c H locs cells slots Q (F0 m pc ls (.int x :: .ref (ad 0) :: rest)) := va_put (D := G.1) (ci := 4) (ty := .int) (C := RX4) (T := TX4) (N := 25) (Ts := lw_gt) F.1.1 F.1.2.1 (fun _ h => F.tb h) inX4 tyX4 tyX4_ok nmX4 F.1.2.2.2.1 hw.1 hw.2.1 hw.2.2.1 hw.2.2.2 0 rfl rfl 20 (by decide) (F.tb (tw 531 (by decide +kernel) rfl)) (fun _ h9 => h9) rfl (by decide +kernel) rfl rfl (Nat.le_of_ble_eq_true rfl) hdg (fun H1 l1 hP hD hS => kk H1 l1 ⟨hw.1, hP, hD, hS⟩)
theorem m_g21 (F : FX p m c cc nL s args y ret RX4 meth) (hw : WD G A s (mw G ad u) H locs) (hdg : decode cc pc = .ok (.getfield 58, 3)) (kk : W p l e R s m args below meth c H locs cells slots Q (F0 m (pc + 3) ls (.ref (ad 21) :: rest))) : W p l e R s m args below meth c H locs cells slots Q (F0 m pc ls (.ref (ad 0) :: rest)) := va_get (D := G.1) (ci := 4) (C := RX4) (T := TX4) (N := 25) (Ts := lw_gt) F.1.1 F.1.2.1 (fun _ h => F.tb h) inX4 F.1.2.2.2.1 hw.1 hw.2.1 0 rfl rfl 21 (by decide) (F.tb (tw 532 (by decide +kernel) rfl)) (fun _ h9 => h9) rfl hdg kk
theorem m_l21 {i : Int32} (F : FX p m c cc nL s args y ret RX4 meth) (hw : WD G A s (mw G ad u) H locs) (hi : ix i 601 = true) (hdg : decode cc pc = .ok (.laload, 1)) (kk : W p l e R s m args below meth c H locs cells slots Q (F0 m (pc + 1) ls (.long (u.2.2 21 i.toNatClampNeg) :: rest))) : W p l e R s m args below meth c H locs cells slots Q (F0 m pc ls (.int i :: .ref (ad 21) :: rest)) := va_lald F.1.1 F.1.2.1 hw.1 hw.2.1 16 1 rfl rfl (ix_in hi) hdg kk
theorem m_s21 {i : Int32} {x : Int64} (F : FX p m c cc nL s args y ret RX4 meth) (hw : WD G A s (mw G ad u) H locs) (hi : ix i 601 = true) (hdg : decode cc pc = .ok (.lastore, 1)) (kk : ∀ (H : Heap) (locs : List Loc), WD G A s (mw G ad (mB u 21 i.toNatClampNeg x)) H locs → W p l e R s m args below meth c H locs cells slots Q (F0 m (pc + 1) ls (rest))) : W p l e R s m args below meth c H locs cells slots Q (F0 m pc ls (.long x :: .int i :: .ref (ad 21) :: rest)) := va_last F.1.1 F.1.2.1 hw.1 hw.2.1 hw.2.2.1 hw.2.2.2 16 1 rfl rfl (ix_in hi) hdg (fun H1 l1 hP hD hS => kk H1 l1 ⟨hw.1, hP, hD, hS⟩)
theorem m_g22 (F : FX p m c cc nL s args y ret RX4 meth) (hw : WD G A s (mw G ad u) H locs) (hdg : decode cc pc = .ok (.getfield 112, 3)) (kk : W p l e R s m args below meth c H locs cells slots Q (F0 m (pc + 3) ls (.int (u.1 22) :: rest))) : W p l e R s m args below meth c H locs cells slots Q (F0 m pc ls (.ref (ad 0) :: rest)) := va_get (D := G.1) (ci := 4) (C := RX4) (T := TX4) (N := 25) (Ts := lw_gt) F.1.1 F.1.2.1 (fun _ h => F.tb h) inX4 F.1.2.2.2.1 hw.1 hw.2.1 0 rfl rfl 22 (by decide) (F.tb (tw 533 (by decide +kernel) rfl)) (fun _ h9 => h9) rfl hdg kk
theorem m_p22 {x : Int32} (F : FX p m c cc nL s args y ret RX4 meth) (hw : WD G A s (mw G ad u) H locs) (hdg : decode cc pc = .ok (.putfield 112, 3)) (kk : ∀ (H : Heap) (locs : List Loc), WD G A s (mw G ad (mF u 22 x)) H locs → W p l e R s m args below meth c H locs cells slots Q (F0 m (pc + 3) ls (rest))) : W p l e R s m args below meth c H locs cells slots Q (F0 m pc ls (.int x :: .ref (ad 0) :: rest)) := va_put (D := G.1) (ci := 4) (ty := .int) (C := RX4) (T := TX4) (N := 25) (Ts := lw_gt) F.1.1 F.1.2.1 (fun _ h => F.tb h) inX4 tyX4 tyX4_ok nmX4 F.1.2.2.2.1 hw.1 hw.2.1 hw.2.2.1 hw.2.2.2 0 rfl rfl 22 (by decide) (F.tb (tw 533 (by decide +kernel) rfl)) (fun _ h9 => h9) rfl (by decide +kernel) rfl rfl (Nat.le_of_ble_eq_true rfl) hdg (fun H1 l1 hP hD hS => kk H1 l1 ⟨hw.1, hP, hD, hS⟩)
theorem m_g23 (F : FX p m c cc nL s args y ret RX4 meth) (hw : WD G A s (mw G ad u) H locs) (hdg : decode cc pc = .ok (.getfield 61, 3)) (kk : W p l e R s m args below meth c H locs cells slots Q (F0 m (pc + 3) ls (.ref (ad 23) :: rest))) : W p l e R s m args below meth c H locs cells slots Q (F0 m pc ls (.ref (ad 0) :: rest)) := va_get (D := G.1) (ci := 4) (C := RX4) (T := TX4) (N := 25) (Ts := lw_gt) F.1.1 F.1.2.1 (fun _ h => F.tb h) inX4 F.1.2.2.2.1 hw.1 hw.2.1 0 rfl rfl 23 (by decide) (F.tb (tw 534 (by decide +kernel) rfl)) (fun _ h9 => h9) rfl hdg kk
theorem m_l23 {i : Int32} (F : FX p m c cc nL s args y ret RX4 meth) (hw : WD G A s (mw G ad u) H locs) (hi : ix i 600 = true) (hdg : decode cc pc = .ok (.iaload, 1)) (kk : W p l e R s m args below meth c H locs cells slots Q (F0 m (pc + 1) ls (.int (u.2.1 23 i.toNatClampNeg) :: rest))) : W p l e R s m args below meth c H locs cells slots Q (F0 m pc ls (.int i :: .ref (ad 23) :: rest)) := va_iald F.1.1 F.1.2.1 hw.1 hw.2.1 17 0 rfl rfl (ix_in hi) hdg kk
theorem m_s23 {i x : Int32} (F : FX p m c cc nL s args y ret RX4 meth) (hw : WD G A s (mw G ad u) H locs) (hi : ix i 600 = true) (hdg : decode cc pc = .ok (.iastore, 1)) (kk : ∀ (H : Heap) (locs : List Loc), WD G A s (mw G ad (mA u 23 i.toNatClampNeg x)) H locs → W p l e R s m args below meth c H locs cells slots Q (F0 m (pc + 1) ls (rest))) : W p l e R s m args below meth c H locs cells slots Q (F0 m pc ls (.int x :: .int i :: .ref (ad 23) :: rest)) := va_iast F.1.1 F.1.2.1 hw.1 hw.2.1 hw.2.2.1 hw.2.2.2 17 0 rfl rfl (ix_in hi) hdg (fun H1 l1 hP hD hS => kk H1 l1 ⟨hw.1, hP, hD, hS⟩)
theorem m_g24 (F : FX p m c cc nL s args y ret RX4 meth) (hw : WD G A s (mw G ad u) H locs) (hdg : decode cc pc = .ok (.getfield 174, 3)) (kk : W p l e R s m args below meth c H locs cells slots Q (F0 m (pc + 3) ls (.int (u.1 24) :: rest))) : W p l e R s m args below meth c H locs cells slots Q (F0 m pc ls (.ref (ad 0) :: rest)) := va_get (D := G.1) (ci := 4) (C := RX4) (T := TX4) (N := 25) (Ts := lw_gt) F.1.1 F.1.2.1 (fun _ h => F.tb h) inX4 F.1.2.2.2.1 hw.1 hw.2.1 0 rfl rfl 24 (by decide) (F.tb (tw 535 (by decide +kernel) rfl)) (fun _ h9 => h9) rfl hdg kk
theorem m_p24 {x : Int32} (F : FX p m c cc nL s args y ret RX4 meth) (hw : WD G A s (mw G ad u) H locs) (hdg : decode cc pc = .ok (.putfield 174, 3)) (kk : ∀ (H : Heap) (locs : List Loc), WD G A s (mw G ad (mF u 24 x)) H locs → W p l e R s m args below meth c H locs cells slots Q (F0 m (pc + 3) ls (rest))) : W p l e R s m args below meth c H locs cells slots Q (F0 m pc ls (.int x :: .ref (ad 0) :: rest)) := va_put (D := G.1) (ci := 4) (ty := .int) (C := RX4) (T := TX4) (N := 25) (Ts := lw_gt) F.1.1 F.1.2.1 (fun _ h => F.tb h) inX4 tyX4 tyX4_ok nmX4 F.1.2.2.2.1 hw.1 hw.2.1 hw.2.2.1 hw.2.2.2 0 rfl rfl 24 (by decide) (F.tb (tw 535 (by decide +kernel) rfl)) (fun _ h9 => h9) rfl (by decide +kernel) rfl rfl (Nat.le_of_ble_eq_true rfl) hdg (fun H1 l1 hP hD hS => kk H1 l1 ⟨hw.1, hP, hD, hS⟩)
end WM
end
section
/-! ===== X4_in ===== -/
theorem dX4_in_0 : decode cX4_in 0 = .ok (.iload_n 0, 1) := by decide +kernel
theorem dX4_in_1 : decode cX4_in 1 = .ok (.iload_n 1, 1) := by decide +kernel
theorem dX4_in_2 : decode cX4_in 2 = .ok (.if_icmp .lt 12, 3) := by decide +kernel
theorem dX4_in_5 : decode cX4_in 5 = .ok (.iload_n 0, 1) := by decide +kernel
theorem dX4_in_6 : decode cX4_in 6 = .ok (.iload_n 2, 1) := by decide +kernel
theorem dX4_in_7 : decode cX4_in 7 = .ok (.if_icmp .gt 7, 3) := by decide +kernel
theorem dX4_in_10 : decode cX4_in 10 = .ok (.iconst 1, 1) := by decide +kernel
theorem dX4_in_11 : decode cX4_in 11 = .ok (.goto 4, 3) := by decide +kernel
theorem dX4_in_14 : decode cX4_in 14 = .ok (.iconst 0, 1) := by decide +kernel
theorem dX4_in_15 : decode cX4_in 15 = .ok (.ireturn, 1) := by decide +kernel
def rmX4_in : Room := { frames := 0, cells := 0, slots := 0, locals := 0 }
noncomputable def f_X4_in (x0 : Int32) (x1 : Int32) (x2 : Int32) : Option (Int32) := (if x0 < x1 then some 0 else (if x2 < x0 then some 0 else some 1))
section
variable {p : Program} {l : Launch} {e : Env} {s : State} {m : MethodId} {args : Array Value} {below : List Frame} {meth : Method} {c : Code}
variable {G : GX} {A : Nat → Prop} {ad : Nat → Nat}
set_option maxHeartbeats 4000000 in
set_option maxRecDepth 100000 in
theorem w_X4_in_0 (F : FX p m c cX4_in 3 s args yX4_in (some .boolean) RX4 meth) {z : Int32} : ∀ (x0 : Int32) (x1 : Int32) (x2 : Int32) (ls : Array Slot), WD G A s [] s.heap [] → lv_has ls 3 [(0, .int x0), (1, .int x1), (2, .int x2)] → f_X4_in x0 x1 x2 = some z → W p l e rmX4_in s m args below meth c s.heap [] 0 0 (MQ below (QO (some (.int z))) args s 0 0 (fun _ => False)) (F0 m 0 ls []) := by
  obtain ⟨⟨hx, hb, hml, hown, hts⟩, hr, hlocks⟩ := id F
  intro x0 x1 x2 ls hw hl h
  unfold f_X4_in at h
  refine lv_iload_n hx hb dX4_in_0 rfl (lv_at hl 0 rfl) ?_
  refine lv_iload_n hx hb dX4_in_1 rfl (lv_at hl 1 rfl) ?_
  refine lv_icmp_lt (tgt := 14) hx hb dX4_in_2 rfl (fun c1 => ?_) (fun c1 => ?_)
  · replace h := itT h c1
    refine lv_iconst (v := 0) hx hb dX4_in_14 rfl ?_
    cases h
    exact retO_z F rfl dX4_in_15
  · replace h := itF h c1
    refine lv_iload_n hx hb dX4_in_5 rfl (lv_at hl 0 rfl) ?_
    refine lv_iload_n hx hb dX4_in_6 rfl (lv_at hl 2 rfl) ?_
    refine lv_icmp_gt (tgt := 14) hx hb dX4_in_7 rfl (fun c2 => ?_) (fun c2 => ?_)
    · replace h := itT h c2
      refine lv_iconst (v := 0) hx hb dX4_in_14 rfl ?_
      cases h
      exact retO_z F rfl dX4_in_15
    · replace h := itF h c2
      refine lv_iconst (v := 1) hx hb dX4_in_10 rfl ?_
      refine lv_goto (tgt := 15) hx hb dX4_in_11 rfl ?_
      cases h
      exact retO_z F rfl dX4_in_15
end
theorem c_X4_in {l : Launch} {G : GX} {x0 : Int32} {x1 : Int32} {x2 : Int32} {z : Int32} (h : f_X4_in x0 x1 x2 = some z) : MO l yX4_in cX4_in 3 (some .boolean) rmX4_in G [] [.int x0, .int x1, .int x2] (some (.int z)) := MO.of (by decide) (Nat.le_of_ble_eq_true rfl) (fun p e s m below meth c ls F hw hl => w_X4_in_0 F _ _ _ _ hw hl h)
theorem yv_X4_in : YS RX4 93 yX4_in cX4_in 3 (some .boolean) 3 := ⟨(tw 605 (by decide +kernel) rfl), (tw 6 (by decide +kernel) rfl), (tw 603 (by decide +kernel) rfl), (tw 604 (by decide +kernel) rfl), by decide +kernel⟩
theorem k_X4_in {p : Program} {l : Launch} {e : Env} {R : Room} {s : State} {m : MethodId} {args : Array Value} {below : List Frame} {meth : Method} {c : Code} {H : Heap} {locs : List Loc} {cells slots : Nat} {Q : State → Prop} {G : GX} {A : Nat → Prop} {ad : Nat → Nat} {cc : ByteArray} {nL pc : Nat} {y0 : MethodName} {ret0 : Option FieldType} {ls : Array Slot} {rest : List Value} {u : MS} {x0 : Int32} {x1 : Int32} {x2 : Int32} {z : Int32} (F : FX p m c cc nL s args y0 ret0 RX4 meth) (hw : WD G A s (mw G ad u) H locs) (h : f_X4_in x0 x1 x2 = some z) (hR : rmX4_in.frames + 1 ≤ R.frames ∧ 8 + (3 + 11) + rmX4_in.locals ≤ R.locals) (hcs : cells ≤ R.cells ∧ slots ≤ R.slots) (hsz : ls.size = nL) (hW : (rest.map fun v => v.category).sum ≤ 8) (hdg : decode cc pc = .ok (.invokestatic 93, 3)) (kk : W p l e R s m args below meth c H locs cells slots Q (F0 m (pc + 3) ls (.int z :: rest))) : W p l e R s m args below meth c H locs cells slots Q (F0 m pc ls (.int x2 :: .int x1 :: .int x0 :: rest)) := callO (runS F yv_X4_in (c_X4_in h (G := G)) hw.1 (fun k q hk => by simp at hk) (A := A) ⟨fun i j p q hp => by simp at hp, fun k q hk => by simp at hk⟩ ⟨rfl, rfl⟩ hR hcs rfl hsz rfl hW hdg) kk
/-! ===== X4_write ===== -/
theorem dX4_write_0 : decode cX4_write 0 = .ok (.iconst 0, 1) := by decide +kernel
theorem dX4_write_1 : decode cX4_write 1 = .ok (.istore_n 3, 1) := by decide +kernel
theorem dX4_write_2 : decode cX4_write 2 = .ok (.iload_n 3, 1) := by decide +kernel
theorem dX4_write_3 : decode cX4_write 3 = .ok (.iload_n 2, 1) := by decide +kernel
theorem dX4_write_4 : decode cX4_write 4 = .ok (.if_icmp .ge 31, 3) := by decide +kernel
theorem dX4_write_7 : decode cX4_write 7 = .ok (.aload_n 0, 1) := by decide +kernel
theorem dX4_write_8 : decode cX4_write 8 = .ok (.getfield 51, 3) := by decide +kernel
theorem dX4_write_11 : decode cX4_write 11 = .ok (.aload_n 0, 1) := by decide +kernel
theorem dX4_write_12 : decode cX4_write 12 = .ok (.getfield 68, 3) := by decide +kernel
theorem dX4_write_15 : decode cX4_write 15 = .ok (.aload_n 1, 1) := by decide +kernel
theorem dX4_write_16 : decode cX4_write 16 = .ok (.iload_n 3, 1) := by decide +kernel
theorem dX4_write_17 : decode cX4_write 17 = .ok (.iaload, 1) := by decide +kernel
theorem dX4_write_18 : decode cX4_write 18 = .ok (.iastore, 1) := by decide +kernel
theorem dX4_write_19 : decode cX4_write 19 = .ok (.aload_n 0, 1) := by decide +kernel
theorem dX4_write_20 : decode cX4_write 20 = .ok (.dup, 1) := by decide +kernel
theorem dX4_write_21 : decode cX4_write 21 = .ok (.getfield 68, 3) := by decide +kernel
theorem dX4_write_24 : decode cX4_write 24 = .ok (.iconst 1, 1) := by decide +kernel
theorem dX4_write_25 : decode cX4_write 25 = .ok (.iadd, 1) := by decide +kernel
theorem dX4_write_26 : decode cX4_write 26 = .ok (.putfield 68, 3) := by decide +kernel
theorem dX4_write_29 : decode cX4_write 29 = .ok (.iinc 3 1, 3) := by decide +kernel
theorem dX4_write_32 : decode cX4_write 32 = .ok (.goto (-30), 3) := by decide +kernel
theorem dX4_write_35 : decode cX4_write 35 = .ok (.return_, 1) := by decide +kernel
def rmX4_write_a2 : Room := { frames := 0, cells := 0, slots := 0, locals := 0 }
noncomputable def f_X4_write_a2_2 : Nat → Int32 → Int32 → MS → Option (MS)
  | 0, _, _, _ => none
  | n + 1, x2, x3, u => (if x2 ≤ x3 then some u else (if ix x3 8 = true then (if ix (u.1 20) 98460 = true then f_X4_write_a2_2 n x2 (x3 + 1) (mF (mA u 16 (Int32.toNatClampNeg (u.1 20)) (u.2.1 2 (Int32.toNatClampNeg x3))) 20 (((mA u 16 (Int32.toNatClampNeg (u.1 20)) (u.2.1 2 (Int32.toNatClampNeg x3))).1 20) + 1)) else none) else none))
noncomputable def f_X4_write_a2 (x2 : Int32) (u : MS) : Option (MS) := f_X4_write_a2_2 NF x2 0 u
section
variable {p : Program} {l : Launch} {e : Env} {s : State} {m : MethodId} {args : Array Value} {below : List Frame} {meth : Method} {c : Code}
variable {G : GX} {A : Nat → Prop} {ad : Nat → Nat}
set_option maxHeartbeats 4000000 in
set_option maxRecDepth 100000 in
theorem w_X4_write_a2_2 (F : FX p m c cX4_write 4 s args yX4_write none RX4 meth) {z : MS} : ∀ (n : Nat) (x2 : Int32) (x3 : Int32) (u : MS) (H : Heap) (locs : List Loc) (ls : Array Slot), WD G A s (mw G ad u) H locs → lv_has ls 4 [(0, .ref (ad 0)), (1, .ref (ad 2)), (2, .int x2), (3, .int x3)] → f_X4_write_a2_2 n x2 x3 u = some z → W p l e rmX4_write_a2 s m args below meth c H locs 0 0 (MQ below (QW G (mw G ad z) A none) args s 0 0 A) (F0 m 2 ls []) := by
  obtain ⟨⟨hx, hb, hml, hown, hts⟩, hr, hlocks⟩ := id F
  intro n
  induction n with
  | zero =>
    intro x2 x3 u H locs ls hw hl h
    rw [f_X4_write_a2_2] at h
    cases h
  | succ n ih =>
    intro x2 x3 u H locs ls hw hl h
    rw [f_X4_write_a2_2] at h
    refine lv_iload_n hx hb dX4_write_2 rfl (lv_at hl 3 rfl) ?_
    refine lv_iload_n hx hb dX4_write_3 rfl (lv_at hl 2 rfl) ?_
    refine lv_icmp_ge (tgt := 35) hx hb dX4_write_4 rfl (fun c1 => ?_) (fun c1 => ?_)
    · replace h := itT h c1
      cases h
      exact retW_v F hw dX4_write_35
    · replace h := itF h c1
      refine lv_aload_n hx hb dX4_write_7 rfl (lv_at hl 0 rfl) ?_
      refine m_g16 F hw dX4_write_8 ?_
      refine lv_aload_n hx hb dX4_write_11 rfl (lv_at hl 0 rfl) ?_
      refine m_g20 F hw dX4_write_12 ?_
      refine lv_aload_n hx hb dX4_write_15 rfl (lv_at hl 1 rfl) ?_
      refine lv_iload_n hx hb dX4_write_16 rfl (lv_at hl 3 rfl) ?_
      obtain ⟨g2, h⟩ := gd h
      refine m_l2 F hw g2 dX4_write_17 ?_
      obtain ⟨g3, h⟩ := gd h
      refine m_s16 F hw g3 dX4_write_18 (fun H locs hw => ?_)
      refine lv_aload_n hx hb dX4_write_19 rfl (lv_at hl 0 rfl) ?_
      refine lv_dup hx hb dX4_write_20 rfl ?_
      refine m_g20 F hw dX4_write_21 ?_
      refine lv_iconst (v := 1) hx hb dX4_write_24 rfl ?_
      refine lv_iadd hx hb dX4_write_25 ?_
      refine m_p20 F hw dX4_write_26 (fun H locs hw => ?_)
      refine lv_iinc (v := (x3 + 1)) (lv' := [(3, .int (x3 + 1)), (0, .ref (ad 0)), (1, .ref (ad 2)), (2, .int x2)]) hx hb dX4_write_29 hl (k := 3) rfl rfl (by decide) rfl (fun ls hl => ?_)
      refine lv_goto (tgt := 2) hx hb dX4_write_32 rfl ?_
      exact ih _ _ _ _ _ _ hw (lv_sub hl [1, 2, 3, 0] rfl) h
set_option maxHeartbeats 4000000 in
set_option maxRecDepth 100000 in
theorem w_X4_write_a2_0 (F : FX p m c cX4_write 4 s args yX4_write none RX4 meth) {z : MS} : ∀ (x2 : Int32) (u : MS) (H : Heap) (locs : List Loc) (ls : Array Slot), WD G A s (mw G ad u) H locs → lv_has ls 4 [(0, .ref (ad 0)), (1, .ref (ad 2)), (2, .int x2)] → f_X4_write_a2 x2 u = some z → W p l e rmX4_write_a2 s m args below meth c H locs 0 0 (MQ below (QW G (mw G ad z) A none) args s 0 0 A) (F0 m 0 ls []) := by
  obtain ⟨⟨hx, hb, hml, hown, hts⟩, hr, hlocks⟩ := id F
  intro x2 u H locs ls hw hl h
  unfold f_X4_write_a2 at h
  refine lv_iconst (v := 0) hx hb dX4_write_0 rfl ?_
  refine lv_istore_n (lv' := [(3, .int 0), (0, .ref (ad 0)), (1, .ref (ad 2)), (2, .int x2)]) hx hb dX4_write_1 rfl hl (by decide) rfl (fun ls hl => ?_)
  exact w_X4_write_a2_2 F NF _ _ _ _ _ _ hw (lv_sub hl [1, 2, 3, 0] rfl) h
end
theorem c_X4_write_a2 {l : Launch} {G : GX} {ad : Nat → Nat} {x2 : Int32} {u : MS} {z : MS} (h : f_X4_write_a2 x2 u = some z) : MW l yX4_write cX4_write 4 none rmX4_write_a2 G (mw G ad u) (mw G ad z) [.ref (ad 0), .ref (ad 2), .int x2] none := MW.of (by decide) (Nat.le_of_ble_eq_true rfl) (fun p e s m below meth c ls F hw hl => w_X4_write_a2_0 F _ _ _ _ _ hw hl h)
theorem yv_X4_write_a2 : YV RX4 71 yX4_write cX4_write 4 none 2 := ⟨(tw 613 (by decide +kernel) rfl), (tw 6 (by decide +kernel) rfl), (tw 610 (by decide +kernel) rfl), (tw 612 (by decide +kernel) rfl), (tp 14 (by decide +kernel) rfl), by decide +kernel⟩
theorem k_X4_write_a2 {p : Program} {l : Launch} {e : Env} {R : Room} {s : State} {m : MethodId} {args : Array Value} {below : List Frame} {meth : Method} {c : Code} {H : Heap} {locs : List Loc} {cells slots : Nat} {Q : State → Prop} {G : GX} {A : Nat → Prop} {ad : Nat → Nat} {cc : ByteArray} {nL pc : Nat} {y0 : MethodName} {ret0 : Option FieldType} {ls : Array Slot} {rest : List Value} {u : MS} {x2 : Int32} {z : MS} (F : FX p m c cc nL s args y0 ret0 RX4 meth) (hw : WD G A s (mw G ad u) H locs) (h : f_X4_write_a2 x2 u = some z) (hR : rmX4_write_a2.frames + 1 ≤ R.frames ∧ 8 + (4 + 11) + rmX4_write_a2.locals ≤ R.locals) (hcs : cells ≤ R.cells ∧ slots ≤ R.slots) (hsz : ls.size = nL) (hW : (rest.map fun v => v.category).sum ≤ 8) (hdg : decode cc pc = .ok (.invokevirtual 71, 3)) (kk : ∀ (H : Heap) (locs : List Loc), WD G A s (mw G ad z) H locs → W p l e R s m args below meth c H locs cells slots Q (F0 m (pc + 3) ls (rest))) : W p l e R s m args below meth c H locs cells slots Q (F0 m pc ls (.int x2 :: .ref (ad 2) :: .ref (ad 0) :: rest)) := callW (runV F yv_X4_write_a2 (c_X4_write_a2 h) hw.1 hw.2.1 hw.2.2.1 rfl rfl rfl ⟨rfl, rfl⟩ hR hcs rfl hsz rfl hW hdg) hw.2.2.2 hw.2.2.1.own_in (fun H1 l1 hP _ hS => kk H1 l1 ⟨hw.1, hP, hw.2.2.1.addr rfl, hS⟩)
def rmX4_write_a3 : Room := { frames := 0, cells := 0, slots := 0, locals := 0 }
noncomputable def f_X4_write_a3_2 : Nat → Int32 → Int32 → MS → Option (MS)
  | 0, _, _, _ => none
  | n + 1, x2, x3, u => (if x2 ≤ x3 then some u else (if ix x3 8 = true then (if ix (u.1 20) 98460 = true then f_X4_write_a3_2 n x2 (x3 + 1) (mF (mA u 16 (Int32.toNatClampNeg (u.1 20)) (u.2.1 3 (Int32.toNatClampNeg x3))) 20 (((mA u 16 (Int32.toNatClampNeg (u.1 20)) (u.2.1 3 (Int32.toNatClampNeg x3))).1 20) + 1)) else none) else none))
noncomputable def f_X4_write_a3 (x2 : Int32) (u : MS) : Option (MS) := f_X4_write_a3_2 NF x2 0 u
section
variable {p : Program} {l : Launch} {e : Env} {s : State} {m : MethodId} {args : Array Value} {below : List Frame} {meth : Method} {c : Code}
variable {G : GX} {A : Nat → Prop} {ad : Nat → Nat}
set_option maxHeartbeats 4000000 in
set_option maxRecDepth 100000 in
theorem w_X4_write_a3_2 (F : FX p m c cX4_write 4 s args yX4_write none RX4 meth) {z : MS} : ∀ (n : Nat) (x2 : Int32) (x3 : Int32) (u : MS) (H : Heap) (locs : List Loc) (ls : Array Slot), WD G A s (mw G ad u) H locs → lv_has ls 4 [(0, .ref (ad 0)), (1, .ref (ad 3)), (2, .int x2), (3, .int x3)] → f_X4_write_a3_2 n x2 x3 u = some z → W p l e rmX4_write_a3 s m args below meth c H locs 0 0 (MQ below (QW G (mw G ad z) A none) args s 0 0 A) (F0 m 2 ls []) := by
  obtain ⟨⟨hx, hb, hml, hown, hts⟩, hr, hlocks⟩ := id F
  intro n
  induction n with
  | zero =>
    intro x2 x3 u H locs ls hw hl h
    rw [f_X4_write_a3_2] at h
    cases h
  | succ n ih =>
    intro x2 x3 u H locs ls hw hl h
    rw [f_X4_write_a3_2] at h
    refine lv_iload_n hx hb dX4_write_2 rfl (lv_at hl 3 rfl) ?_
    refine lv_iload_n hx hb dX4_write_3 rfl (lv_at hl 2 rfl) ?_
    refine lv_icmp_ge (tgt := 35) hx hb dX4_write_4 rfl (fun c1 => ?_) (fun c1 => ?_)
    · replace h := itT h c1
      cases h
      exact retW_v F hw dX4_write_35
    · replace h := itF h c1
      refine lv_aload_n hx hb dX4_write_7 rfl (lv_at hl 0 rfl) ?_
      refine m_g16 F hw dX4_write_8 ?_
      refine lv_aload_n hx hb dX4_write_11 rfl (lv_at hl 0 rfl) ?_
      refine m_g20 F hw dX4_write_12 ?_
      refine lv_aload_n hx hb dX4_write_15 rfl (lv_at hl 1 rfl) ?_
      refine lv_iload_n hx hb dX4_write_16 rfl (lv_at hl 3 rfl) ?_
      obtain ⟨g2, h⟩ := gd h
      refine m_l3 F hw g2 dX4_write_17 ?_
      obtain ⟨g3, h⟩ := gd h
      refine m_s16 F hw g3 dX4_write_18 (fun H locs hw => ?_)
      refine lv_aload_n hx hb dX4_write_19 rfl (lv_at hl 0 rfl) ?_
      refine lv_dup hx hb dX4_write_20 rfl ?_
      refine m_g20 F hw dX4_write_21 ?_
      refine lv_iconst (v := 1) hx hb dX4_write_24 rfl ?_
      refine lv_iadd hx hb dX4_write_25 ?_
      refine m_p20 F hw dX4_write_26 (fun H locs hw => ?_)
      refine lv_iinc (v := (x3 + 1)) (lv' := [(3, .int (x3 + 1)), (0, .ref (ad 0)), (1, .ref (ad 3)), (2, .int x2)]) hx hb dX4_write_29 hl (k := 3) rfl rfl (by decide) rfl (fun ls hl => ?_)
      refine lv_goto (tgt := 2) hx hb dX4_write_32 rfl ?_
      exact ih _ _ _ _ _ _ hw (lv_sub hl [1, 2, 3, 0] rfl) h
set_option maxHeartbeats 4000000 in
set_option maxRecDepth 100000 in
theorem w_X4_write_a3_0 (F : FX p m c cX4_write 4 s args yX4_write none RX4 meth) {z : MS} : ∀ (x2 : Int32) (u : MS) (H : Heap) (locs : List Loc) (ls : Array Slot), WD G A s (mw G ad u) H locs → lv_has ls 4 [(0, .ref (ad 0)), (1, .ref (ad 3)), (2, .int x2)] → f_X4_write_a3 x2 u = some z → W p l e rmX4_write_a3 s m args below meth c H locs 0 0 (MQ below (QW G (mw G ad z) A none) args s 0 0 A) (F0 m 0 ls []) := by
  obtain ⟨⟨hx, hb, hml, hown, hts⟩, hr, hlocks⟩ := id F
  intro x2 u H locs ls hw hl h
  unfold f_X4_write_a3 at h
  refine lv_iconst (v := 0) hx hb dX4_write_0 rfl ?_
  refine lv_istore_n (lv' := [(3, .int 0), (0, .ref (ad 0)), (1, .ref (ad 3)), (2, .int x2)]) hx hb dX4_write_1 rfl hl (by decide) rfl (fun ls hl => ?_)
  exact w_X4_write_a3_2 F NF _ _ _ _ _ _ hw (lv_sub hl [1, 2, 3, 0] rfl) h
end
theorem c_X4_write_a3 {l : Launch} {G : GX} {ad : Nat → Nat} {x2 : Int32} {u : MS} {z : MS} (h : f_X4_write_a3 x2 u = some z) : MW l yX4_write cX4_write 4 none rmX4_write_a3 G (mw G ad u) (mw G ad z) [.ref (ad 0), .ref (ad 3), .int x2] none := MW.of (by decide) (Nat.le_of_ble_eq_true rfl) (fun p e s m below meth c ls F hw hl => w_X4_write_a3_0 F _ _ _ _ _ hw hl h)
theorem yv_X4_write_a3 : YV RX4 71 yX4_write cX4_write 4 none 2 := ⟨(tw 613 (by decide +kernel) rfl), (tw 6 (by decide +kernel) rfl), (tw 610 (by decide +kernel) rfl), (tw 612 (by decide +kernel) rfl), (tp 14 (by decide +kernel) rfl), by decide +kernel⟩
theorem k_X4_write_a3 {p : Program} {l : Launch} {e : Env} {R : Room} {s : State} {m : MethodId} {args : Array Value} {below : List Frame} {meth : Method} {c : Code} {H : Heap} {locs : List Loc} {cells slots : Nat} {Q : State → Prop} {G : GX} {A : Nat → Prop} {ad : Nat → Nat} {cc : ByteArray} {nL pc : Nat} {y0 : MethodName} {ret0 : Option FieldType} {ls : Array Slot} {rest : List Value} {u : MS} {x2 : Int32} {z : MS} (F : FX p m c cc nL s args y0 ret0 RX4 meth) (hw : WD G A s (mw G ad u) H locs) (h : f_X4_write_a3 x2 u = some z) (hR : rmX4_write_a3.frames + 1 ≤ R.frames ∧ 8 + (4 + 11) + rmX4_write_a3.locals ≤ R.locals) (hcs : cells ≤ R.cells ∧ slots ≤ R.slots) (hsz : ls.size = nL) (hW : (rest.map fun v => v.category).sum ≤ 8) (hdg : decode cc pc = .ok (.invokevirtual 71, 3)) (kk : ∀ (H : Heap) (locs : List Loc), WD G A s (mw G ad z) H locs → W p l e R s m args below meth c H locs cells slots Q (F0 m (pc + 3) ls (rest))) : W p l e R s m args below meth c H locs cells slots Q (F0 m pc ls (.int x2 :: .ref (ad 3) :: .ref (ad 0) :: rest)) := callW (runV F yv_X4_write_a3 (c_X4_write_a3 h) hw.1 hw.2.1 hw.2.2.1 rfl rfl rfl ⟨rfl, rfl⟩ hR hcs rfl hsz rfl hW hdg) hw.2.2.2 hw.2.2.1.own_in (fun H1 l1 hP _ hS => kk H1 l1 ⟨hw.1, hP, hw.2.2.1.addr rfl, hS⟩)
def rmX4_write_a4 : Room := { frames := 0, cells := 0, slots := 0, locals := 0 }
noncomputable def f_X4_write_a4_2 : Nat → Int32 → Int32 → MS → Option (MS)
  | 0, _, _, _ => none
  | n + 1, x2, x3, u => (if x2 ≤ x3 then some u else (if ix x3 8 = true then (if ix (u.1 20) 98460 = true then f_X4_write_a4_2 n x2 (x3 + 1) (mF (mA u 16 (Int32.toNatClampNeg (u.1 20)) (u.2.1 4 (Int32.toNatClampNeg x3))) 20 (((mA u 16 (Int32.toNatClampNeg (u.1 20)) (u.2.1 4 (Int32.toNatClampNeg x3))).1 20) + 1)) else none) else none))
noncomputable def f_X4_write_a4 (x2 : Int32) (u : MS) : Option (MS) := f_X4_write_a4_2 NF x2 0 u
section
variable {p : Program} {l : Launch} {e : Env} {s : State} {m : MethodId} {args : Array Value} {below : List Frame} {meth : Method} {c : Code}
variable {G : GX} {A : Nat → Prop} {ad : Nat → Nat}
set_option maxHeartbeats 4000000 in
set_option maxRecDepth 100000 in
theorem w_X4_write_a4_2 (F : FX p m c cX4_write 4 s args yX4_write none RX4 meth) {z : MS} : ∀ (n : Nat) (x2 : Int32) (x3 : Int32) (u : MS) (H : Heap) (locs : List Loc) (ls : Array Slot), WD G A s (mw G ad u) H locs → lv_has ls 4 [(0, .ref (ad 0)), (1, .ref (ad 4)), (2, .int x2), (3, .int x3)] → f_X4_write_a4_2 n x2 x3 u = some z → W p l e rmX4_write_a4 s m args below meth c H locs 0 0 (MQ below (QW G (mw G ad z) A none) args s 0 0 A) (F0 m 2 ls []) := by
  obtain ⟨⟨hx, hb, hml, hown, hts⟩, hr, hlocks⟩ := id F
  intro n
  induction n with
  | zero =>
    intro x2 x3 u H locs ls hw hl h
    rw [f_X4_write_a4_2] at h
    cases h
  | succ n ih =>
    intro x2 x3 u H locs ls hw hl h
    rw [f_X4_write_a4_2] at h
    refine lv_iload_n hx hb dX4_write_2 rfl (lv_at hl 3 rfl) ?_
    refine lv_iload_n hx hb dX4_write_3 rfl (lv_at hl 2 rfl) ?_
    refine lv_icmp_ge (tgt := 35) hx hb dX4_write_4 rfl (fun c1 => ?_) (fun c1 => ?_)
    · replace h := itT h c1
      cases h
      exact retW_v F hw dX4_write_35
    · replace h := itF h c1
      refine lv_aload_n hx hb dX4_write_7 rfl (lv_at hl 0 rfl) ?_
      refine m_g16 F hw dX4_write_8 ?_
      refine lv_aload_n hx hb dX4_write_11 rfl (lv_at hl 0 rfl) ?_
      refine m_g20 F hw dX4_write_12 ?_
      refine lv_aload_n hx hb dX4_write_15 rfl (lv_at hl 1 rfl) ?_
      refine lv_iload_n hx hb dX4_write_16 rfl (lv_at hl 3 rfl) ?_
      obtain ⟨g2, h⟩ := gd h
      refine m_l4 F hw g2 dX4_write_17 ?_
      obtain ⟨g3, h⟩ := gd h
      refine m_s16 F hw g3 dX4_write_18 (fun H locs hw => ?_)
      refine lv_aload_n hx hb dX4_write_19 rfl (lv_at hl 0 rfl) ?_
      refine lv_dup hx hb dX4_write_20 rfl ?_
      refine m_g20 F hw dX4_write_21 ?_
      refine lv_iconst (v := 1) hx hb dX4_write_24 rfl ?_
      refine lv_iadd hx hb dX4_write_25 ?_
      refine m_p20 F hw dX4_write_26 (fun H locs hw => ?_)
      refine lv_iinc (v := (x3 + 1)) (lv' := [(3, .int (x3 + 1)), (0, .ref (ad 0)), (1, .ref (ad 4)), (2, .int x2)]) hx hb dX4_write_29 hl (k := 3) rfl rfl (by decide) rfl (fun ls hl => ?_)
      refine lv_goto (tgt := 2) hx hb dX4_write_32 rfl ?_
      exact ih _ _ _ _ _ _ hw (lv_sub hl [1, 2, 3, 0] rfl) h
set_option maxHeartbeats 4000000 in
set_option maxRecDepth 100000 in
theorem w_X4_write_a4_0 (F : FX p m c cX4_write 4 s args yX4_write none RX4 meth) {z : MS} : ∀ (x2 : Int32) (u : MS) (H : Heap) (locs : List Loc) (ls : Array Slot), WD G A s (mw G ad u) H locs → lv_has ls 4 [(0, .ref (ad 0)), (1, .ref (ad 4)), (2, .int x2)] → f_X4_write_a4 x2 u = some z → W p l e rmX4_write_a4 s m args below meth c H locs 0 0 (MQ below (QW G (mw G ad z) A none) args s 0 0 A) (F0 m 0 ls []) := by
  obtain ⟨⟨hx, hb, hml, hown, hts⟩, hr, hlocks⟩ := id F
  intro x2 u H locs ls hw hl h
  unfold f_X4_write_a4 at h
  refine lv_iconst (v := 0) hx hb dX4_write_0 rfl ?_
  refine lv_istore_n (lv' := [(3, .int 0), (0, .ref (ad 0)), (1, .ref (ad 4)), (2, .int x2)]) hx hb dX4_write_1 rfl hl (by decide) rfl (fun ls hl => ?_)
  exact w_X4_write_a4_2 F NF _ _ _ _ _ _ hw (lv_sub hl [1, 2, 3, 0] rfl) h
end
theorem c_X4_write_a4 {l : Launch} {G : GX} {ad : Nat → Nat} {x2 : Int32} {u : MS} {z : MS} (h : f_X4_write_a4 x2 u = some z) : MW l yX4_write cX4_write 4 none rmX4_write_a4 G (mw G ad u) (mw G ad z) [.ref (ad 0), .ref (ad 4), .int x2] none := MW.of (by decide) (Nat.le_of_ble_eq_true rfl) (fun p e s m below meth c ls F hw hl => w_X4_write_a4_0 F _ _ _ _ _ hw hl h)
theorem yv_X4_write_a4 : YV RX4 71 yX4_write cX4_write 4 none 2 := ⟨(tw 613 (by decide +kernel) rfl), (tw 6 (by decide +kernel) rfl), (tw 610 (by decide +kernel) rfl), (tw 612 (by decide +kernel) rfl), (tp 14 (by decide +kernel) rfl), by decide +kernel⟩
theorem k_X4_write_a4 {p : Program} {l : Launch} {e : Env} {R : Room} {s : State} {m : MethodId} {args : Array Value} {below : List Frame} {meth : Method} {c : Code} {H : Heap} {locs : List Loc} {cells slots : Nat} {Q : State → Prop} {G : GX} {A : Nat → Prop} {ad : Nat → Nat} {cc : ByteArray} {nL pc : Nat} {y0 : MethodName} {ret0 : Option FieldType} {ls : Array Slot} {rest : List Value} {u : MS} {x2 : Int32} {z : MS} (F : FX p m c cc nL s args y0 ret0 RX4 meth) (hw : WD G A s (mw G ad u) H locs) (h : f_X4_write_a4 x2 u = some z) (hR : rmX4_write_a4.frames + 1 ≤ R.frames ∧ 8 + (4 + 11) + rmX4_write_a4.locals ≤ R.locals) (hcs : cells ≤ R.cells ∧ slots ≤ R.slots) (hsz : ls.size = nL) (hW : (rest.map fun v => v.category).sum ≤ 8) (hdg : decode cc pc = .ok (.invokevirtual 71, 3)) (kk : ∀ (H : Heap) (locs : List Loc), WD G A s (mw G ad z) H locs → W p l e R s m args below meth c H locs cells slots Q (F0 m (pc + 3) ls (rest))) : W p l e R s m args below meth c H locs cells slots Q (F0 m pc ls (.int x2 :: .ref (ad 4) :: .ref (ad 0) :: rest)) := callW (runV F yv_X4_write_a4 (c_X4_write_a4 h) hw.1 hw.2.1 hw.2.2.1 rfl rfl rfl ⟨rfl, rfl⟩ hR hcs rfl hsz rfl hW hdg) hw.2.2.2 hw.2.2.1.own_in (fun H1 l1 hP _ hS => kk H1 l1 ⟨hw.1, hP, hw.2.2.1.addr rfl, hS⟩)
def rmX4_write_a5 : Room := { frames := 0, cells := 0, slots := 0, locals := 0 }
noncomputable def f_X4_write_a5_2 : Nat → Int32 → Int32 → MS → Option (MS)
  | 0, _, _, _ => none
  | n + 1, x2, x3, u => (if x2 ≤ x3 then some u else (if ix x3 8 = true then (if ix (u.1 20) 98460 = true then f_X4_write_a5_2 n x2 (x3 + 1) (mF (mA u 16 (Int32.toNatClampNeg (u.1 20)) (u.2.1 5 (Int32.toNatClampNeg x3))) 20 (((mA u 16 (Int32.toNatClampNeg (u.1 20)) (u.2.1 5 (Int32.toNatClampNeg x3))).1 20) + 1)) else none) else none))
noncomputable def f_X4_write_a5 (x2 : Int32) (u : MS) : Option (MS) := f_X4_write_a5_2 NF x2 0 u
section
variable {p : Program} {l : Launch} {e : Env} {s : State} {m : MethodId} {args : Array Value} {below : List Frame} {meth : Method} {c : Code}
variable {G : GX} {A : Nat → Prop} {ad : Nat → Nat}
set_option maxHeartbeats 4000000 in
set_option maxRecDepth 100000 in
theorem w_X4_write_a5_2 (F : FX p m c cX4_write 4 s args yX4_write none RX4 meth) {z : MS} : ∀ (n : Nat) (x2 : Int32) (x3 : Int32) (u : MS) (H : Heap) (locs : List Loc) (ls : Array Slot), WD G A s (mw G ad u) H locs → lv_has ls 4 [(0, .ref (ad 0)), (1, .ref (ad 5)), (2, .int x2), (3, .int x3)] → f_X4_write_a5_2 n x2 x3 u = some z → W p l e rmX4_write_a5 s m args below meth c H locs 0 0 (MQ below (QW G (mw G ad z) A none) args s 0 0 A) (F0 m 2 ls []) := by
  obtain ⟨⟨hx, hb, hml, hown, hts⟩, hr, hlocks⟩ := id F
  intro n
  induction n with
  | zero =>
    intro x2 x3 u H locs ls hw hl h
    rw [f_X4_write_a5_2] at h
    cases h
  | succ n ih =>
    intro x2 x3 u H locs ls hw hl h
    rw [f_X4_write_a5_2] at h
    refine lv_iload_n hx hb dX4_write_2 rfl (lv_at hl 3 rfl) ?_
    refine lv_iload_n hx hb dX4_write_3 rfl (lv_at hl 2 rfl) ?_
    refine lv_icmp_ge (tgt := 35) hx hb dX4_write_4 rfl (fun c1 => ?_) (fun c1 => ?_)
    · replace h := itT h c1
      cases h
      exact retW_v F hw dX4_write_35
    · replace h := itF h c1
      refine lv_aload_n hx hb dX4_write_7 rfl (lv_at hl 0 rfl) ?_
      refine m_g16 F hw dX4_write_8 ?_
      refine lv_aload_n hx hb dX4_write_11 rfl (lv_at hl 0 rfl) ?_
      refine m_g20 F hw dX4_write_12 ?_
      refine lv_aload_n hx hb dX4_write_15 rfl (lv_at hl 1 rfl) ?_
      refine lv_iload_n hx hb dX4_write_16 rfl (lv_at hl 3 rfl) ?_
      obtain ⟨g2, h⟩ := gd h
      refine m_l5 F hw g2 dX4_write_17 ?_
      obtain ⟨g3, h⟩ := gd h
      refine m_s16 F hw g3 dX4_write_18 (fun H locs hw => ?_)
      refine lv_aload_n hx hb dX4_write_19 rfl (lv_at hl 0 rfl) ?_
      refine lv_dup hx hb dX4_write_20 rfl ?_
      refine m_g20 F hw dX4_write_21 ?_
      refine lv_iconst (v := 1) hx hb dX4_write_24 rfl ?_
      refine lv_iadd hx hb dX4_write_25 ?_
      refine m_p20 F hw dX4_write_26 (fun H locs hw => ?_)
      refine lv_iinc (v := (x3 + 1)) (lv' := [(3, .int (x3 + 1)), (0, .ref (ad 0)), (1, .ref (ad 5)), (2, .int x2)]) hx hb dX4_write_29 hl (k := 3) rfl rfl (by decide) rfl (fun ls hl => ?_)
      refine lv_goto (tgt := 2) hx hb dX4_write_32 rfl ?_
      exact ih _ _ _ _ _ _ hw (lv_sub hl [1, 2, 3, 0] rfl) h
set_option maxHeartbeats 4000000 in
set_option maxRecDepth 100000 in
theorem w_X4_write_a5_0 (F : FX p m c cX4_write 4 s args yX4_write none RX4 meth) {z : MS} : ∀ (x2 : Int32) (u : MS) (H : Heap) (locs : List Loc) (ls : Array Slot), WD G A s (mw G ad u) H locs → lv_has ls 4 [(0, .ref (ad 0)), (1, .ref (ad 5)), (2, .int x2)] → f_X4_write_a5 x2 u = some z → W p l e rmX4_write_a5 s m args below meth c H locs 0 0 (MQ below (QW G (mw G ad z) A none) args s 0 0 A) (F0 m 0 ls []) := by
  obtain ⟨⟨hx, hb, hml, hown, hts⟩, hr, hlocks⟩ := id F
  intro x2 u H locs ls hw hl h
  unfold f_X4_write_a5 at h
  refine lv_iconst (v := 0) hx hb dX4_write_0 rfl ?_
  refine lv_istore_n (lv' := [(3, .int 0), (0, .ref (ad 0)), (1, .ref (ad 5)), (2, .int x2)]) hx hb dX4_write_1 rfl hl (by decide) rfl (fun ls hl => ?_)
  exact w_X4_write_a5_2 F NF _ _ _ _ _ _ hw (lv_sub hl [1, 2, 3, 0] rfl) h
end
theorem c_X4_write_a5 {l : Launch} {G : GX} {ad : Nat → Nat} {x2 : Int32} {u : MS} {z : MS} (h : f_X4_write_a5 x2 u = some z) : MW l yX4_write cX4_write 4 none rmX4_write_a5 G (mw G ad u) (mw G ad z) [.ref (ad 0), .ref (ad 5), .int x2] none := MW.of (by decide) (Nat.le_of_ble_eq_true rfl) (fun p e s m below meth c ls F hw hl => w_X4_write_a5_0 F _ _ _ _ _ hw hl h)
theorem yv_X4_write_a5 : YV RX4 71 yX4_write cX4_write 4 none 2 := ⟨(tw 613 (by decide +kernel) rfl), (tw 6 (by decide +kernel) rfl), (tw 610 (by decide +kernel) rfl), (tw 612 (by decide +kernel) rfl), (tp 14 (by decide +kernel) rfl), by decide +kernel⟩
theorem k_X4_write_a5 {p : Program} {l : Launch} {e : Env} {R : Room} {s : State} {m : MethodId} {args : Array Value} {below : List Frame} {meth : Method} {c : Code} {H : Heap} {locs : List Loc} {cells slots : Nat} {Q : State → Prop} {G : GX} {A : Nat → Prop} {ad : Nat → Nat} {cc : ByteArray} {nL pc : Nat} {y0 : MethodName} {ret0 : Option FieldType} {ls : Array Slot} {rest : List Value} {u : MS} {x2 : Int32} {z : MS} (F : FX p m c cc nL s args y0 ret0 RX4 meth) (hw : WD G A s (mw G ad u) H locs) (h : f_X4_write_a5 x2 u = some z) (hR : rmX4_write_a5.frames + 1 ≤ R.frames ∧ 8 + (4 + 11) + rmX4_write_a5.locals ≤ R.locals) (hcs : cells ≤ R.cells ∧ slots ≤ R.slots) (hsz : ls.size = nL) (hW : (rest.map fun v => v.category).sum ≤ 8) (hdg : decode cc pc = .ok (.invokevirtual 71, 3)) (kk : ∀ (H : Heap) (locs : List Loc), WD G A s (mw G ad z) H locs → W p l e R s m args below meth c H locs cells slots Q (F0 m (pc + 3) ls (rest))) : W p l e R s m args below meth c H locs cells slots Q (F0 m pc ls (.int x2 :: .ref (ad 5) :: .ref (ad 0) :: rest)) := callW (runV F yv_X4_write_a5 (c_X4_write_a5 h) hw.1 hw.2.1 hw.2.2.1 rfl rfl rfl ⟨rfl, rfl⟩ hR hcs rfl hsz rfl hW hdg) hw.2.2.2 hw.2.2.1.own_in (fun H1 l1 hP _ hS => kk H1 l1 ⟨hw.1, hP, hw.2.2.1.addr rfl, hS⟩)
def rmX4_write_a6 : Room := { frames := 0, cells := 0, slots := 0, locals := 0 }
noncomputable def f_X4_write_a6_2 : Nat → Int32 → Int32 → MS → Option (MS)
  | 0, _, _, _ => none
  | n + 1, x2, x3, u => (if x2 ≤ x3 then some u else (if ix x3 8 = true then (if ix (u.1 20) 98460 = true then f_X4_write_a6_2 n x2 (x3 + 1) (mF (mA u 16 (Int32.toNatClampNeg (u.1 20)) (u.2.1 6 (Int32.toNatClampNeg x3))) 20 (((mA u 16 (Int32.toNatClampNeg (u.1 20)) (u.2.1 6 (Int32.toNatClampNeg x3))).1 20) + 1)) else none) else none))
noncomputable def f_X4_write_a6 (x2 : Int32) (u : MS) : Option (MS) := f_X4_write_a6_2 NF x2 0 u
section
variable {p : Program} {l : Launch} {e : Env} {s : State} {m : MethodId} {args : Array Value} {below : List Frame} {meth : Method} {c : Code}
variable {G : GX} {A : Nat → Prop} {ad : Nat → Nat}
set_option maxHeartbeats 4000000 in
set_option maxRecDepth 100000 in
theorem w_X4_write_a6_2 (F : FX p m c cX4_write 4 s args yX4_write none RX4 meth) {z : MS} : ∀ (n : Nat) (x2 : Int32) (x3 : Int32) (u : MS) (H : Heap) (locs : List Loc) (ls : Array Slot), WD G A s (mw G ad u) H locs → lv_has ls 4 [(0, .ref (ad 0)), (1, .ref (ad 6)), (2, .int x2), (3, .int x3)] → f_X4_write_a6_2 n x2 x3 u = some z → W p l e rmX4_write_a6 s m args below meth c H locs 0 0 (MQ below (QW G (mw G ad z) A none) args s 0 0 A) (F0 m 2 ls []) := by
  obtain ⟨⟨hx, hb, hml, hown, hts⟩, hr, hlocks⟩ := id F
  intro n
  induction n with
  | zero =>
    intro x2 x3 u H locs ls hw hl h
    rw [f_X4_write_a6_2] at h
    cases h
  | succ n ih =>
    intro x2 x3 u H locs ls hw hl h
    rw [f_X4_write_a6_2] at h
    refine lv_iload_n hx hb dX4_write_2 rfl (lv_at hl 3 rfl) ?_
    refine lv_iload_n hx hb dX4_write_3 rfl (lv_at hl 2 rfl) ?_
    refine lv_icmp_ge (tgt := 35) hx hb dX4_write_4 rfl (fun c1 => ?_) (fun c1 => ?_)
    · replace h := itT h c1
      cases h
      exact retW_v F hw dX4_write_35
    · replace h := itF h c1
      refine lv_aload_n hx hb dX4_write_7 rfl (lv_at hl 0 rfl) ?_
      refine m_g16 F hw dX4_write_8 ?_
      refine lv_aload_n hx hb dX4_write_11 rfl (lv_at hl 0 rfl) ?_
      refine m_g20 F hw dX4_write_12 ?_
      refine lv_aload_n hx hb dX4_write_15 rfl (lv_at hl 1 rfl) ?_
      refine lv_iload_n hx hb dX4_write_16 rfl (lv_at hl 3 rfl) ?_
      obtain ⟨g2, h⟩ := gd h
      refine m_l6 F hw g2 dX4_write_17 ?_
      obtain ⟨g3, h⟩ := gd h
      refine m_s16 F hw g3 dX4_write_18 (fun H locs hw => ?_)
      refine lv_aload_n hx hb dX4_write_19 rfl (lv_at hl 0 rfl) ?_
      refine lv_dup hx hb dX4_write_20 rfl ?_
      refine m_g20 F hw dX4_write_21 ?_
      refine lv_iconst (v := 1) hx hb dX4_write_24 rfl ?_
      refine lv_iadd hx hb dX4_write_25 ?_
      refine m_p20 F hw dX4_write_26 (fun H locs hw => ?_)
      refine lv_iinc (v := (x3 + 1)) (lv' := [(3, .int (x3 + 1)), (0, .ref (ad 0)), (1, .ref (ad 6)), (2, .int x2)]) hx hb dX4_write_29 hl (k := 3) rfl rfl (by decide) rfl (fun ls hl => ?_)
      refine lv_goto (tgt := 2) hx hb dX4_write_32 rfl ?_
      exact ih _ _ _ _ _ _ hw (lv_sub hl [1, 2, 3, 0] rfl) h
set_option maxHeartbeats 4000000 in
set_option maxRecDepth 100000 in
theorem w_X4_write_a6_0 (F : FX p m c cX4_write 4 s args yX4_write none RX4 meth) {z : MS} : ∀ (x2 : Int32) (u : MS) (H : Heap) (locs : List Loc) (ls : Array Slot), WD G A s (mw G ad u) H locs → lv_has ls 4 [(0, .ref (ad 0)), (1, .ref (ad 6)), (2, .int x2)] → f_X4_write_a6 x2 u = some z → W p l e rmX4_write_a6 s m args below meth c H locs 0 0 (MQ below (QW G (mw G ad z) A none) args s 0 0 A) (F0 m 0 ls []) := by
  obtain ⟨⟨hx, hb, hml, hown, hts⟩, hr, hlocks⟩ := id F
  intro x2 u H locs ls hw hl h
  unfold f_X4_write_a6 at h
  refine lv_iconst (v := 0) hx hb dX4_write_0 rfl ?_
  refine lv_istore_n (lv' := [(3, .int 0), (0, .ref (ad 0)), (1, .ref (ad 6)), (2, .int x2)]) hx hb dX4_write_1 rfl hl (by decide) rfl (fun ls hl => ?_)
  exact w_X4_write_a6_2 F NF _ _ _ _ _ _ hw (lv_sub hl [1, 2, 3, 0] rfl) h
end
theorem c_X4_write_a6 {l : Launch} {G : GX} {ad : Nat → Nat} {x2 : Int32} {u : MS} {z : MS} (h : f_X4_write_a6 x2 u = some z) : MW l yX4_write cX4_write 4 none rmX4_write_a6 G (mw G ad u) (mw G ad z) [.ref (ad 0), .ref (ad 6), .int x2] none := MW.of (by decide) (Nat.le_of_ble_eq_true rfl) (fun p e s m below meth c ls F hw hl => w_X4_write_a6_0 F _ _ _ _ _ hw hl h)
theorem yv_X4_write_a6 : YV RX4 71 yX4_write cX4_write 4 none 2 := ⟨(tw 613 (by decide +kernel) rfl), (tw 6 (by decide +kernel) rfl), (tw 610 (by decide +kernel) rfl), (tw 612 (by decide +kernel) rfl), (tp 14 (by decide +kernel) rfl), by decide +kernel⟩
theorem k_X4_write_a6 {p : Program} {l : Launch} {e : Env} {R : Room} {s : State} {m : MethodId} {args : Array Value} {below : List Frame} {meth : Method} {c : Code} {H : Heap} {locs : List Loc} {cells slots : Nat} {Q : State → Prop} {G : GX} {A : Nat → Prop} {ad : Nat → Nat} {cc : ByteArray} {nL pc : Nat} {y0 : MethodName} {ret0 : Option FieldType} {ls : Array Slot} {rest : List Value} {u : MS} {x2 : Int32} {z : MS} (F : FX p m c cc nL s args y0 ret0 RX4 meth) (hw : WD G A s (mw G ad u) H locs) (h : f_X4_write_a6 x2 u = some z) (hR : rmX4_write_a6.frames + 1 ≤ R.frames ∧ 8 + (4 + 11) + rmX4_write_a6.locals ≤ R.locals) (hcs : cells ≤ R.cells ∧ slots ≤ R.slots) (hsz : ls.size = nL) (hW : (rest.map fun v => v.category).sum ≤ 8) (hdg : decode cc pc = .ok (.invokevirtual 71, 3)) (kk : ∀ (H : Heap) (locs : List Loc), WD G A s (mw G ad z) H locs → W p l e R s m args below meth c H locs cells slots Q (F0 m (pc + 3) ls (rest))) : W p l e R s m args below meth c H locs cells slots Q (F0 m pc ls (.int x2 :: .ref (ad 6) :: .ref (ad 0) :: rest)) := callW (runV F yv_X4_write_a6 (c_X4_write_a6 h) hw.1 hw.2.1 hw.2.2.1 rfl rfl rfl ⟨rfl, rfl⟩ hR hcs rfl hsz rfl hW hdg) hw.2.2.2 hw.2.2.1.own_in (fun H1 l1 hP _ hS => kk H1 l1 ⟨hw.1, hP, hw.2.2.1.addr rfl, hS⟩)
def rmX4_write_a7 : Room := { frames := 0, cells := 0, slots := 0, locals := 0 }
noncomputable def f_X4_write_a7_2 : Nat → Int32 → Int32 → MS → Option (MS)
  | 0, _, _, _ => none
  | n + 1, x2, x3, u => (if x2 ≤ x3 then some u else (if ix x3 4800 = true then (if ix (u.1 20) 98460 = true then f_X4_write_a7_2 n x2 (x3 + 1) (mF (mA u 16 (Int32.toNatClampNeg (u.1 20)) (u.2.1 7 (Int32.toNatClampNeg x3))) 20 (((mA u 16 (Int32.toNatClampNeg (u.1 20)) (u.2.1 7 (Int32.toNatClampNeg x3))).1 20) + 1)) else none) else none))
noncomputable def f_X4_write_a7 (x2 : Int32) (u : MS) : Option (MS) := f_X4_write_a7_2 NF x2 0 u
section
variable {p : Program} {l : Launch} {e : Env} {s : State} {m : MethodId} {args : Array Value} {below : List Frame} {meth : Method} {c : Code}
variable {G : GX} {A : Nat → Prop} {ad : Nat → Nat}
set_option maxHeartbeats 4000000 in
set_option maxRecDepth 100000 in
theorem w_X4_write_a7_2 (F : FX p m c cX4_write 4 s args yX4_write none RX4 meth) {z : MS} : ∀ (n : Nat) (x2 : Int32) (x3 : Int32) (u : MS) (H : Heap) (locs : List Loc) (ls : Array Slot), WD G A s (mw G ad u) H locs → lv_has ls 4 [(0, .ref (ad 0)), (1, .ref (ad 7)), (2, .int x2), (3, .int x3)] → f_X4_write_a7_2 n x2 x3 u = some z → W p l e rmX4_write_a7 s m args below meth c H locs 0 0 (MQ below (QW G (mw G ad z) A none) args s 0 0 A) (F0 m 2 ls []) := by
  obtain ⟨⟨hx, hb, hml, hown, hts⟩, hr, hlocks⟩ := id F
  intro n
  induction n with
  | zero =>
    intro x2 x3 u H locs ls hw hl h
    rw [f_X4_write_a7_2] at h
    cases h
  | succ n ih =>
    intro x2 x3 u H locs ls hw hl h
    rw [f_X4_write_a7_2] at h
    refine lv_iload_n hx hb dX4_write_2 rfl (lv_at hl 3 rfl) ?_
    refine lv_iload_n hx hb dX4_write_3 rfl (lv_at hl 2 rfl) ?_
    refine lv_icmp_ge (tgt := 35) hx hb dX4_write_4 rfl (fun c1 => ?_) (fun c1 => ?_)
    · replace h := itT h c1
      cases h
      exact retW_v F hw dX4_write_35
    · replace h := itF h c1
      refine lv_aload_n hx hb dX4_write_7 rfl (lv_at hl 0 rfl) ?_
      refine m_g16 F hw dX4_write_8 ?_
      refine lv_aload_n hx hb dX4_write_11 rfl (lv_at hl 0 rfl) ?_
      refine m_g20 F hw dX4_write_12 ?_
      refine lv_aload_n hx hb dX4_write_15 rfl (lv_at hl 1 rfl) ?_
      refine lv_iload_n hx hb dX4_write_16 rfl (lv_at hl 3 rfl) ?_
      obtain ⟨g2, h⟩ := gd h
      refine m_l7 F hw g2 dX4_write_17 ?_
      obtain ⟨g3, h⟩ := gd h
      refine m_s16 F hw g3 dX4_write_18 (fun H locs hw => ?_)
      refine lv_aload_n hx hb dX4_write_19 rfl (lv_at hl 0 rfl) ?_
      refine lv_dup hx hb dX4_write_20 rfl ?_
      refine m_g20 F hw dX4_write_21 ?_
      refine lv_iconst (v := 1) hx hb dX4_write_24 rfl ?_
      refine lv_iadd hx hb dX4_write_25 ?_
      refine m_p20 F hw dX4_write_26 (fun H locs hw => ?_)
      refine lv_iinc (v := (x3 + 1)) (lv' := [(3, .int (x3 + 1)), (0, .ref (ad 0)), (1, .ref (ad 7)), (2, .int x2)]) hx hb dX4_write_29 hl (k := 3) rfl rfl (by decide) rfl (fun ls hl => ?_)
      refine lv_goto (tgt := 2) hx hb dX4_write_32 rfl ?_
      exact ih _ _ _ _ _ _ hw (lv_sub hl [1, 2, 3, 0] rfl) h
set_option maxHeartbeats 4000000 in
set_option maxRecDepth 100000 in
theorem w_X4_write_a7_0 (F : FX p m c cX4_write 4 s args yX4_write none RX4 meth) {z : MS} : ∀ (x2 : Int32) (u : MS) (H : Heap) (locs : List Loc) (ls : Array Slot), WD G A s (mw G ad u) H locs → lv_has ls 4 [(0, .ref (ad 0)), (1, .ref (ad 7)), (2, .int x2)] → f_X4_write_a7 x2 u = some z → W p l e rmX4_write_a7 s m args below meth c H locs 0 0 (MQ below (QW G (mw G ad z) A none) args s 0 0 A) (F0 m 0 ls []) := by
  obtain ⟨⟨hx, hb, hml, hown, hts⟩, hr, hlocks⟩ := id F
  intro x2 u H locs ls hw hl h
  unfold f_X4_write_a7 at h
  refine lv_iconst (v := 0) hx hb dX4_write_0 rfl ?_
  refine lv_istore_n (lv' := [(3, .int 0), (0, .ref (ad 0)), (1, .ref (ad 7)), (2, .int x2)]) hx hb dX4_write_1 rfl hl (by decide) rfl (fun ls hl => ?_)
  exact w_X4_write_a7_2 F NF _ _ _ _ _ _ hw (lv_sub hl [1, 2, 3, 0] rfl) h
end
theorem c_X4_write_a7 {l : Launch} {G : GX} {ad : Nat → Nat} {x2 : Int32} {u : MS} {z : MS} (h : f_X4_write_a7 x2 u = some z) : MW l yX4_write cX4_write 4 none rmX4_write_a7 G (mw G ad u) (mw G ad z) [.ref (ad 0), .ref (ad 7), .int x2] none := MW.of (by decide) (Nat.le_of_ble_eq_true rfl) (fun p e s m below meth c ls F hw hl => w_X4_write_a7_0 F _ _ _ _ _ hw hl h)
theorem yv_X4_write_a7 : YV RX4 71 yX4_write cX4_write 4 none 2 := ⟨(tw 613 (by decide +kernel) rfl), (tw 6 (by decide +kernel) rfl), (tw 610 (by decide +kernel) rfl), (tw 612 (by decide +kernel) rfl), (tp 14 (by decide +kernel) rfl), by decide +kernel⟩
theorem k_X4_write_a7 {p : Program} {l : Launch} {e : Env} {R : Room} {s : State} {m : MethodId} {args : Array Value} {below : List Frame} {meth : Method} {c : Code} {H : Heap} {locs : List Loc} {cells slots : Nat} {Q : State → Prop} {G : GX} {A : Nat → Prop} {ad : Nat → Nat} {cc : ByteArray} {nL pc : Nat} {y0 : MethodName} {ret0 : Option FieldType} {ls : Array Slot} {rest : List Value} {u : MS} {x2 : Int32} {z : MS} (F : FX p m c cc nL s args y0 ret0 RX4 meth) (hw : WD G A s (mw G ad u) H locs) (h : f_X4_write_a7 x2 u = some z) (hR : rmX4_write_a7.frames + 1 ≤ R.frames ∧ 8 + (4 + 11) + rmX4_write_a7.locals ≤ R.locals) (hcs : cells ≤ R.cells ∧ slots ≤ R.slots) (hsz : ls.size = nL) (hW : (rest.map fun v => v.category).sum ≤ 8) (hdg : decode cc pc = .ok (.invokevirtual 71, 3)) (kk : ∀ (H : Heap) (locs : List Loc), WD G A s (mw G ad z) H locs → W p l e R s m args below meth c H locs cells slots Q (F0 m (pc + 3) ls (rest))) : W p l e R s m args below meth c H locs cells slots Q (F0 m pc ls (.int x2 :: .ref (ad 7) :: .ref (ad 0) :: rest)) := callW (runV F yv_X4_write_a7 (c_X4_write_a7 h) hw.1 hw.2.1 hw.2.2.1 rfl rfl rfl ⟨rfl, rfl⟩ hR hcs rfl hsz rfl hW hdg) hw.2.2.2 hw.2.2.1.own_in (fun H1 l1 hP _ hS => kk H1 l1 ⟨hw.1, hP, hw.2.2.1.addr rfl, hS⟩)
def rmX4_write_a8 : Room := { frames := 0, cells := 0, slots := 0, locals := 0 }
noncomputable def f_X4_write_a8_2 : Nat → Int32 → Int32 → MS → Option (MS)
  | 0, _, _, _ => none
  | n + 1, x2, x3, u => (if x2 ≤ x3 then some u else (if ix x3 4800 = true then (if ix (u.1 20) 98460 = true then f_X4_write_a8_2 n x2 (x3 + 1) (mF (mA u 16 (Int32.toNatClampNeg (u.1 20)) (u.2.1 8 (Int32.toNatClampNeg x3))) 20 (((mA u 16 (Int32.toNatClampNeg (u.1 20)) (u.2.1 8 (Int32.toNatClampNeg x3))).1 20) + 1)) else none) else none))
noncomputable def f_X4_write_a8 (x2 : Int32) (u : MS) : Option (MS) := f_X4_write_a8_2 NF x2 0 u
section
variable {p : Program} {l : Launch} {e : Env} {s : State} {m : MethodId} {args : Array Value} {below : List Frame} {meth : Method} {c : Code}
variable {G : GX} {A : Nat → Prop} {ad : Nat → Nat}
set_option maxHeartbeats 4000000 in
set_option maxRecDepth 100000 in
theorem w_X4_write_a8_2 (F : FX p m c cX4_write 4 s args yX4_write none RX4 meth) {z : MS} : ∀ (n : Nat) (x2 : Int32) (x3 : Int32) (u : MS) (H : Heap) (locs : List Loc) (ls : Array Slot), WD G A s (mw G ad u) H locs → lv_has ls 4 [(0, .ref (ad 0)), (1, .ref (ad 8)), (2, .int x2), (3, .int x3)] → f_X4_write_a8_2 n x2 x3 u = some z → W p l e rmX4_write_a8 s m args below meth c H locs 0 0 (MQ below (QW G (mw G ad z) A none) args s 0 0 A) (F0 m 2 ls []) := by
  obtain ⟨⟨hx, hb, hml, hown, hts⟩, hr, hlocks⟩ := id F
  intro n
  induction n with
  | zero =>
    intro x2 x3 u H locs ls hw hl h
    rw [f_X4_write_a8_2] at h
    cases h
  | succ n ih =>
    intro x2 x3 u H locs ls hw hl h
    rw [f_X4_write_a8_2] at h
    refine lv_iload_n hx hb dX4_write_2 rfl (lv_at hl 3 rfl) ?_
    refine lv_iload_n hx hb dX4_write_3 rfl (lv_at hl 2 rfl) ?_
    refine lv_icmp_ge (tgt := 35) hx hb dX4_write_4 rfl (fun c1 => ?_) (fun c1 => ?_)
    · replace h := itT h c1
      cases h
      exact retW_v F hw dX4_write_35
    · replace h := itF h c1
      refine lv_aload_n hx hb dX4_write_7 rfl (lv_at hl 0 rfl) ?_
      refine m_g16 F hw dX4_write_8 ?_
      refine lv_aload_n hx hb dX4_write_11 rfl (lv_at hl 0 rfl) ?_
      refine m_g20 F hw dX4_write_12 ?_
      refine lv_aload_n hx hb dX4_write_15 rfl (lv_at hl 1 rfl) ?_
      refine lv_iload_n hx hb dX4_write_16 rfl (lv_at hl 3 rfl) ?_
      obtain ⟨g2, h⟩ := gd h
      refine m_l8 F hw g2 dX4_write_17 ?_
      obtain ⟨g3, h⟩ := gd h
      refine m_s16 F hw g3 dX4_write_18 (fun H locs hw => ?_)
      refine lv_aload_n hx hb dX4_write_19 rfl (lv_at hl 0 rfl) ?_
      refine lv_dup hx hb dX4_write_20 rfl ?_
      refine m_g20 F hw dX4_write_21 ?_
      refine lv_iconst (v := 1) hx hb dX4_write_24 rfl ?_
      refine lv_iadd hx hb dX4_write_25 ?_
      refine m_p20 F hw dX4_write_26 (fun H locs hw => ?_)
      refine lv_iinc (v := (x3 + 1)) (lv' := [(3, .int (x3 + 1)), (0, .ref (ad 0)), (1, .ref (ad 8)), (2, .int x2)]) hx hb dX4_write_29 hl (k := 3) rfl rfl (by decide) rfl (fun ls hl => ?_)
      refine lv_goto (tgt := 2) hx hb dX4_write_32 rfl ?_
      exact ih _ _ _ _ _ _ hw (lv_sub hl [1, 2, 3, 0] rfl) h
set_option maxHeartbeats 4000000 in
set_option maxRecDepth 100000 in
theorem w_X4_write_a8_0 (F : FX p m c cX4_write 4 s args yX4_write none RX4 meth) {z : MS} : ∀ (x2 : Int32) (u : MS) (H : Heap) (locs : List Loc) (ls : Array Slot), WD G A s (mw G ad u) H locs → lv_has ls 4 [(0, .ref (ad 0)), (1, .ref (ad 8)), (2, .int x2)] → f_X4_write_a8 x2 u = some z → W p l e rmX4_write_a8 s m args below meth c H locs 0 0 (MQ below (QW G (mw G ad z) A none) args s 0 0 A) (F0 m 0 ls []) := by
  obtain ⟨⟨hx, hb, hml, hown, hts⟩, hr, hlocks⟩ := id F
  intro x2 u H locs ls hw hl h
  unfold f_X4_write_a8 at h
  refine lv_iconst (v := 0) hx hb dX4_write_0 rfl ?_
  refine lv_istore_n (lv' := [(3, .int 0), (0, .ref (ad 0)), (1, .ref (ad 8)), (2, .int x2)]) hx hb dX4_write_1 rfl hl (by decide) rfl (fun ls hl => ?_)
  exact w_X4_write_a8_2 F NF _ _ _ _ _ _ hw (lv_sub hl [1, 2, 3, 0] rfl) h
end
theorem c_X4_write_a8 {l : Launch} {G : GX} {ad : Nat → Nat} {x2 : Int32} {u : MS} {z : MS} (h : f_X4_write_a8 x2 u = some z) : MW l yX4_write cX4_write 4 none rmX4_write_a8 G (mw G ad u) (mw G ad z) [.ref (ad 0), .ref (ad 8), .int x2] none := MW.of (by decide) (Nat.le_of_ble_eq_true rfl) (fun p e s m below meth c ls F hw hl => w_X4_write_a8_0 F _ _ _ _ _ hw hl h)
theorem yv_X4_write_a8 : YV RX4 71 yX4_write cX4_write 4 none 2 := ⟨(tw 613 (by decide +kernel) rfl), (tw 6 (by decide +kernel) rfl), (tw 610 (by decide +kernel) rfl), (tw 612 (by decide +kernel) rfl), (tp 14 (by decide +kernel) rfl), by decide +kernel⟩
theorem k_X4_write_a8 {p : Program} {l : Launch} {e : Env} {R : Room} {s : State} {m : MethodId} {args : Array Value} {below : List Frame} {meth : Method} {c : Code} {H : Heap} {locs : List Loc} {cells slots : Nat} {Q : State → Prop} {G : GX} {A : Nat → Prop} {ad : Nat → Nat} {cc : ByteArray} {nL pc : Nat} {y0 : MethodName} {ret0 : Option FieldType} {ls : Array Slot} {rest : List Value} {u : MS} {x2 : Int32} {z : MS} (F : FX p m c cc nL s args y0 ret0 RX4 meth) (hw : WD G A s (mw G ad u) H locs) (h : f_X4_write_a8 x2 u = some z) (hR : rmX4_write_a8.frames + 1 ≤ R.frames ∧ 8 + (4 + 11) + rmX4_write_a8.locals ≤ R.locals) (hcs : cells ≤ R.cells ∧ slots ≤ R.slots) (hsz : ls.size = nL) (hW : (rest.map fun v => v.category).sum ≤ 8) (hdg : decode cc pc = .ok (.invokevirtual 71, 3)) (kk : ∀ (H : Heap) (locs : List Loc), WD G A s (mw G ad z) H locs → W p l e R s m args below meth c H locs cells slots Q (F0 m (pc + 3) ls (rest))) : W p l e R s m args below meth c H locs cells slots Q (F0 m pc ls (.int x2 :: .ref (ad 8) :: .ref (ad 0) :: rest)) := callW (runV F yv_X4_write_a8 (c_X4_write_a8 h) hw.1 hw.2.1 hw.2.2.1 rfl rfl rfl ⟨rfl, rfl⟩ hR hcs rfl hsz rfl hW hdg) hw.2.2.2 hw.2.2.1.own_in (fun H1 l1 hP _ hS => kk H1 l1 ⟨hw.1, hP, hw.2.2.1.addr rfl, hS⟩)
def rmX4_write_a11 : Room := { frames := 0, cells := 0, slots := 0, locals := 0 }
noncomputable def f_X4_write_a11_2 : Nat → Int32 → Int32 → MS → Option (MS)
  | 0, _, _, _ => none
  | n + 1, x2, x3, u => (if x2 ≤ x3 then some u else (if ix x3 600 = true then (if ix (u.1 20) 98460 = true then f_X4_write_a11_2 n x2 (x3 + 1) (mF (mA u 16 (Int32.toNatClampNeg (u.1 20)) (u.2.1 11 (Int32.toNatClampNeg x3))) 20 (((mA u 16 (Int32.toNatClampNeg (u.1 20)) (u.2.1 11 (Int32.toNatClampNeg x3))).1 20) + 1)) else none) else none))
noncomputable def f_X4_write_a11 (x2 : Int32) (u : MS) : Option (MS) := f_X4_write_a11_2 NF x2 0 u
section
variable {p : Program} {l : Launch} {e : Env} {s : State} {m : MethodId} {args : Array Value} {below : List Frame} {meth : Method} {c : Code}
variable {G : GX} {A : Nat → Prop} {ad : Nat → Nat}
set_option maxHeartbeats 4000000 in
set_option maxRecDepth 100000 in
theorem w_X4_write_a11_2 (F : FX p m c cX4_write 4 s args yX4_write none RX4 meth) {z : MS} : ∀ (n : Nat) (x2 : Int32) (x3 : Int32) (u : MS) (H : Heap) (locs : List Loc) (ls : Array Slot), WD G A s (mw G ad u) H locs → lv_has ls 4 [(0, .ref (ad 0)), (1, .ref (ad 11)), (2, .int x2), (3, .int x3)] → f_X4_write_a11_2 n x2 x3 u = some z → W p l e rmX4_write_a11 s m args below meth c H locs 0 0 (MQ below (QW G (mw G ad z) A none) args s 0 0 A) (F0 m 2 ls []) := by
  obtain ⟨⟨hx, hb, hml, hown, hts⟩, hr, hlocks⟩ := id F
  intro n
  induction n with
  | zero =>
    intro x2 x3 u H locs ls hw hl h
    rw [f_X4_write_a11_2] at h
    cases h
  | succ n ih =>
    intro x2 x3 u H locs ls hw hl h
    rw [f_X4_write_a11_2] at h
    refine lv_iload_n hx hb dX4_write_2 rfl (lv_at hl 3 rfl) ?_
    refine lv_iload_n hx hb dX4_write_3 rfl (lv_at hl 2 rfl) ?_
    refine lv_icmp_ge (tgt := 35) hx hb dX4_write_4 rfl (fun c1 => ?_) (fun c1 => ?_)
    · replace h := itT h c1
      cases h
      exact retW_v F hw dX4_write_35
    · replace h := itF h c1
      refine lv_aload_n hx hb dX4_write_7 rfl (lv_at hl 0 rfl) ?_
      refine m_g16 F hw dX4_write_8 ?_
      refine lv_aload_n hx hb dX4_write_11 rfl (lv_at hl 0 rfl) ?_
      refine m_g20 F hw dX4_write_12 ?_
      refine lv_aload_n hx hb dX4_write_15 rfl (lv_at hl 1 rfl) ?_
      refine lv_iload_n hx hb dX4_write_16 rfl (lv_at hl 3 rfl) ?_
      obtain ⟨g2, h⟩ := gd h
      refine m_l11 F hw g2 dX4_write_17 ?_
      obtain ⟨g3, h⟩ := gd h
      refine m_s16 F hw g3 dX4_write_18 (fun H locs hw => ?_)
      refine lv_aload_n hx hb dX4_write_19 rfl (lv_at hl 0 rfl) ?_
      refine lv_dup hx hb dX4_write_20 rfl ?_
      refine m_g20 F hw dX4_write_21 ?_
      refine lv_iconst (v := 1) hx hb dX4_write_24 rfl ?_
      refine lv_iadd hx hb dX4_write_25 ?_
      refine m_p20 F hw dX4_write_26 (fun H locs hw => ?_)
      refine lv_iinc (v := (x3 + 1)) (lv' := [(3, .int (x3 + 1)), (0, .ref (ad 0)), (1, .ref (ad 11)), (2, .int x2)]) hx hb dX4_write_29 hl (k := 3) rfl rfl (by decide) rfl (fun ls hl => ?_)
      refine lv_goto (tgt := 2) hx hb dX4_write_32 rfl ?_
      exact ih _ _ _ _ _ _ hw (lv_sub hl [1, 2, 3, 0] rfl) h
set_option maxHeartbeats 4000000 in
set_option maxRecDepth 100000 in
theorem w_X4_write_a11_0 (F : FX p m c cX4_write 4 s args yX4_write none RX4 meth) {z : MS} : ∀ (x2 : Int32) (u : MS) (H : Heap) (locs : List Loc) (ls : Array Slot), WD G A s (mw G ad u) H locs → lv_has ls 4 [(0, .ref (ad 0)), (1, .ref (ad 11)), (2, .int x2)] → f_X4_write_a11 x2 u = some z → W p l e rmX4_write_a11 s m args below meth c H locs 0 0 (MQ below (QW G (mw G ad z) A none) args s 0 0 A) (F0 m 0 ls []) := by
  obtain ⟨⟨hx, hb, hml, hown, hts⟩, hr, hlocks⟩ := id F
  intro x2 u H locs ls hw hl h
  unfold f_X4_write_a11 at h
  refine lv_iconst (v := 0) hx hb dX4_write_0 rfl ?_
  refine lv_istore_n (lv' := [(3, .int 0), (0, .ref (ad 0)), (1, .ref (ad 11)), (2, .int x2)]) hx hb dX4_write_1 rfl hl (by decide) rfl (fun ls hl => ?_)
  exact w_X4_write_a11_2 F NF _ _ _ _ _ _ hw (lv_sub hl [1, 2, 3, 0] rfl) h
end
theorem c_X4_write_a11 {l : Launch} {G : GX} {ad : Nat → Nat} {x2 : Int32} {u : MS} {z : MS} (h : f_X4_write_a11 x2 u = some z) : MW l yX4_write cX4_write 4 none rmX4_write_a11 G (mw G ad u) (mw G ad z) [.ref (ad 0), .ref (ad 11), .int x2] none := MW.of (by decide) (Nat.le_of_ble_eq_true rfl) (fun p e s m below meth c ls F hw hl => w_X4_write_a11_0 F _ _ _ _ _ hw hl h)
theorem yv_X4_write_a11 : YV RX4 71 yX4_write cX4_write 4 none 2 := ⟨(tw 613 (by decide +kernel) rfl), (tw 6 (by decide +kernel) rfl), (tw 610 (by decide +kernel) rfl), (tw 612 (by decide +kernel) rfl), (tp 14 (by decide +kernel) rfl), by decide +kernel⟩
theorem k_X4_write_a11 {p : Program} {l : Launch} {e : Env} {R : Room} {s : State} {m : MethodId} {args : Array Value} {below : List Frame} {meth : Method} {c : Code} {H : Heap} {locs : List Loc} {cells slots : Nat} {Q : State → Prop} {G : GX} {A : Nat → Prop} {ad : Nat → Nat} {cc : ByteArray} {nL pc : Nat} {y0 : MethodName} {ret0 : Option FieldType} {ls : Array Slot} {rest : List Value} {u : MS} {x2 : Int32} {z : MS} (F : FX p m c cc nL s args y0 ret0 RX4 meth) (hw : WD G A s (mw G ad u) H locs) (h : f_X4_write_a11 x2 u = some z) (hR : rmX4_write_a11.frames + 1 ≤ R.frames ∧ 8 + (4 + 11) + rmX4_write_a11.locals ≤ R.locals) (hcs : cells ≤ R.cells ∧ slots ≤ R.slots) (hsz : ls.size = nL) (hW : (rest.map fun v => v.category).sum ≤ 8) (hdg : decode cc pc = .ok (.invokevirtual 71, 3)) (kk : ∀ (H : Heap) (locs : List Loc), WD G A s (mw G ad z) H locs → W p l e R s m args below meth c H locs cells slots Q (F0 m (pc + 3) ls (rest))) : W p l e R s m args below meth c H locs cells slots Q (F0 m pc ls (.int x2 :: .ref (ad 11) :: .ref (ad 0) :: rest)) := callW (runV F yv_X4_write_a11 (c_X4_write_a11 h) hw.1 hw.2.1 hw.2.2.1 rfl rfl rfl ⟨rfl, rfl⟩ hR hcs rfl hsz rfl hW hdg) hw.2.2.2 hw.2.2.1.own_in (fun H1 l1 hP _ hS => kk H1 l1 ⟨hw.1, hP, hw.2.2.1.addr rfl, hS⟩)
def rmX4_write_a12 : Room := { frames := 0, cells := 0, slots := 0, locals := 0 }
noncomputable def f_X4_write_a12_2 : Nat → Int32 → Int32 → MS → Option (MS)
  | 0, _, _, _ => none
  | n + 1, x2, x3, u => (if x2 ≤ x3 then some u else (if ix x3 20 = true then (if ix (u.1 20) 98460 = true then f_X4_write_a12_2 n x2 (x3 + 1) (mF (mA u 16 (Int32.toNatClampNeg (u.1 20)) (u.2.1 12 (Int32.toNatClampNeg x3))) 20 (((mA u 16 (Int32.toNatClampNeg (u.1 20)) (u.2.1 12 (Int32.toNatClampNeg x3))).1 20) + 1)) else none) else none))
noncomputable def f_X4_write_a12 (x2 : Int32) (u : MS) : Option (MS) := f_X4_write_a12_2 NF x2 0 u
section
variable {p : Program} {l : Launch} {e : Env} {s : State} {m : MethodId} {args : Array Value} {below : List Frame} {meth : Method} {c : Code}
variable {G : GX} {A : Nat → Prop} {ad : Nat → Nat}
set_option maxHeartbeats 4000000 in
set_option maxRecDepth 100000 in
theorem w_X4_write_a12_2 (F : FX p m c cX4_write 4 s args yX4_write none RX4 meth) {z : MS} : ∀ (n : Nat) (x2 : Int32) (x3 : Int32) (u : MS) (H : Heap) (locs : List Loc) (ls : Array Slot), WD G A s (mw G ad u) H locs → lv_has ls 4 [(0, .ref (ad 0)), (1, .ref (ad 12)), (2, .int x2), (3, .int x3)] → f_X4_write_a12_2 n x2 x3 u = some z → W p l e rmX4_write_a12 s m args below meth c H locs 0 0 (MQ below (QW G (mw G ad z) A none) args s 0 0 A) (F0 m 2 ls []) := by
  obtain ⟨⟨hx, hb, hml, hown, hts⟩, hr, hlocks⟩ := id F
  intro n
  induction n with
  | zero =>
    intro x2 x3 u H locs ls hw hl h
    rw [f_X4_write_a12_2] at h
    cases h
  | succ n ih =>
    intro x2 x3 u H locs ls hw hl h
    rw [f_X4_write_a12_2] at h
    refine lv_iload_n hx hb dX4_write_2 rfl (lv_at hl 3 rfl) ?_
    refine lv_iload_n hx hb dX4_write_3 rfl (lv_at hl 2 rfl) ?_
    refine lv_icmp_ge (tgt := 35) hx hb dX4_write_4 rfl (fun c1 => ?_) (fun c1 => ?_)
    · replace h := itT h c1
      cases h
      exact retW_v F hw dX4_write_35
    · replace h := itF h c1
      refine lv_aload_n hx hb dX4_write_7 rfl (lv_at hl 0 rfl) ?_
      refine m_g16 F hw dX4_write_8 ?_
      refine lv_aload_n hx hb dX4_write_11 rfl (lv_at hl 0 rfl) ?_
      refine m_g20 F hw dX4_write_12 ?_
      refine lv_aload_n hx hb dX4_write_15 rfl (lv_at hl 1 rfl) ?_
      refine lv_iload_n hx hb dX4_write_16 rfl (lv_at hl 3 rfl) ?_
      obtain ⟨g2, h⟩ := gd h
      refine m_l12 F hw g2 dX4_write_17 ?_
      obtain ⟨g3, h⟩ := gd h
      refine m_s16 F hw g3 dX4_write_18 (fun H locs hw => ?_)
      refine lv_aload_n hx hb dX4_write_19 rfl (lv_at hl 0 rfl) ?_
      refine lv_dup hx hb dX4_write_20 rfl ?_
      refine m_g20 F hw dX4_write_21 ?_
      refine lv_iconst (v := 1) hx hb dX4_write_24 rfl ?_
      refine lv_iadd hx hb dX4_write_25 ?_
      refine m_p20 F hw dX4_write_26 (fun H locs hw => ?_)
      refine lv_iinc (v := (x3 + 1)) (lv' := [(3, .int (x3 + 1)), (0, .ref (ad 0)), (1, .ref (ad 12)), (2, .int x2)]) hx hb dX4_write_29 hl (k := 3) rfl rfl (by decide) rfl (fun ls hl => ?_)
      refine lv_goto (tgt := 2) hx hb dX4_write_32 rfl ?_
      exact ih _ _ _ _ _ _ hw (lv_sub hl [1, 2, 3, 0] rfl) h
set_option maxHeartbeats 4000000 in
set_option maxRecDepth 100000 in
theorem w_X4_write_a12_0 (F : FX p m c cX4_write 4 s args yX4_write none RX4 meth) {z : MS} : ∀ (x2 : Int32) (u : MS) (H : Heap) (locs : List Loc) (ls : Array Slot), WD G A s (mw G ad u) H locs → lv_has ls 4 [(0, .ref (ad 0)), (1, .ref (ad 12)), (2, .int x2)] → f_X4_write_a12 x2 u = some z → W p l e rmX4_write_a12 s m args below meth c H locs 0 0 (MQ below (QW G (mw G ad z) A none) args s 0 0 A) (F0 m 0 ls []) := by
  obtain ⟨⟨hx, hb, hml, hown, hts⟩, hr, hlocks⟩ := id F
  intro x2 u H locs ls hw hl h
  unfold f_X4_write_a12 at h
  refine lv_iconst (v := 0) hx hb dX4_write_0 rfl ?_
  refine lv_istore_n (lv' := [(3, .int 0), (0, .ref (ad 0)), (1, .ref (ad 12)), (2, .int x2)]) hx hb dX4_write_1 rfl hl (by decide) rfl (fun ls hl => ?_)
  exact w_X4_write_a12_2 F NF _ _ _ _ _ _ hw (lv_sub hl [1, 2, 3, 0] rfl) h
end
theorem c_X4_write_a12 {l : Launch} {G : GX} {ad : Nat → Nat} {x2 : Int32} {u : MS} {z : MS} (h : f_X4_write_a12 x2 u = some z) : MW l yX4_write cX4_write 4 none rmX4_write_a12 G (mw G ad u) (mw G ad z) [.ref (ad 0), .ref (ad 12), .int x2] none := MW.of (by decide) (Nat.le_of_ble_eq_true rfl) (fun p e s m below meth c ls F hw hl => w_X4_write_a12_0 F _ _ _ _ _ hw hl h)
theorem yv_X4_write_a12 : YV RX4 71 yX4_write cX4_write 4 none 2 := ⟨(tw 613 (by decide +kernel) rfl), (tw 6 (by decide +kernel) rfl), (tw 610 (by decide +kernel) rfl), (tw 612 (by decide +kernel) rfl), (tp 14 (by decide +kernel) rfl), by decide +kernel⟩
theorem k_X4_write_a12 {p : Program} {l : Launch} {e : Env} {R : Room} {s : State} {m : MethodId} {args : Array Value} {below : List Frame} {meth : Method} {c : Code} {H : Heap} {locs : List Loc} {cells slots : Nat} {Q : State → Prop} {G : GX} {A : Nat → Prop} {ad : Nat → Nat} {cc : ByteArray} {nL pc : Nat} {y0 : MethodName} {ret0 : Option FieldType} {ls : Array Slot} {rest : List Value} {u : MS} {x2 : Int32} {z : MS} (F : FX p m c cc nL s args y0 ret0 RX4 meth) (hw : WD G A s (mw G ad u) H locs) (h : f_X4_write_a12 x2 u = some z) (hR : rmX4_write_a12.frames + 1 ≤ R.frames ∧ 8 + (4 + 11) + rmX4_write_a12.locals ≤ R.locals) (hcs : cells ≤ R.cells ∧ slots ≤ R.slots) (hsz : ls.size = nL) (hW : (rest.map fun v => v.category).sum ≤ 8) (hdg : decode cc pc = .ok (.invokevirtual 71, 3)) (kk : ∀ (H : Heap) (locs : List Loc), WD G A s (mw G ad z) H locs → W p l e R s m args below meth c H locs cells slots Q (F0 m (pc + 3) ls (rest))) : W p l e R s m args below meth c H locs cells slots Q (F0 m pc ls (.int x2 :: .ref (ad 12) :: .ref (ad 0) :: rest)) := callW (runV F yv_X4_write_a12 (c_X4_write_a12 h) hw.1 hw.2.1 hw.2.2.1 rfl rfl rfl ⟨rfl, rfl⟩ hR hcs rfl hsz rfl hW hdg) hw.2.2.2 hw.2.2.1.own_in (fun H1 l1 hP _ hS => kk H1 l1 ⟨hw.1, hP, hw.2.2.1.addr rfl, hS⟩)
def rmX4_write_a13 : Room := { frames := 0, cells := 0, slots := 0, locals := 0 }
noncomputable def f_X4_write_a13_2 : Nat → Int32 → Int32 → MS → Option (MS)
  | 0, _, _, _ => none
  | n + 1, x2, x3, u => (if x2 ≤ x3 then some u else (if ix x3 20 = true then (if ix (u.1 20) 98460 = true then f_X4_write_a13_2 n x2 (x3 + 1) (mF (mA u 16 (Int32.toNatClampNeg (u.1 20)) (u.2.1 13 (Int32.toNatClampNeg x3))) 20 (((mA u 16 (Int32.toNatClampNeg (u.1 20)) (u.2.1 13 (Int32.toNatClampNeg x3))).1 20) + 1)) else none) else none))
noncomputable def f_X4_write_a13 (x2 : Int32) (u : MS) : Option (MS) := f_X4_write_a13_2 NF x2 0 u
section
variable {p : Program} {l : Launch} {e : Env} {s : State} {m : MethodId} {args : Array Value} {below : List Frame} {meth : Method} {c : Code}
variable {G : GX} {A : Nat → Prop} {ad : Nat → Nat}
set_option maxHeartbeats 4000000 in
set_option maxRecDepth 100000 in
theorem w_X4_write_a13_2 (F : FX p m c cX4_write 4 s args yX4_write none RX4 meth) {z : MS} : ∀ (n : Nat) (x2 : Int32) (x3 : Int32) (u : MS) (H : Heap) (locs : List Loc) (ls : Array Slot), WD G A s (mw G ad u) H locs → lv_has ls 4 [(0, .ref (ad 0)), (1, .ref (ad 13)), (2, .int x2), (3, .int x3)] → f_X4_write_a13_2 n x2 x3 u = some z → W p l e rmX4_write_a13 s m args below meth c H locs 0 0 (MQ below (QW G (mw G ad z) A none) args s 0 0 A) (F0 m 2 ls []) := by
  obtain ⟨⟨hx, hb, hml, hown, hts⟩, hr, hlocks⟩ := id F
  intro n
  induction n with
  | zero =>
    intro x2 x3 u H locs ls hw hl h
    rw [f_X4_write_a13_2] at h
    cases h
  | succ n ih =>
    intro x2 x3 u H locs ls hw hl h
    rw [f_X4_write_a13_2] at h
    refine lv_iload_n hx hb dX4_write_2 rfl (lv_at hl 3 rfl) ?_
    refine lv_iload_n hx hb dX4_write_3 rfl (lv_at hl 2 rfl) ?_
    refine lv_icmp_ge (tgt := 35) hx hb dX4_write_4 rfl (fun c1 => ?_) (fun c1 => ?_)
    · replace h := itT h c1
      cases h
      exact retW_v F hw dX4_write_35
    · replace h := itF h c1
      refine lv_aload_n hx hb dX4_write_7 rfl (lv_at hl 0 rfl) ?_
      refine m_g16 F hw dX4_write_8 ?_
      refine lv_aload_n hx hb dX4_write_11 rfl (lv_at hl 0 rfl) ?_
      refine m_g20 F hw dX4_write_12 ?_
      refine lv_aload_n hx hb dX4_write_15 rfl (lv_at hl 1 rfl) ?_
      refine lv_iload_n hx hb dX4_write_16 rfl (lv_at hl 3 rfl) ?_
      obtain ⟨g2, h⟩ := gd h
      refine m_l13 F hw g2 dX4_write_17 ?_
      obtain ⟨g3, h⟩ := gd h
      refine m_s16 F hw g3 dX4_write_18 (fun H locs hw => ?_)
      refine lv_aload_n hx hb dX4_write_19 rfl (lv_at hl 0 rfl) ?_
      refine lv_dup hx hb dX4_write_20 rfl ?_
      refine m_g20 F hw dX4_write_21 ?_
      refine lv_iconst (v := 1) hx hb dX4_write_24 rfl ?_
      refine lv_iadd hx hb dX4_write_25 ?_
      refine m_p20 F hw dX4_write_26 (fun H locs hw => ?_)
      refine lv_iinc (v := (x3 + 1)) (lv' := [(3, .int (x3 + 1)), (0, .ref (ad 0)), (1, .ref (ad 13)), (2, .int x2)]) hx hb dX4_write_29 hl (k := 3) rfl rfl (by decide) rfl (fun ls hl => ?_)
      refine lv_goto (tgt := 2) hx hb dX4_write_32 rfl ?_
      exact ih _ _ _ _ _ _ hw (lv_sub hl [1, 2, 3, 0] rfl) h
set_option maxHeartbeats 4000000 in
set_option maxRecDepth 100000 in
theorem w_X4_write_a13_0 (F : FX p m c cX4_write 4 s args yX4_write none RX4 meth) {z : MS} : ∀ (x2 : Int32) (u : MS) (H : Heap) (locs : List Loc) (ls : Array Slot), WD G A s (mw G ad u) H locs → lv_has ls 4 [(0, .ref (ad 0)), (1, .ref (ad 13)), (2, .int x2)] → f_X4_write_a13 x2 u = some z → W p l e rmX4_write_a13 s m args below meth c H locs 0 0 (MQ below (QW G (mw G ad z) A none) args s 0 0 A) (F0 m 0 ls []) := by
  obtain ⟨⟨hx, hb, hml, hown, hts⟩, hr, hlocks⟩ := id F
  intro x2 u H locs ls hw hl h
  unfold f_X4_write_a13 at h
  refine lv_iconst (v := 0) hx hb dX4_write_0 rfl ?_
  refine lv_istore_n (lv' := [(3, .int 0), (0, .ref (ad 0)), (1, .ref (ad 13)), (2, .int x2)]) hx hb dX4_write_1 rfl hl (by decide) rfl (fun ls hl => ?_)
  exact w_X4_write_a13_2 F NF _ _ _ _ _ _ hw (lv_sub hl [1, 2, 3, 0] rfl) h
end
theorem c_X4_write_a13 {l : Launch} {G : GX} {ad : Nat → Nat} {x2 : Int32} {u : MS} {z : MS} (h : f_X4_write_a13 x2 u = some z) : MW l yX4_write cX4_write 4 none rmX4_write_a13 G (mw G ad u) (mw G ad z) [.ref (ad 0), .ref (ad 13), .int x2] none := MW.of (by decide) (Nat.le_of_ble_eq_true rfl) (fun p e s m below meth c ls F hw hl => w_X4_write_a13_0 F _ _ _ _ _ hw hl h)
theorem yv_X4_write_a13 : YV RX4 71 yX4_write cX4_write 4 none 2 := ⟨(tw 613 (by decide +kernel) rfl), (tw 6 (by decide +kernel) rfl), (tw 610 (by decide +kernel) rfl), (tw 612 (by decide +kernel) rfl), (tp 14 (by decide +kernel) rfl), by decide +kernel⟩
theorem k_X4_write_a13 {p : Program} {l : Launch} {e : Env} {R : Room} {s : State} {m : MethodId} {args : Array Value} {below : List Frame} {meth : Method} {c : Code} {H : Heap} {locs : List Loc} {cells slots : Nat} {Q : State → Prop} {G : GX} {A : Nat → Prop} {ad : Nat → Nat} {cc : ByteArray} {nL pc : Nat} {y0 : MethodName} {ret0 : Option FieldType} {ls : Array Slot} {rest : List Value} {u : MS} {x2 : Int32} {z : MS} (F : FX p m c cc nL s args y0 ret0 RX4 meth) (hw : WD G A s (mw G ad u) H locs) (h : f_X4_write_a13 x2 u = some z) (hR : rmX4_write_a13.frames + 1 ≤ R.frames ∧ 8 + (4 + 11) + rmX4_write_a13.locals ≤ R.locals) (hcs : cells ≤ R.cells ∧ slots ≤ R.slots) (hsz : ls.size = nL) (hW : (rest.map fun v => v.category).sum ≤ 8) (hdg : decode cc pc = .ok (.invokevirtual 71, 3)) (kk : ∀ (H : Heap) (locs : List Loc), WD G A s (mw G ad z) H locs → W p l e R s m args below meth c H locs cells slots Q (F0 m (pc + 3) ls (rest))) : W p l e R s m args below meth c H locs cells slots Q (F0 m pc ls (.int x2 :: .ref (ad 13) :: .ref (ad 0) :: rest)) := callW (runV F yv_X4_write_a13 (c_X4_write_a13 h) hw.1 hw.2.1 hw.2.2.1 rfl rfl rfl ⟨rfl, rfl⟩ hR hcs rfl hsz rfl hW hdg) hw.2.2.2 hw.2.2.1.own_in (fun H1 l1 hP _ hS => kk H1 l1 ⟨hw.1, hP, hw.2.2.1.addr rfl, hS⟩)
def rmX4_write_a14 : Room := { frames := 0, cells := 0, slots := 0, locals := 0 }
noncomputable def f_X4_write_a14_2 : Nat → Int32 → Int32 → MS → Option (MS)
  | 0, _, _, _ => none
  | n + 1, x2, x3, u => (if x2 ≤ x3 then some u else (if ix x3 20 = true then (if ix (u.1 20) 98460 = true then f_X4_write_a14_2 n x2 (x3 + 1) (mF (mA u 16 (Int32.toNatClampNeg (u.1 20)) (u.2.1 14 (Int32.toNatClampNeg x3))) 20 (((mA u 16 (Int32.toNatClampNeg (u.1 20)) (u.2.1 14 (Int32.toNatClampNeg x3))).1 20) + 1)) else none) else none))
noncomputable def f_X4_write_a14 (x2 : Int32) (u : MS) : Option (MS) := f_X4_write_a14_2 NF x2 0 u
section
variable {p : Program} {l : Launch} {e : Env} {s : State} {m : MethodId} {args : Array Value} {below : List Frame} {meth : Method} {c : Code}
variable {G : GX} {A : Nat → Prop} {ad : Nat → Nat}
set_option maxHeartbeats 4000000 in
set_option maxRecDepth 100000 in
theorem w_X4_write_a14_2 (F : FX p m c cX4_write 4 s args yX4_write none RX4 meth) {z : MS} : ∀ (n : Nat) (x2 : Int32) (x3 : Int32) (u : MS) (H : Heap) (locs : List Loc) (ls : Array Slot), WD G A s (mw G ad u) H locs → lv_has ls 4 [(0, .ref (ad 0)), (1, .ref (ad 14)), (2, .int x2), (3, .int x3)] → f_X4_write_a14_2 n x2 x3 u = some z → W p l e rmX4_write_a14 s m args below meth c H locs 0 0 (MQ below (QW G (mw G ad z) A none) args s 0 0 A) (F0 m 2 ls []) := by
  obtain ⟨⟨hx, hb, hml, hown, hts⟩, hr, hlocks⟩ := id F
  intro n
  induction n with
  | zero =>
    intro x2 x3 u H locs ls hw hl h
    rw [f_X4_write_a14_2] at h
    cases h
  | succ n ih =>
    intro x2 x3 u H locs ls hw hl h
    rw [f_X4_write_a14_2] at h
    refine lv_iload_n hx hb dX4_write_2 rfl (lv_at hl 3 rfl) ?_
    refine lv_iload_n hx hb dX4_write_3 rfl (lv_at hl 2 rfl) ?_
    refine lv_icmp_ge (tgt := 35) hx hb dX4_write_4 rfl (fun c1 => ?_) (fun c1 => ?_)
    · replace h := itT h c1
      cases h
      exact retW_v F hw dX4_write_35
    · replace h := itF h c1
      refine lv_aload_n hx hb dX4_write_7 rfl (lv_at hl 0 rfl) ?_
      refine m_g16 F hw dX4_write_8 ?_
      refine lv_aload_n hx hb dX4_write_11 rfl (lv_at hl 0 rfl) ?_
      refine m_g20 F hw dX4_write_12 ?_
      refine lv_aload_n hx hb dX4_write_15 rfl (lv_at hl 1 rfl) ?_
      refine lv_iload_n hx hb dX4_write_16 rfl (lv_at hl 3 rfl) ?_
      obtain ⟨g2, h⟩ := gd h
      refine m_l14 F hw g2 dX4_write_17 ?_
      obtain ⟨g3, h⟩ := gd h
      refine m_s16 F hw g3 dX4_write_18 (fun H locs hw => ?_)
      refine lv_aload_n hx hb dX4_write_19 rfl (lv_at hl 0 rfl) ?_
      refine lv_dup hx hb dX4_write_20 rfl ?_
      refine m_g20 F hw dX4_write_21 ?_
      refine lv_iconst (v := 1) hx hb dX4_write_24 rfl ?_
      refine lv_iadd hx hb dX4_write_25 ?_
      refine m_p20 F hw dX4_write_26 (fun H locs hw => ?_)
      refine lv_iinc (v := (x3 + 1)) (lv' := [(3, .int (x3 + 1)), (0, .ref (ad 0)), (1, .ref (ad 14)), (2, .int x2)]) hx hb dX4_write_29 hl (k := 3) rfl rfl (by decide) rfl (fun ls hl => ?_)
      refine lv_goto (tgt := 2) hx hb dX4_write_32 rfl ?_
      exact ih _ _ _ _ _ _ hw (lv_sub hl [1, 2, 3, 0] rfl) h
set_option maxHeartbeats 4000000 in
set_option maxRecDepth 100000 in
theorem w_X4_write_a14_0 (F : FX p m c cX4_write 4 s args yX4_write none RX4 meth) {z : MS} : ∀ (x2 : Int32) (u : MS) (H : Heap) (locs : List Loc) (ls : Array Slot), WD G A s (mw G ad u) H locs → lv_has ls 4 [(0, .ref (ad 0)), (1, .ref (ad 14)), (2, .int x2)] → f_X4_write_a14 x2 u = some z → W p l e rmX4_write_a14 s m args below meth c H locs 0 0 (MQ below (QW G (mw G ad z) A none) args s 0 0 A) (F0 m 0 ls []) := by
  obtain ⟨⟨hx, hb, hml, hown, hts⟩, hr, hlocks⟩ := id F
  intro x2 u H locs ls hw hl h
  unfold f_X4_write_a14 at h
  refine lv_iconst (v := 0) hx hb dX4_write_0 rfl ?_
  refine lv_istore_n (lv' := [(3, .int 0), (0, .ref (ad 0)), (1, .ref (ad 14)), (2, .int x2)]) hx hb dX4_write_1 rfl hl (by decide) rfl (fun ls hl => ?_)
  exact w_X4_write_a14_2 F NF _ _ _ _ _ _ hw (lv_sub hl [1, 2, 3, 0] rfl) h
end
theorem c_X4_write_a14 {l : Launch} {G : GX} {ad : Nat → Nat} {x2 : Int32} {u : MS} {z : MS} (h : f_X4_write_a14 x2 u = some z) : MW l yX4_write cX4_write 4 none rmX4_write_a14 G (mw G ad u) (mw G ad z) [.ref (ad 0), .ref (ad 14), .int x2] none := MW.of (by decide) (Nat.le_of_ble_eq_true rfl) (fun p e s m below meth c ls F hw hl => w_X4_write_a14_0 F _ _ _ _ _ hw hl h)
theorem yv_X4_write_a14 : YV RX4 71 yX4_write cX4_write 4 none 2 := ⟨(tw 613 (by decide +kernel) rfl), (tw 6 (by decide +kernel) rfl), (tw 610 (by decide +kernel) rfl), (tw 612 (by decide +kernel) rfl), (tp 14 (by decide +kernel) rfl), by decide +kernel⟩
theorem k_X4_write_a14 {p : Program} {l : Launch} {e : Env} {R : Room} {s : State} {m : MethodId} {args : Array Value} {below : List Frame} {meth : Method} {c : Code} {H : Heap} {locs : List Loc} {cells slots : Nat} {Q : State → Prop} {G : GX} {A : Nat → Prop} {ad : Nat → Nat} {cc : ByteArray} {nL pc : Nat} {y0 : MethodName} {ret0 : Option FieldType} {ls : Array Slot} {rest : List Value} {u : MS} {x2 : Int32} {z : MS} (F : FX p m c cc nL s args y0 ret0 RX4 meth) (hw : WD G A s (mw G ad u) H locs) (h : f_X4_write_a14 x2 u = some z) (hR : rmX4_write_a14.frames + 1 ≤ R.frames ∧ 8 + (4 + 11) + rmX4_write_a14.locals ≤ R.locals) (hcs : cells ≤ R.cells ∧ slots ≤ R.slots) (hsz : ls.size = nL) (hW : (rest.map fun v => v.category).sum ≤ 8) (hdg : decode cc pc = .ok (.invokevirtual 71, 3)) (kk : ∀ (H : Heap) (locs : List Loc), WD G A s (mw G ad z) H locs → W p l e R s m args below meth c H locs cells slots Q (F0 m (pc + 3) ls (rest))) : W p l e R s m args below meth c H locs cells slots Q (F0 m pc ls (.int x2 :: .ref (ad 14) :: .ref (ad 0) :: rest)) := callW (runV F yv_X4_write_a14 (c_X4_write_a14 h) hw.1 hw.2.1 hw.2.2.1 rfl rfl rfl ⟨rfl, rfl⟩ hR hcs rfl hsz rfl hW hdg) hw.2.2.2 hw.2.2.1.own_in (fun H1 l1 hP _ hS => kk H1 l1 ⟨hw.1, hP, hw.2.2.1.addr rfl, hS⟩)
/-! ===== X4_read ===== -/
theorem dX4_read_0 : decode cX4_read 0 = .ok (.iconst 0, 1) := by decide +kernel
theorem dX4_read_1 : decode cX4_read 1 = .ok (.istore_n 3, 1) := by decide +kernel
theorem dX4_read_2 : decode cX4_read 2 = .ok (.iload_n 3, 1) := by decide +kernel
theorem dX4_read_3 : decode cX4_read 3 = .ok (.iload_n 2, 1) := by decide +kernel
theorem dX4_read_4 : decode cX4_read 4 = .ok (.if_icmp .ge 31, 3) := by decide +kernel
theorem dX4_read_7 : decode cX4_read 7 = .ok (.aload_n 1, 1) := by decide +kernel
theorem dX4_read_8 : decode cX4_read 8 = .ok (.iload_n 3, 1) := by decide +kernel
theorem dX4_read_9 : decode cX4_read 9 = .ok (.aload_n 0, 1) := by decide +kernel
theorem dX4_read_10 : decode cX4_read 10 = .ok (.getfield 51, 3) := by decide +kernel
theorem dX4_read_13 : decode cX4_read 13 = .ok (.aload_n 0, 1) := by decide +kernel
theorem dX4_read_14 : decode cX4_read 14 = .ok (.getfield 68, 3) := by decide +kernel
theorem dX4_read_17 : decode cX4_read 17 = .ok (.iaload, 1) := by decide +kernel
theorem dX4_read_18 : decode cX4_read 18 = .ok (.iastore, 1) := by decide +kernel
theorem dX4_read_19 : decode cX4_read 19 = .ok (.aload_n 0, 1) := by decide +kernel
theorem dX4_read_20 : decode cX4_read 20 = .ok (.dup, 1) := by decide +kernel
theorem dX4_read_21 : decode cX4_read 21 = .ok (.getfield 68, 3) := by decide +kernel
theorem dX4_read_24 : decode cX4_read 24 = .ok (.iconst 1, 1) := by decide +kernel
theorem dX4_read_25 : decode cX4_read 25 = .ok (.iadd, 1) := by decide +kernel
theorem dX4_read_26 : decode cX4_read 26 = .ok (.putfield 68, 3) := by decide +kernel
theorem dX4_read_29 : decode cX4_read 29 = .ok (.iinc 3 1, 3) := by decide +kernel
theorem dX4_read_32 : decode cX4_read 32 = .ok (.goto (-30), 3) := by decide +kernel
theorem dX4_read_35 : decode cX4_read 35 = .ok (.return_, 1) := by decide +kernel
def rmX4_read_a2 : Room := { frames := 0, cells := 0, slots := 0, locals := 0 }
noncomputable def f_X4_read_a2_2 : Nat → Int32 → Int32 → MS → Option (MS)
  | 0, _, _, _ => none
  | n + 1, x2, x3, u => (if x2 ≤ x3 then some u else (if ix (u.1 20) 98460 = true then (if ix x3 8 = true then f_X4_read_a2_2 n x2 (x3 + 1) (mF (mA u 2 (Int32.toNatClampNeg x3) (u.2.1 16 (Int32.toNatClampNeg (u.1 20)))) 20 (((mA u 2 (Int32.toNatClampNeg x3) (u.2.1 16 (Int32.toNatClampNeg (u.1 20)))).1 20) + 1)) else none) else none))
noncomputable def f_X4_read_a2 (x2 : Int32) (u : MS) : Option (MS) := f_X4_read_a2_2 NF x2 0 u
section
variable {p : Program} {l : Launch} {e : Env} {s : State} {m : MethodId} {args : Array Value} {below : List Frame} {meth : Method} {c : Code}
variable {G : GX} {A : Nat → Prop} {ad : Nat → Nat}
set_option maxHeartbeats 4000000 in
set_option maxRecDepth 100000 in
theorem w_X4_read_a2_2 (F : FX p m c cX4_read 4 s args yX4_read none RX4 meth) {z : MS} : ∀ (n : Nat) (x2 : Int32) (x3 : Int32) (u : MS) (H : Heap) (locs : List Loc) (ls : Array Slot), WD G A s (mw G ad u) H locs → lv_has ls 4 [(0, .ref (ad 0)), (1, .ref (ad 2)), (2, .int x2), (3, .int x3)] → f_X4_read_a2_2 n x2 x3 u = some z → W p l e rmX4_read_a2 s m args below meth c H locs 0 0 (MQ below (QW G (mw G ad z) A none) args s 0 0 A) (F0 m 2 ls []) := by
  obtain ⟨⟨hx, hb, hml, hown, hts⟩, hr, hlocks⟩ := id F
  intro n
  induction n with
  | zero =>
    intro x2 x3 u H locs ls hw hl h
    rw [f_X4_read_a2_2] at h
    cases h
  | succ n ih =>
    intro x2 x3 u H locs ls hw hl h
    rw [f_X4_read_a2_2] at h
    refine lv_iload_n hx hb dX4_read_2 rfl (lv_at hl 3 rfl) ?_
    refine lv_iload_n hx hb dX4_read_3 rfl (lv_at hl 2 rfl) ?_
    refine lv_icmp_ge (tgt := 35) hx hb dX4_read_4 rfl (fun c1 => ?_) (fun c1 => ?_)
    · replace h := itT h c1
      cases h
      exact retW_v F hw dX4_read_35
    · replace h := itF h c1
      refine lv_aload_n hx hb dX4_read_7 rfl (lv_at hl 1 rfl) ?_
      refine lv_iload_n hx hb dX4_read_8 rfl (lv_at hl 3 rfl) ?_
      refine lv_aload_n hx hb dX4_read_9 rfl (lv_at hl 0 rfl) ?_
      refine m_g16 F hw dX4_read_10 ?_
      refine lv_aload_n hx hb dX4_read_13 rfl (lv_at hl 0 rfl) ?_
      refine m_g20 F hw dX4_read_14 ?_
      obtain ⟨g2, h⟩ := gd h
      refine m_l16 F hw g2 dX4_read_17 ?_
      obtain ⟨g3, h⟩ := gd h
      refine m_s2 F hw g3 dX4_read_18 (fun H locs hw => ?_)
      refine lv_aload_n hx hb dX4_read_19 rfl (lv_at hl 0 rfl) ?_
      refine lv_dup hx hb dX4_read_20 rfl ?_
      refine m_g20 F hw dX4_read_21 ?_
      refine lv_iconst (v := 1) hx hb dX4_read_24 rfl ?_
      refine lv_iadd hx hb dX4_read_25 ?_
      refine m_p20 F hw dX4_read_26 (fun H locs hw => ?_)
      refine lv_iinc (v := (x3 + 1)) (lv' := [(3, .int (x3 + 1)), (0, .ref (ad 0)), (1, .ref (ad 2)), (2, .int x2)]) hx hb dX4_read_29 hl (k := 3) rfl rfl (by decide) rfl (fun ls hl => ?_)
      refine lv_goto (tgt := 2) hx hb dX4_read_32 rfl ?_
      exact ih _ _ _ _ _ _ hw (lv_sub hl [1, 2, 3, 0] rfl) h
set_option maxHeartbeats 4000000 in
set_option maxRecDepth 100000 in
theorem w_X4_read_a2_0 (F : FX p m c cX4_read 4 s args yX4_read none RX4 meth) {z : MS} : ∀ (x2 : Int32) (u : MS) (H : Heap) (locs : List Loc) (ls : Array Slot), WD G A s (mw G ad u) H locs → lv_has ls 4 [(0, .ref (ad 0)), (1, .ref (ad 2)), (2, .int x2)] → f_X4_read_a2 x2 u = some z → W p l e rmX4_read_a2 s m args below meth c H locs 0 0 (MQ below (QW G (mw G ad z) A none) args s 0 0 A) (F0 m 0 ls []) := by
  obtain ⟨⟨hx, hb, hml, hown, hts⟩, hr, hlocks⟩ := id F
  intro x2 u H locs ls hw hl h
  unfold f_X4_read_a2 at h
  refine lv_iconst (v := 0) hx hb dX4_read_0 rfl ?_
  refine lv_istore_n (lv' := [(3, .int 0), (0, .ref (ad 0)), (1, .ref (ad 2)), (2, .int x2)]) hx hb dX4_read_1 rfl hl (by decide) rfl (fun ls hl => ?_)
  exact w_X4_read_a2_2 F NF _ _ _ _ _ _ hw (lv_sub hl [1, 2, 3, 0] rfl) h
end
theorem c_X4_read_a2 {l : Launch} {G : GX} {ad : Nat → Nat} {x2 : Int32} {u : MS} {z : MS} (h : f_X4_read_a2 x2 u = some z) : MW l yX4_read cX4_read 4 none rmX4_read_a2 G (mw G ad u) (mw G ad z) [.ref (ad 0), .ref (ad 2), .int x2] none := MW.of (by decide) (Nat.le_of_ble_eq_true rfl) (fun p e s m below meth c ls F hw hl => w_X4_read_a2_0 F _ _ _ _ _ hw hl h)
theorem yv_X4_read_a2 : YV RX4 78 yX4_read cX4_read 4 none 2 := ⟨(tw 598 (by decide +kernel) rfl), (tw 6 (by decide +kernel) rfl), (tw 595 (by decide +kernel) rfl), (tw 597 (by decide +kernel) rfl), (tp 12 (by decide +kernel) rfl), by decide +kernel⟩
theorem k_X4_read_a2 {p : Program} {l : Launch} {e : Env} {R : Room} {s : State} {m : MethodId} {args : Array Value} {below : List Frame} {meth : Method} {c : Code} {H : Heap} {locs : List Loc} {cells slots : Nat} {Q : State → Prop} {G : GX} {A : Nat → Prop} {ad : Nat → Nat} {cc : ByteArray} {nL pc : Nat} {y0 : MethodName} {ret0 : Option FieldType} {ls : Array Slot} {rest : List Value} {u : MS} {x2 : Int32} {z : MS} (F : FX p m c cc nL s args y0 ret0 RX4 meth) (hw : WD G A s (mw G ad u) H locs) (h : f_X4_read_a2 x2 u = some z) (hR : rmX4_read_a2.frames + 1 ≤ R.frames ∧ 8 + (4 + 11) + rmX4_read_a2.locals ≤ R.locals) (hcs : cells ≤ R.cells ∧ slots ≤ R.slots) (hsz : ls.size = nL) (hW : (rest.map fun v => v.category).sum ≤ 8) (hdg : decode cc pc = .ok (.invokevirtual 78, 3)) (kk : ∀ (H : Heap) (locs : List Loc), WD G A s (mw G ad z) H locs → W p l e R s m args below meth c H locs cells slots Q (F0 m (pc + 3) ls (rest))) : W p l e R s m args below meth c H locs cells slots Q (F0 m pc ls (.int x2 :: .ref (ad 2) :: .ref (ad 0) :: rest)) := callW (runV F yv_X4_read_a2 (c_X4_read_a2 h) hw.1 hw.2.1 hw.2.2.1 rfl rfl rfl ⟨rfl, rfl⟩ hR hcs rfl hsz rfl hW hdg) hw.2.2.2 hw.2.2.1.own_in (fun H1 l1 hP _ hS => kk H1 l1 ⟨hw.1, hP, hw.2.2.1.addr rfl, hS⟩)
def rmX4_read_a3 : Room := { frames := 0, cells := 0, slots := 0, locals := 0 }
noncomputable def f_X4_read_a3_2 : Nat → Int32 → Int32 → MS → Option (MS)
  | 0, _, _, _ => none
  | n + 1, x2, x3, u => (if x2 ≤ x3 then some u else (if ix (u.1 20) 98460 = true then (if ix x3 8 = true then f_X4_read_a3_2 n x2 (x3 + 1) (mF (mA u 3 (Int32.toNatClampNeg x3) (u.2.1 16 (Int32.toNatClampNeg (u.1 20)))) 20 (((mA u 3 (Int32.toNatClampNeg x3) (u.2.1 16 (Int32.toNatClampNeg (u.1 20)))).1 20) + 1)) else none) else none))
noncomputable def f_X4_read_a3 (x2 : Int32) (u : MS) : Option (MS) := f_X4_read_a3_2 NF x2 0 u
section
variable {p : Program} {l : Launch} {e : Env} {s : State} {m : MethodId} {args : Array Value} {below : List Frame} {meth : Method} {c : Code}
variable {G : GX} {A : Nat → Prop} {ad : Nat → Nat}
set_option maxHeartbeats 4000000 in
set_option maxRecDepth 100000 in
theorem w_X4_read_a3_2 (F : FX p m c cX4_read 4 s args yX4_read none RX4 meth) {z : MS} : ∀ (n : Nat) (x2 : Int32) (x3 : Int32) (u : MS) (H : Heap) (locs : List Loc) (ls : Array Slot), WD G A s (mw G ad u) H locs → lv_has ls 4 [(0, .ref (ad 0)), (1, .ref (ad 3)), (2, .int x2), (3, .int x3)] → f_X4_read_a3_2 n x2 x3 u = some z → W p l e rmX4_read_a3 s m args below meth c H locs 0 0 (MQ below (QW G (mw G ad z) A none) args s 0 0 A) (F0 m 2 ls []) := by
  obtain ⟨⟨hx, hb, hml, hown, hts⟩, hr, hlocks⟩ := id F
  intro n
  induction n with
  | zero =>
    intro x2 x3 u H locs ls hw hl h
    rw [f_X4_read_a3_2] at h
    cases h
  | succ n ih =>
    intro x2 x3 u H locs ls hw hl h
    rw [f_X4_read_a3_2] at h
    refine lv_iload_n hx hb dX4_read_2 rfl (lv_at hl 3 rfl) ?_
    refine lv_iload_n hx hb dX4_read_3 rfl (lv_at hl 2 rfl) ?_
    refine lv_icmp_ge (tgt := 35) hx hb dX4_read_4 rfl (fun c1 => ?_) (fun c1 => ?_)
    · replace h := itT h c1
      cases h
      exact retW_v F hw dX4_read_35
    · replace h := itF h c1
      refine lv_aload_n hx hb dX4_read_7 rfl (lv_at hl 1 rfl) ?_
      refine lv_iload_n hx hb dX4_read_8 rfl (lv_at hl 3 rfl) ?_
      refine lv_aload_n hx hb dX4_read_9 rfl (lv_at hl 0 rfl) ?_
      refine m_g16 F hw dX4_read_10 ?_
      refine lv_aload_n hx hb dX4_read_13 rfl (lv_at hl 0 rfl) ?_
      refine m_g20 F hw dX4_read_14 ?_
      obtain ⟨g2, h⟩ := gd h
      refine m_l16 F hw g2 dX4_read_17 ?_
      obtain ⟨g3, h⟩ := gd h
      refine m_s3 F hw g3 dX4_read_18 (fun H locs hw => ?_)
      refine lv_aload_n hx hb dX4_read_19 rfl (lv_at hl 0 rfl) ?_
      refine lv_dup hx hb dX4_read_20 rfl ?_
      refine m_g20 F hw dX4_read_21 ?_
      refine lv_iconst (v := 1) hx hb dX4_read_24 rfl ?_
      refine lv_iadd hx hb dX4_read_25 ?_
      refine m_p20 F hw dX4_read_26 (fun H locs hw => ?_)
      refine lv_iinc (v := (x3 + 1)) (lv' := [(3, .int (x3 + 1)), (0, .ref (ad 0)), (1, .ref (ad 3)), (2, .int x2)]) hx hb dX4_read_29 hl (k := 3) rfl rfl (by decide) rfl (fun ls hl => ?_)
      refine lv_goto (tgt := 2) hx hb dX4_read_32 rfl ?_
      exact ih _ _ _ _ _ _ hw (lv_sub hl [1, 2, 3, 0] rfl) h
set_option maxHeartbeats 4000000 in
set_option maxRecDepth 100000 in
theorem w_X4_read_a3_0 (F : FX p m c cX4_read 4 s args yX4_read none RX4 meth) {z : MS} : ∀ (x2 : Int32) (u : MS) (H : Heap) (locs : List Loc) (ls : Array Slot), WD G A s (mw G ad u) H locs → lv_has ls 4 [(0, .ref (ad 0)), (1, .ref (ad 3)), (2, .int x2)] → f_X4_read_a3 x2 u = some z → W p l e rmX4_read_a3 s m args below meth c H locs 0 0 (MQ below (QW G (mw G ad z) A none) args s 0 0 A) (F0 m 0 ls []) := by
  obtain ⟨⟨hx, hb, hml, hown, hts⟩, hr, hlocks⟩ := id F
  intro x2 u H locs ls hw hl h
  unfold f_X4_read_a3 at h
  refine lv_iconst (v := 0) hx hb dX4_read_0 rfl ?_
  refine lv_istore_n (lv' := [(3, .int 0), (0, .ref (ad 0)), (1, .ref (ad 3)), (2, .int x2)]) hx hb dX4_read_1 rfl hl (by decide) rfl (fun ls hl => ?_)
  exact w_X4_read_a3_2 F NF _ _ _ _ _ _ hw (lv_sub hl [1, 2, 3, 0] rfl) h
end
theorem c_X4_read_a3 {l : Launch} {G : GX} {ad : Nat → Nat} {x2 : Int32} {u : MS} {z : MS} (h : f_X4_read_a3 x2 u = some z) : MW l yX4_read cX4_read 4 none rmX4_read_a3 G (mw G ad u) (mw G ad z) [.ref (ad 0), .ref (ad 3), .int x2] none := MW.of (by decide) (Nat.le_of_ble_eq_true rfl) (fun p e s m below meth c ls F hw hl => w_X4_read_a3_0 F _ _ _ _ _ hw hl h)
theorem yv_X4_read_a3 : YV RX4 78 yX4_read cX4_read 4 none 2 := ⟨(tw 598 (by decide +kernel) rfl), (tw 6 (by decide +kernel) rfl), (tw 595 (by decide +kernel) rfl), (tw 597 (by decide +kernel) rfl), (tp 12 (by decide +kernel) rfl), by decide +kernel⟩
theorem k_X4_read_a3 {p : Program} {l : Launch} {e : Env} {R : Room} {s : State} {m : MethodId} {args : Array Value} {below : List Frame} {meth : Method} {c : Code} {H : Heap} {locs : List Loc} {cells slots : Nat} {Q : State → Prop} {G : GX} {A : Nat → Prop} {ad : Nat → Nat} {cc : ByteArray} {nL pc : Nat} {y0 : MethodName} {ret0 : Option FieldType} {ls : Array Slot} {rest : List Value} {u : MS} {x2 : Int32} {z : MS} (F : FX p m c cc nL s args y0 ret0 RX4 meth) (hw : WD G A s (mw G ad u) H locs) (h : f_X4_read_a3 x2 u = some z) (hR : rmX4_read_a3.frames + 1 ≤ R.frames ∧ 8 + (4 + 11) + rmX4_read_a3.locals ≤ R.locals) (hcs : cells ≤ R.cells ∧ slots ≤ R.slots) (hsz : ls.size = nL) (hW : (rest.map fun v => v.category).sum ≤ 8) (hdg : decode cc pc = .ok (.invokevirtual 78, 3)) (kk : ∀ (H : Heap) (locs : List Loc), WD G A s (mw G ad z) H locs → W p l e R s m args below meth c H locs cells slots Q (F0 m (pc + 3) ls (rest))) : W p l e R s m args below meth c H locs cells slots Q (F0 m pc ls (.int x2 :: .ref (ad 3) :: .ref (ad 0) :: rest)) := callW (runV F yv_X4_read_a3 (c_X4_read_a3 h) hw.1 hw.2.1 hw.2.2.1 rfl rfl rfl ⟨rfl, rfl⟩ hR hcs rfl hsz rfl hW hdg) hw.2.2.2 hw.2.2.1.own_in (fun H1 l1 hP _ hS => kk H1 l1 ⟨hw.1, hP, hw.2.2.1.addr rfl, hS⟩)
def rmX4_read_a4 : Room := { frames := 0, cells := 0, slots := 0, locals := 0 }
noncomputable def f_X4_read_a4_2 : Nat → Int32 → Int32 → MS → Option (MS)
  | 0, _, _, _ => none
  | n + 1, x2, x3, u => (if x2 ≤ x3 then some u else (if ix (u.1 20) 98460 = true then (if ix x3 8 = true then f_X4_read_a4_2 n x2 (x3 + 1) (mF (mA u 4 (Int32.toNatClampNeg x3) (u.2.1 16 (Int32.toNatClampNeg (u.1 20)))) 20 (((mA u 4 (Int32.toNatClampNeg x3) (u.2.1 16 (Int32.toNatClampNeg (u.1 20)))).1 20) + 1)) else none) else none))
noncomputable def f_X4_read_a4 (x2 : Int32) (u : MS) : Option (MS) := f_X4_read_a4_2 NF x2 0 u
section
variable {p : Program} {l : Launch} {e : Env} {s : State} {m : MethodId} {args : Array Value} {below : List Frame} {meth : Method} {c : Code}
variable {G : GX} {A : Nat → Prop} {ad : Nat → Nat}
set_option maxHeartbeats 4000000 in
set_option maxRecDepth 100000 in
theorem w_X4_read_a4_2 (F : FX p m c cX4_read 4 s args yX4_read none RX4 meth) {z : MS} : ∀ (n : Nat) (x2 : Int32) (x3 : Int32) (u : MS) (H : Heap) (locs : List Loc) (ls : Array Slot), WD G A s (mw G ad u) H locs → lv_has ls 4 [(0, .ref (ad 0)), (1, .ref (ad 4)), (2, .int x2), (3, .int x3)] → f_X4_read_a4_2 n x2 x3 u = some z → W p l e rmX4_read_a4 s m args below meth c H locs 0 0 (MQ below (QW G (mw G ad z) A none) args s 0 0 A) (F0 m 2 ls []) := by
  obtain ⟨⟨hx, hb, hml, hown, hts⟩, hr, hlocks⟩ := id F
  intro n
  induction n with
  | zero =>
    intro x2 x3 u H locs ls hw hl h
    rw [f_X4_read_a4_2] at h
    cases h
  | succ n ih =>
    intro x2 x3 u H locs ls hw hl h
    rw [f_X4_read_a4_2] at h
    refine lv_iload_n hx hb dX4_read_2 rfl (lv_at hl 3 rfl) ?_
    refine lv_iload_n hx hb dX4_read_3 rfl (lv_at hl 2 rfl) ?_
    refine lv_icmp_ge (tgt := 35) hx hb dX4_read_4 rfl (fun c1 => ?_) (fun c1 => ?_)
    · replace h := itT h c1
      cases h
      exact retW_v F hw dX4_read_35
    · replace h := itF h c1
      refine lv_aload_n hx hb dX4_read_7 rfl (lv_at hl 1 rfl) ?_
      refine lv_iload_n hx hb dX4_read_8 rfl (lv_at hl 3 rfl) ?_
      refine lv_aload_n hx hb dX4_read_9 rfl (lv_at hl 0 rfl) ?_
      refine m_g16 F hw dX4_read_10 ?_
      refine lv_aload_n hx hb dX4_read_13 rfl (lv_at hl 0 rfl) ?_
      refine m_g20 F hw dX4_read_14 ?_
      obtain ⟨g2, h⟩ := gd h
      refine m_l16 F hw g2 dX4_read_17 ?_
      obtain ⟨g3, h⟩ := gd h
      refine m_s4 F hw g3 dX4_read_18 (fun H locs hw => ?_)
      refine lv_aload_n hx hb dX4_read_19 rfl (lv_at hl 0 rfl) ?_
      refine lv_dup hx hb dX4_read_20 rfl ?_
      refine m_g20 F hw dX4_read_21 ?_
      refine lv_iconst (v := 1) hx hb dX4_read_24 rfl ?_
      refine lv_iadd hx hb dX4_read_25 ?_
      refine m_p20 F hw dX4_read_26 (fun H locs hw => ?_)
      refine lv_iinc (v := (x3 + 1)) (lv' := [(3, .int (x3 + 1)), (0, .ref (ad 0)), (1, .ref (ad 4)), (2, .int x2)]) hx hb dX4_read_29 hl (k := 3) rfl rfl (by decide) rfl (fun ls hl => ?_)
      refine lv_goto (tgt := 2) hx hb dX4_read_32 rfl ?_
      exact ih _ _ _ _ _ _ hw (lv_sub hl [1, 2, 3, 0] rfl) h
set_option maxHeartbeats 4000000 in
set_option maxRecDepth 100000 in
theorem w_X4_read_a4_0 (F : FX p m c cX4_read 4 s args yX4_read none RX4 meth) {z : MS} : ∀ (x2 : Int32) (u : MS) (H : Heap) (locs : List Loc) (ls : Array Slot), WD G A s (mw G ad u) H locs → lv_has ls 4 [(0, .ref (ad 0)), (1, .ref (ad 4)), (2, .int x2)] → f_X4_read_a4 x2 u = some z → W p l e rmX4_read_a4 s m args below meth c H locs 0 0 (MQ below (QW G (mw G ad z) A none) args s 0 0 A) (F0 m 0 ls []) := by
  obtain ⟨⟨hx, hb, hml, hown, hts⟩, hr, hlocks⟩ := id F
  intro x2 u H locs ls hw hl h
  unfold f_X4_read_a4 at h
  refine lv_iconst (v := 0) hx hb dX4_read_0 rfl ?_
  refine lv_istore_n (lv' := [(3, .int 0), (0, .ref (ad 0)), (1, .ref (ad 4)), (2, .int x2)]) hx hb dX4_read_1 rfl hl (by decide) rfl (fun ls hl => ?_)
  exact w_X4_read_a4_2 F NF _ _ _ _ _ _ hw (lv_sub hl [1, 2, 3, 0] rfl) h
end
theorem c_X4_read_a4 {l : Launch} {G : GX} {ad : Nat → Nat} {x2 : Int32} {u : MS} {z : MS} (h : f_X4_read_a4 x2 u = some z) : MW l yX4_read cX4_read 4 none rmX4_read_a4 G (mw G ad u) (mw G ad z) [.ref (ad 0), .ref (ad 4), .int x2] none := MW.of (by decide) (Nat.le_of_ble_eq_true rfl) (fun p e s m below meth c ls F hw hl => w_X4_read_a4_0 F _ _ _ _ _ hw hl h)
theorem yv_X4_read_a4 : YV RX4 78 yX4_read cX4_read 4 none 2 := ⟨(tw 598 (by decide +kernel) rfl), (tw 6 (by decide +kernel) rfl), (tw 595 (by decide +kernel) rfl), (tw 597 (by decide +kernel) rfl), (tp 12 (by decide +kernel) rfl), by decide +kernel⟩
theorem k_X4_read_a4 {p : Program} {l : Launch} {e : Env} {R : Room} {s : State} {m : MethodId} {args : Array Value} {below : List Frame} {meth : Method} {c : Code} {H : Heap} {locs : List Loc} {cells slots : Nat} {Q : State → Prop} {G : GX} {A : Nat → Prop} {ad : Nat → Nat} {cc : ByteArray} {nL pc : Nat} {y0 : MethodName} {ret0 : Option FieldType} {ls : Array Slot} {rest : List Value} {u : MS} {x2 : Int32} {z : MS} (F : FX p m c cc nL s args y0 ret0 RX4 meth) (hw : WD G A s (mw G ad u) H locs) (h : f_X4_read_a4 x2 u = some z) (hR : rmX4_read_a4.frames + 1 ≤ R.frames ∧ 8 + (4 + 11) + rmX4_read_a4.locals ≤ R.locals) (hcs : cells ≤ R.cells ∧ slots ≤ R.slots) (hsz : ls.size = nL) (hW : (rest.map fun v => v.category).sum ≤ 8) (hdg : decode cc pc = .ok (.invokevirtual 78, 3)) (kk : ∀ (H : Heap) (locs : List Loc), WD G A s (mw G ad z) H locs → W p l e R s m args below meth c H locs cells slots Q (F0 m (pc + 3) ls (rest))) : W p l e R s m args below meth c H locs cells slots Q (F0 m pc ls (.int x2 :: .ref (ad 4) :: .ref (ad 0) :: rest)) := callW (runV F yv_X4_read_a4 (c_X4_read_a4 h) hw.1 hw.2.1 hw.2.2.1 rfl rfl rfl ⟨rfl, rfl⟩ hR hcs rfl hsz rfl hW hdg) hw.2.2.2 hw.2.2.1.own_in (fun H1 l1 hP _ hS => kk H1 l1 ⟨hw.1, hP, hw.2.2.1.addr rfl, hS⟩)
def rmX4_read_a5 : Room := { frames := 0, cells := 0, slots := 0, locals := 0 }
noncomputable def f_X4_read_a5_2 : Nat → Int32 → Int32 → MS → Option (MS)
  | 0, _, _, _ => none
  | n + 1, x2, x3, u => (if x2 ≤ x3 then some u else (if ix (u.1 20) 98460 = true then (if ix x3 8 = true then f_X4_read_a5_2 n x2 (x3 + 1) (mF (mA u 5 (Int32.toNatClampNeg x3) (u.2.1 16 (Int32.toNatClampNeg (u.1 20)))) 20 (((mA u 5 (Int32.toNatClampNeg x3) (u.2.1 16 (Int32.toNatClampNeg (u.1 20)))).1 20) + 1)) else none) else none))
noncomputable def f_X4_read_a5 (x2 : Int32) (u : MS) : Option (MS) := f_X4_read_a5_2 NF x2 0 u
section
variable {p : Program} {l : Launch} {e : Env} {s : State} {m : MethodId} {args : Array Value} {below : List Frame} {meth : Method} {c : Code}
variable {G : GX} {A : Nat → Prop} {ad : Nat → Nat}
set_option maxHeartbeats 4000000 in
set_option maxRecDepth 100000 in
theorem w_X4_read_a5_2 (F : FX p m c cX4_read 4 s args yX4_read none RX4 meth) {z : MS} : ∀ (n : Nat) (x2 : Int32) (x3 : Int32) (u : MS) (H : Heap) (locs : List Loc) (ls : Array Slot), WD G A s (mw G ad u) H locs → lv_has ls 4 [(0, .ref (ad 0)), (1, .ref (ad 5)), (2, .int x2), (3, .int x3)] → f_X4_read_a5_2 n x2 x3 u = some z → W p l e rmX4_read_a5 s m args below meth c H locs 0 0 (MQ below (QW G (mw G ad z) A none) args s 0 0 A) (F0 m 2 ls []) := by
  obtain ⟨⟨hx, hb, hml, hown, hts⟩, hr, hlocks⟩ := id F
  intro n
  induction n with
  | zero =>
    intro x2 x3 u H locs ls hw hl h
    rw [f_X4_read_a5_2] at h
    cases h
  | succ n ih =>
    intro x2 x3 u H locs ls hw hl h
    rw [f_X4_read_a5_2] at h
    refine lv_iload_n hx hb dX4_read_2 rfl (lv_at hl 3 rfl) ?_
    refine lv_iload_n hx hb dX4_read_3 rfl (lv_at hl 2 rfl) ?_
    refine lv_icmp_ge (tgt := 35) hx hb dX4_read_4 rfl (fun c1 => ?_) (fun c1 => ?_)
    · replace h := itT h c1
      cases h
      exact retW_v F hw dX4_read_35
    · replace h := itF h c1
      refine lv_aload_n hx hb dX4_read_7 rfl (lv_at hl 1 rfl) ?_
      refine lv_iload_n hx hb dX4_read_8 rfl (lv_at hl 3 rfl) ?_
      refine lv_aload_n hx hb dX4_read_9 rfl (lv_at hl 0 rfl) ?_
      refine m_g16 F hw dX4_read_10 ?_
      refine lv_aload_n hx hb dX4_read_13 rfl (lv_at hl 0 rfl) ?_
      refine m_g20 F hw dX4_read_14 ?_
      obtain ⟨g2, h⟩ := gd h
      refine m_l16 F hw g2 dX4_read_17 ?_
      obtain ⟨g3, h⟩ := gd h
      refine m_s5 F hw g3 dX4_read_18 (fun H locs hw => ?_)
      refine lv_aload_n hx hb dX4_read_19 rfl (lv_at hl 0 rfl) ?_
      refine lv_dup hx hb dX4_read_20 rfl ?_
      refine m_g20 F hw dX4_read_21 ?_
      refine lv_iconst (v := 1) hx hb dX4_read_24 rfl ?_
      refine lv_iadd hx hb dX4_read_25 ?_
      refine m_p20 F hw dX4_read_26 (fun H locs hw => ?_)
      refine lv_iinc (v := (x3 + 1)) (lv' := [(3, .int (x3 + 1)), (0, .ref (ad 0)), (1, .ref (ad 5)), (2, .int x2)]) hx hb dX4_read_29 hl (k := 3) rfl rfl (by decide) rfl (fun ls hl => ?_)
      refine lv_goto (tgt := 2) hx hb dX4_read_32 rfl ?_
      exact ih _ _ _ _ _ _ hw (lv_sub hl [1, 2, 3, 0] rfl) h
set_option maxHeartbeats 4000000 in
set_option maxRecDepth 100000 in
theorem w_X4_read_a5_0 (F : FX p m c cX4_read 4 s args yX4_read none RX4 meth) {z : MS} : ∀ (x2 : Int32) (u : MS) (H : Heap) (locs : List Loc) (ls : Array Slot), WD G A s (mw G ad u) H locs → lv_has ls 4 [(0, .ref (ad 0)), (1, .ref (ad 5)), (2, .int x2)] → f_X4_read_a5 x2 u = some z → W p l e rmX4_read_a5 s m args below meth c H locs 0 0 (MQ below (QW G (mw G ad z) A none) args s 0 0 A) (F0 m 0 ls []) := by
  obtain ⟨⟨hx, hb, hml, hown, hts⟩, hr, hlocks⟩ := id F
  intro x2 u H locs ls hw hl h
  unfold f_X4_read_a5 at h
  refine lv_iconst (v := 0) hx hb dX4_read_0 rfl ?_
  refine lv_istore_n (lv' := [(3, .int 0), (0, .ref (ad 0)), (1, .ref (ad 5)), (2, .int x2)]) hx hb dX4_read_1 rfl hl (by decide) rfl (fun ls hl => ?_)
  exact w_X4_read_a5_2 F NF _ _ _ _ _ _ hw (lv_sub hl [1, 2, 3, 0] rfl) h
end
theorem c_X4_read_a5 {l : Launch} {G : GX} {ad : Nat → Nat} {x2 : Int32} {u : MS} {z : MS} (h : f_X4_read_a5 x2 u = some z) : MW l yX4_read cX4_read 4 none rmX4_read_a5 G (mw G ad u) (mw G ad z) [.ref (ad 0), .ref (ad 5), .int x2] none := MW.of (by decide) (Nat.le_of_ble_eq_true rfl) (fun p e s m below meth c ls F hw hl => w_X4_read_a5_0 F _ _ _ _ _ hw hl h)
theorem yv_X4_read_a5 : YV RX4 78 yX4_read cX4_read 4 none 2 := ⟨(tw 598 (by decide +kernel) rfl), (tw 6 (by decide +kernel) rfl), (tw 595 (by decide +kernel) rfl), (tw 597 (by decide +kernel) rfl), (tp 12 (by decide +kernel) rfl), by decide +kernel⟩
theorem k_X4_read_a5 {p : Program} {l : Launch} {e : Env} {R : Room} {s : State} {m : MethodId} {args : Array Value} {below : List Frame} {meth : Method} {c : Code} {H : Heap} {locs : List Loc} {cells slots : Nat} {Q : State → Prop} {G : GX} {A : Nat → Prop} {ad : Nat → Nat} {cc : ByteArray} {nL pc : Nat} {y0 : MethodName} {ret0 : Option FieldType} {ls : Array Slot} {rest : List Value} {u : MS} {x2 : Int32} {z : MS} (F : FX p m c cc nL s args y0 ret0 RX4 meth) (hw : WD G A s (mw G ad u) H locs) (h : f_X4_read_a5 x2 u = some z) (hR : rmX4_read_a5.frames + 1 ≤ R.frames ∧ 8 + (4 + 11) + rmX4_read_a5.locals ≤ R.locals) (hcs : cells ≤ R.cells ∧ slots ≤ R.slots) (hsz : ls.size = nL) (hW : (rest.map fun v => v.category).sum ≤ 8) (hdg : decode cc pc = .ok (.invokevirtual 78, 3)) (kk : ∀ (H : Heap) (locs : List Loc), WD G A s (mw G ad z) H locs → W p l e R s m args below meth c H locs cells slots Q (F0 m (pc + 3) ls (rest))) : W p l e R s m args below meth c H locs cells slots Q (F0 m pc ls (.int x2 :: .ref (ad 5) :: .ref (ad 0) :: rest)) := callW (runV F yv_X4_read_a5 (c_X4_read_a5 h) hw.1 hw.2.1 hw.2.2.1 rfl rfl rfl ⟨rfl, rfl⟩ hR hcs rfl hsz rfl hW hdg) hw.2.2.2 hw.2.2.1.own_in (fun H1 l1 hP _ hS => kk H1 l1 ⟨hw.1, hP, hw.2.2.1.addr rfl, hS⟩)
def rmX4_read_a6 : Room := { frames := 0, cells := 0, slots := 0, locals := 0 }
noncomputable def f_X4_read_a6_2 : Nat → Int32 → Int32 → MS → Option (MS)
  | 0, _, _, _ => none
  | n + 1, x2, x3, u => (if x2 ≤ x3 then some u else (if ix (u.1 20) 98460 = true then (if ix x3 8 = true then f_X4_read_a6_2 n x2 (x3 + 1) (mF (mA u 6 (Int32.toNatClampNeg x3) (u.2.1 16 (Int32.toNatClampNeg (u.1 20)))) 20 (((mA u 6 (Int32.toNatClampNeg x3) (u.2.1 16 (Int32.toNatClampNeg (u.1 20)))).1 20) + 1)) else none) else none))
noncomputable def f_X4_read_a6 (x2 : Int32) (u : MS) : Option (MS) := f_X4_read_a6_2 NF x2 0 u
section
variable {p : Program} {l : Launch} {e : Env} {s : State} {m : MethodId} {args : Array Value} {below : List Frame} {meth : Method} {c : Code}
variable {G : GX} {A : Nat → Prop} {ad : Nat → Nat}
set_option maxHeartbeats 4000000 in
set_option maxRecDepth 100000 in
theorem w_X4_read_a6_2 (F : FX p m c cX4_read 4 s args yX4_read none RX4 meth) {z : MS} : ∀ (n : Nat) (x2 : Int32) (x3 : Int32) (u : MS) (H : Heap) (locs : List Loc) (ls : Array Slot), WD G A s (mw G ad u) H locs → lv_has ls 4 [(0, .ref (ad 0)), (1, .ref (ad 6)), (2, .int x2), (3, .int x3)] → f_X4_read_a6_2 n x2 x3 u = some z → W p l e rmX4_read_a6 s m args below meth c H locs 0 0 (MQ below (QW G (mw G ad z) A none) args s 0 0 A) (F0 m 2 ls []) := by
  obtain ⟨⟨hx, hb, hml, hown, hts⟩, hr, hlocks⟩ := id F
  intro n
  induction n with
  | zero =>
    intro x2 x3 u H locs ls hw hl h
    rw [f_X4_read_a6_2] at h
    cases h
  | succ n ih =>
    intro x2 x3 u H locs ls hw hl h
    rw [f_X4_read_a6_2] at h
    refine lv_iload_n hx hb dX4_read_2 rfl (lv_at hl 3 rfl) ?_
    refine lv_iload_n hx hb dX4_read_3 rfl (lv_at hl 2 rfl) ?_
    refine lv_icmp_ge (tgt := 35) hx hb dX4_read_4 rfl (fun c1 => ?_) (fun c1 => ?_)
    · replace h := itT h c1
      cases h
      exact retW_v F hw dX4_read_35
    · replace h := itF h c1
      refine lv_aload_n hx hb dX4_read_7 rfl (lv_at hl 1 rfl) ?_
      refine lv_iload_n hx hb dX4_read_8 rfl (lv_at hl 3 rfl) ?_
      refine lv_aload_n hx hb dX4_read_9 rfl (lv_at hl 0 rfl) ?_
      refine m_g16 F hw dX4_read_10 ?_
      refine lv_aload_n hx hb dX4_read_13 rfl (lv_at hl 0 rfl) ?_
      refine m_g20 F hw dX4_read_14 ?_
      obtain ⟨g2, h⟩ := gd h
      refine m_l16 F hw g2 dX4_read_17 ?_
      obtain ⟨g3, h⟩ := gd h
      refine m_s6 F hw g3 dX4_read_18 (fun H locs hw => ?_)
      refine lv_aload_n hx hb dX4_read_19 rfl (lv_at hl 0 rfl) ?_
      refine lv_dup hx hb dX4_read_20 rfl ?_
      refine m_g20 F hw dX4_read_21 ?_
      refine lv_iconst (v := 1) hx hb dX4_read_24 rfl ?_
      refine lv_iadd hx hb dX4_read_25 ?_
      refine m_p20 F hw dX4_read_26 (fun H locs hw => ?_)
      refine lv_iinc (v := (x3 + 1)) (lv' := [(3, .int (x3 + 1)), (0, .ref (ad 0)), (1, .ref (ad 6)), (2, .int x2)]) hx hb dX4_read_29 hl (k := 3) rfl rfl (by decide) rfl (fun ls hl => ?_)
      refine lv_goto (tgt := 2) hx hb dX4_read_32 rfl ?_
      exact ih _ _ _ _ _ _ hw (lv_sub hl [1, 2, 3, 0] rfl) h
set_option maxHeartbeats 4000000 in
set_option maxRecDepth 100000 in
theorem w_X4_read_a6_0 (F : FX p m c cX4_read 4 s args yX4_read none RX4 meth) {z : MS} : ∀ (x2 : Int32) (u : MS) (H : Heap) (locs : List Loc) (ls : Array Slot), WD G A s (mw G ad u) H locs → lv_has ls 4 [(0, .ref (ad 0)), (1, .ref (ad 6)), (2, .int x2)] → f_X4_read_a6 x2 u = some z → W p l e rmX4_read_a6 s m args below meth c H locs 0 0 (MQ below (QW G (mw G ad z) A none) args s 0 0 A) (F0 m 0 ls []) := by
  obtain ⟨⟨hx, hb, hml, hown, hts⟩, hr, hlocks⟩ := id F
  intro x2 u H locs ls hw hl h
  unfold f_X4_read_a6 at h
  refine lv_iconst (v := 0) hx hb dX4_read_0 rfl ?_
  refine lv_istore_n (lv' := [(3, .int 0), (0, .ref (ad 0)), (1, .ref (ad 6)), (2, .int x2)]) hx hb dX4_read_1 rfl hl (by decide) rfl (fun ls hl => ?_)
  exact w_X4_read_a6_2 F NF _ _ _ _ _ _ hw (lv_sub hl [1, 2, 3, 0] rfl) h
end
theorem c_X4_read_a6 {l : Launch} {G : GX} {ad : Nat → Nat} {x2 : Int32} {u : MS} {z : MS} (h : f_X4_read_a6 x2 u = some z) : MW l yX4_read cX4_read 4 none rmX4_read_a6 G (mw G ad u) (mw G ad z) [.ref (ad 0), .ref (ad 6), .int x2] none := MW.of (by decide) (Nat.le_of_ble_eq_true rfl) (fun p e s m below meth c ls F hw hl => w_X4_read_a6_0 F _ _ _ _ _ hw hl h)
theorem yv_X4_read_a6 : YV RX4 78 yX4_read cX4_read 4 none 2 := ⟨(tw 598 (by decide +kernel) rfl), (tw 6 (by decide +kernel) rfl), (tw 595 (by decide +kernel) rfl), (tw 597 (by decide +kernel) rfl), (tp 12 (by decide +kernel) rfl), by decide +kernel⟩
theorem k_X4_read_a6 {p : Program} {l : Launch} {e : Env} {R : Room} {s : State} {m : MethodId} {args : Array Value} {below : List Frame} {meth : Method} {c : Code} {H : Heap} {locs : List Loc} {cells slots : Nat} {Q : State → Prop} {G : GX} {A : Nat → Prop} {ad : Nat → Nat} {cc : ByteArray} {nL pc : Nat} {y0 : MethodName} {ret0 : Option FieldType} {ls : Array Slot} {rest : List Value} {u : MS} {x2 : Int32} {z : MS} (F : FX p m c cc nL s args y0 ret0 RX4 meth) (hw : WD G A s (mw G ad u) H locs) (h : f_X4_read_a6 x2 u = some z) (hR : rmX4_read_a6.frames + 1 ≤ R.frames ∧ 8 + (4 + 11) + rmX4_read_a6.locals ≤ R.locals) (hcs : cells ≤ R.cells ∧ slots ≤ R.slots) (hsz : ls.size = nL) (hW : (rest.map fun v => v.category).sum ≤ 8) (hdg : decode cc pc = .ok (.invokevirtual 78, 3)) (kk : ∀ (H : Heap) (locs : List Loc), WD G A s (mw G ad z) H locs → W p l e R s m args below meth c H locs cells slots Q (F0 m (pc + 3) ls (rest))) : W p l e R s m args below meth c H locs cells slots Q (F0 m pc ls (.int x2 :: .ref (ad 6) :: .ref (ad 0) :: rest)) := callW (runV F yv_X4_read_a6 (c_X4_read_a6 h) hw.1 hw.2.1 hw.2.2.1 rfl rfl rfl ⟨rfl, rfl⟩ hR hcs rfl hsz rfl hW hdg) hw.2.2.2 hw.2.2.1.own_in (fun H1 l1 hP _ hS => kk H1 l1 ⟨hw.1, hP, hw.2.2.1.addr rfl, hS⟩)
def rmX4_read_a7 : Room := { frames := 0, cells := 0, slots := 0, locals := 0 }
noncomputable def f_X4_read_a7_2 : Nat → Int32 → Int32 → MS → Option (MS)
  | 0, _, _, _ => none
  | n + 1, x2, x3, u => (if x2 ≤ x3 then some u else (if ix (u.1 20) 98460 = true then (if ix x3 4800 = true then f_X4_read_a7_2 n x2 (x3 + 1) (mF (mA u 7 (Int32.toNatClampNeg x3) (u.2.1 16 (Int32.toNatClampNeg (u.1 20)))) 20 (((mA u 7 (Int32.toNatClampNeg x3) (u.2.1 16 (Int32.toNatClampNeg (u.1 20)))).1 20) + 1)) else none) else none))
noncomputable def f_X4_read_a7 (x2 : Int32) (u : MS) : Option (MS) := f_X4_read_a7_2 NF x2 0 u
section
variable {p : Program} {l : Launch} {e : Env} {s : State} {m : MethodId} {args : Array Value} {below : List Frame} {meth : Method} {c : Code}
variable {G : GX} {A : Nat → Prop} {ad : Nat → Nat}
set_option maxHeartbeats 4000000 in
set_option maxRecDepth 100000 in
theorem w_X4_read_a7_2 (F : FX p m c cX4_read 4 s args yX4_read none RX4 meth) {z : MS} : ∀ (n : Nat) (x2 : Int32) (x3 : Int32) (u : MS) (H : Heap) (locs : List Loc) (ls : Array Slot), WD G A s (mw G ad u) H locs → lv_has ls 4 [(0, .ref (ad 0)), (1, .ref (ad 7)), (2, .int x2), (3, .int x3)] → f_X4_read_a7_2 n x2 x3 u = some z → W p l e rmX4_read_a7 s m args below meth c H locs 0 0 (MQ below (QW G (mw G ad z) A none) args s 0 0 A) (F0 m 2 ls []) := by
  obtain ⟨⟨hx, hb, hml, hown, hts⟩, hr, hlocks⟩ := id F
  intro n
  induction n with
  | zero =>
    intro x2 x3 u H locs ls hw hl h
    rw [f_X4_read_a7_2] at h
    cases h
  | succ n ih =>
    intro x2 x3 u H locs ls hw hl h
    rw [f_X4_read_a7_2] at h
    refine lv_iload_n hx hb dX4_read_2 rfl (lv_at hl 3 rfl) ?_
    refine lv_iload_n hx hb dX4_read_3 rfl (lv_at hl 2 rfl) ?_
    refine lv_icmp_ge (tgt := 35) hx hb dX4_read_4 rfl (fun c1 => ?_) (fun c1 => ?_)
    · replace h := itT h c1
      cases h
      exact retW_v F hw dX4_read_35
    · replace h := itF h c1
      refine lv_aload_n hx hb dX4_read_7 rfl (lv_at hl 1 rfl) ?_
      refine lv_iload_n hx hb dX4_read_8 rfl (lv_at hl 3 rfl) ?_
      refine lv_aload_n hx hb dX4_read_9 rfl (lv_at hl 0 rfl) ?_
      refine m_g16 F hw dX4_read_10 ?_
      refine lv_aload_n hx hb dX4_read_13 rfl (lv_at hl 0 rfl) ?_
      refine m_g20 F hw dX4_read_14 ?_
      obtain ⟨g2, h⟩ := gd h
      refine m_l16 F hw g2 dX4_read_17 ?_
      obtain ⟨g3, h⟩ := gd h
      refine m_s7 F hw g3 dX4_read_18 (fun H locs hw => ?_)
      refine lv_aload_n hx hb dX4_read_19 rfl (lv_at hl 0 rfl) ?_
      refine lv_dup hx hb dX4_read_20 rfl ?_
      refine m_g20 F hw dX4_read_21 ?_
      refine lv_iconst (v := 1) hx hb dX4_read_24 rfl ?_
      refine lv_iadd hx hb dX4_read_25 ?_
      refine m_p20 F hw dX4_read_26 (fun H locs hw => ?_)
      refine lv_iinc (v := (x3 + 1)) (lv' := [(3, .int (x3 + 1)), (0, .ref (ad 0)), (1, .ref (ad 7)), (2, .int x2)]) hx hb dX4_read_29 hl (k := 3) rfl rfl (by decide) rfl (fun ls hl => ?_)
      refine lv_goto (tgt := 2) hx hb dX4_read_32 rfl ?_
      exact ih _ _ _ _ _ _ hw (lv_sub hl [1, 2, 3, 0] rfl) h
set_option maxHeartbeats 4000000 in
set_option maxRecDepth 100000 in
theorem w_X4_read_a7_0 (F : FX p m c cX4_read 4 s args yX4_read none RX4 meth) {z : MS} : ∀ (x2 : Int32) (u : MS) (H : Heap) (locs : List Loc) (ls : Array Slot), WD G A s (mw G ad u) H locs → lv_has ls 4 [(0, .ref (ad 0)), (1, .ref (ad 7)), (2, .int x2)] → f_X4_read_a7 x2 u = some z → W p l e rmX4_read_a7 s m args below meth c H locs 0 0 (MQ below (QW G (mw G ad z) A none) args s 0 0 A) (F0 m 0 ls []) := by
  obtain ⟨⟨hx, hb, hml, hown, hts⟩, hr, hlocks⟩ := id F
  intro x2 u H locs ls hw hl h
  unfold f_X4_read_a7 at h
  refine lv_iconst (v := 0) hx hb dX4_read_0 rfl ?_
  refine lv_istore_n (lv' := [(3, .int 0), (0, .ref (ad 0)), (1, .ref (ad 7)), (2, .int x2)]) hx hb dX4_read_1 rfl hl (by decide) rfl (fun ls hl => ?_)
  exact w_X4_read_a7_2 F NF _ _ _ _ _ _ hw (lv_sub hl [1, 2, 3, 0] rfl) h
end
theorem c_X4_read_a7 {l : Launch} {G : GX} {ad : Nat → Nat} {x2 : Int32} {u : MS} {z : MS} (h : f_X4_read_a7 x2 u = some z) : MW l yX4_read cX4_read 4 none rmX4_read_a7 G (mw G ad u) (mw G ad z) [.ref (ad 0), .ref (ad 7), .int x2] none := MW.of (by decide) (Nat.le_of_ble_eq_true rfl) (fun p e s m below meth c ls F hw hl => w_X4_read_a7_0 F _ _ _ _ _ hw hl h)
theorem yv_X4_read_a7 : YV RX4 78 yX4_read cX4_read 4 none 2 := ⟨(tw 598 (by decide +kernel) rfl), (tw 6 (by decide +kernel) rfl), (tw 595 (by decide +kernel) rfl), (tw 597 (by decide +kernel) rfl), (tp 12 (by decide +kernel) rfl), by decide +kernel⟩
theorem k_X4_read_a7 {p : Program} {l : Launch} {e : Env} {R : Room} {s : State} {m : MethodId} {args : Array Value} {below : List Frame} {meth : Method} {c : Code} {H : Heap} {locs : List Loc} {cells slots : Nat} {Q : State → Prop} {G : GX} {A : Nat → Prop} {ad : Nat → Nat} {cc : ByteArray} {nL pc : Nat} {y0 : MethodName} {ret0 : Option FieldType} {ls : Array Slot} {rest : List Value} {u : MS} {x2 : Int32} {z : MS} (F : FX p m c cc nL s args y0 ret0 RX4 meth) (hw : WD G A s (mw G ad u) H locs) (h : f_X4_read_a7 x2 u = some z) (hR : rmX4_read_a7.frames + 1 ≤ R.frames ∧ 8 + (4 + 11) + rmX4_read_a7.locals ≤ R.locals) (hcs : cells ≤ R.cells ∧ slots ≤ R.slots) (hsz : ls.size = nL) (hW : (rest.map fun v => v.category).sum ≤ 8) (hdg : decode cc pc = .ok (.invokevirtual 78, 3)) (kk : ∀ (H : Heap) (locs : List Loc), WD G A s (mw G ad z) H locs → W p l e R s m args below meth c H locs cells slots Q (F0 m (pc + 3) ls (rest))) : W p l e R s m args below meth c H locs cells slots Q (F0 m pc ls (.int x2 :: .ref (ad 7) :: .ref (ad 0) :: rest)) := callW (runV F yv_X4_read_a7 (c_X4_read_a7 h) hw.1 hw.2.1 hw.2.2.1 rfl rfl rfl ⟨rfl, rfl⟩ hR hcs rfl hsz rfl hW hdg) hw.2.2.2 hw.2.2.1.own_in (fun H1 l1 hP _ hS => kk H1 l1 ⟨hw.1, hP, hw.2.2.1.addr rfl, hS⟩)
def rmX4_read_a8 : Room := { frames := 0, cells := 0, slots := 0, locals := 0 }
noncomputable def f_X4_read_a8_2 : Nat → Int32 → Int32 → MS → Option (MS)
  | 0, _, _, _ => none
  | n + 1, x2, x3, u => (if x2 ≤ x3 then some u else (if ix (u.1 20) 98460 = true then (if ix x3 4800 = true then f_X4_read_a8_2 n x2 (x3 + 1) (mF (mA u 8 (Int32.toNatClampNeg x3) (u.2.1 16 (Int32.toNatClampNeg (u.1 20)))) 20 (((mA u 8 (Int32.toNatClampNeg x3) (u.2.1 16 (Int32.toNatClampNeg (u.1 20)))).1 20) + 1)) else none) else none))
noncomputable def f_X4_read_a8 (x2 : Int32) (u : MS) : Option (MS) := f_X4_read_a8_2 NF x2 0 u
section
variable {p : Program} {l : Launch} {e : Env} {s : State} {m : MethodId} {args : Array Value} {below : List Frame} {meth : Method} {c : Code}
variable {G : GX} {A : Nat → Prop} {ad : Nat → Nat}
set_option maxHeartbeats 4000000 in
set_option maxRecDepth 100000 in
theorem w_X4_read_a8_2 (F : FX p m c cX4_read 4 s args yX4_read none RX4 meth) {z : MS} : ∀ (n : Nat) (x2 : Int32) (x3 : Int32) (u : MS) (H : Heap) (locs : List Loc) (ls : Array Slot), WD G A s (mw G ad u) H locs → lv_has ls 4 [(0, .ref (ad 0)), (1, .ref (ad 8)), (2, .int x2), (3, .int x3)] → f_X4_read_a8_2 n x2 x3 u = some z → W p l e rmX4_read_a8 s m args below meth c H locs 0 0 (MQ below (QW G (mw G ad z) A none) args s 0 0 A) (F0 m 2 ls []) := by
  obtain ⟨⟨hx, hb, hml, hown, hts⟩, hr, hlocks⟩ := id F
  intro n
  induction n with
  | zero =>
    intro x2 x3 u H locs ls hw hl h
    rw [f_X4_read_a8_2] at h
    cases h
  | succ n ih =>
    intro x2 x3 u H locs ls hw hl h
    rw [f_X4_read_a8_2] at h
    refine lv_iload_n hx hb dX4_read_2 rfl (lv_at hl 3 rfl) ?_
    refine lv_iload_n hx hb dX4_read_3 rfl (lv_at hl 2 rfl) ?_
    refine lv_icmp_ge (tgt := 35) hx hb dX4_read_4 rfl (fun c1 => ?_) (fun c1 => ?_)
    · replace h := itT h c1
      cases h
      exact retW_v F hw dX4_read_35
    · replace h := itF h c1
      refine lv_aload_n hx hb dX4_read_7 rfl (lv_at hl 1 rfl) ?_
      refine lv_iload_n hx hb dX4_read_8 rfl (lv_at hl 3 rfl) ?_
      refine lv_aload_n hx hb dX4_read_9 rfl (lv_at hl 0 rfl) ?_
      refine m_g16 F hw dX4_read_10 ?_
      refine lv_aload_n hx hb dX4_read_13 rfl (lv_at hl 0 rfl) ?_
      refine m_g20 F hw dX4_read_14 ?_
      obtain ⟨g2, h⟩ := gd h
      refine m_l16 F hw g2 dX4_read_17 ?_
      obtain ⟨g3, h⟩ := gd h
      refine m_s8 F hw g3 dX4_read_18 (fun H locs hw => ?_)
      refine lv_aload_n hx hb dX4_read_19 rfl (lv_at hl 0 rfl) ?_
      refine lv_dup hx hb dX4_read_20 rfl ?_
      refine m_g20 F hw dX4_read_21 ?_
      refine lv_iconst (v := 1) hx hb dX4_read_24 rfl ?_
      refine lv_iadd hx hb dX4_read_25 ?_
      refine m_p20 F hw dX4_read_26 (fun H locs hw => ?_)
      refine lv_iinc (v := (x3 + 1)) (lv' := [(3, .int (x3 + 1)), (0, .ref (ad 0)), (1, .ref (ad 8)), (2, .int x2)]) hx hb dX4_read_29 hl (k := 3) rfl rfl (by decide) rfl (fun ls hl => ?_)
      refine lv_goto (tgt := 2) hx hb dX4_read_32 rfl ?_
      exact ih _ _ _ _ _ _ hw (lv_sub hl [1, 2, 3, 0] rfl) h
set_option maxHeartbeats 4000000 in
set_option maxRecDepth 100000 in
theorem w_X4_read_a8_0 (F : FX p m c cX4_read 4 s args yX4_read none RX4 meth) {z : MS} : ∀ (x2 : Int32) (u : MS) (H : Heap) (locs : List Loc) (ls : Array Slot), WD G A s (mw G ad u) H locs → lv_has ls 4 [(0, .ref (ad 0)), (1, .ref (ad 8)), (2, .int x2)] → f_X4_read_a8 x2 u = some z → W p l e rmX4_read_a8 s m args below meth c H locs 0 0 (MQ below (QW G (mw G ad z) A none) args s 0 0 A) (F0 m 0 ls []) := by
  obtain ⟨⟨hx, hb, hml, hown, hts⟩, hr, hlocks⟩ := id F
  intro x2 u H locs ls hw hl h
  unfold f_X4_read_a8 at h
  refine lv_iconst (v := 0) hx hb dX4_read_0 rfl ?_
  refine lv_istore_n (lv' := [(3, .int 0), (0, .ref (ad 0)), (1, .ref (ad 8)), (2, .int x2)]) hx hb dX4_read_1 rfl hl (by decide) rfl (fun ls hl => ?_)
  exact w_X4_read_a8_2 F NF _ _ _ _ _ _ hw (lv_sub hl [1, 2, 3, 0] rfl) h
end
theorem c_X4_read_a8 {l : Launch} {G : GX} {ad : Nat → Nat} {x2 : Int32} {u : MS} {z : MS} (h : f_X4_read_a8 x2 u = some z) : MW l yX4_read cX4_read 4 none rmX4_read_a8 G (mw G ad u) (mw G ad z) [.ref (ad 0), .ref (ad 8), .int x2] none := MW.of (by decide) (Nat.le_of_ble_eq_true rfl) (fun p e s m below meth c ls F hw hl => w_X4_read_a8_0 F _ _ _ _ _ hw hl h)
theorem yv_X4_read_a8 : YV RX4 78 yX4_read cX4_read 4 none 2 := ⟨(tw 598 (by decide +kernel) rfl), (tw 6 (by decide +kernel) rfl), (tw 595 (by decide +kernel) rfl), (tw 597 (by decide +kernel) rfl), (tp 12 (by decide +kernel) rfl), by decide +kernel⟩
theorem k_X4_read_a8 {p : Program} {l : Launch} {e : Env} {R : Room} {s : State} {m : MethodId} {args : Array Value} {below : List Frame} {meth : Method} {c : Code} {H : Heap} {locs : List Loc} {cells slots : Nat} {Q : State → Prop} {G : GX} {A : Nat → Prop} {ad : Nat → Nat} {cc : ByteArray} {nL pc : Nat} {y0 : MethodName} {ret0 : Option FieldType} {ls : Array Slot} {rest : List Value} {u : MS} {x2 : Int32} {z : MS} (F : FX p m c cc nL s args y0 ret0 RX4 meth) (hw : WD G A s (mw G ad u) H locs) (h : f_X4_read_a8 x2 u = some z) (hR : rmX4_read_a8.frames + 1 ≤ R.frames ∧ 8 + (4 + 11) + rmX4_read_a8.locals ≤ R.locals) (hcs : cells ≤ R.cells ∧ slots ≤ R.slots) (hsz : ls.size = nL) (hW : (rest.map fun v => v.category).sum ≤ 8) (hdg : decode cc pc = .ok (.invokevirtual 78, 3)) (kk : ∀ (H : Heap) (locs : List Loc), WD G A s (mw G ad z) H locs → W p l e R s m args below meth c H locs cells slots Q (F0 m (pc + 3) ls (rest))) : W p l e R s m args below meth c H locs cells slots Q (F0 m pc ls (.int x2 :: .ref (ad 8) :: .ref (ad 0) :: rest)) := callW (runV F yv_X4_read_a8 (c_X4_read_a8 h) hw.1 hw.2.1 hw.2.2.1 rfl rfl rfl ⟨rfl, rfl⟩ hR hcs rfl hsz rfl hW hdg) hw.2.2.2 hw.2.2.1.own_in (fun H1 l1 hP _ hS => kk H1 l1 ⟨hw.1, hP, hw.2.2.1.addr rfl, hS⟩)
def rmX4_read_a11 : Room := { frames := 0, cells := 0, slots := 0, locals := 0 }
noncomputable def f_X4_read_a11_2 : Nat → Int32 → Int32 → MS → Option (MS)
  | 0, _, _, _ => none
  | n + 1, x2, x3, u => (if x2 ≤ x3 then some u else (if ix (u.1 20) 98460 = true then (if ix x3 600 = true then f_X4_read_a11_2 n x2 (x3 + 1) (mF (mA u 11 (Int32.toNatClampNeg x3) (u.2.1 16 (Int32.toNatClampNeg (u.1 20)))) 20 (((mA u 11 (Int32.toNatClampNeg x3) (u.2.1 16 (Int32.toNatClampNeg (u.1 20)))).1 20) + 1)) else none) else none))
noncomputable def f_X4_read_a11 (x2 : Int32) (u : MS) : Option (MS) := f_X4_read_a11_2 NF x2 0 u
section
variable {p : Program} {l : Launch} {e : Env} {s : State} {m : MethodId} {args : Array Value} {below : List Frame} {meth : Method} {c : Code}
variable {G : GX} {A : Nat → Prop} {ad : Nat → Nat}
set_option maxHeartbeats 4000000 in
set_option maxRecDepth 100000 in
theorem w_X4_read_a11_2 (F : FX p m c cX4_read 4 s args yX4_read none RX4 meth) {z : MS} : ∀ (n : Nat) (x2 : Int32) (x3 : Int32) (u : MS) (H : Heap) (locs : List Loc) (ls : Array Slot), WD G A s (mw G ad u) H locs → lv_has ls 4 [(0, .ref (ad 0)), (1, .ref (ad 11)), (2, .int x2), (3, .int x3)] → f_X4_read_a11_2 n x2 x3 u = some z → W p l e rmX4_read_a11 s m args below meth c H locs 0 0 (MQ below (QW G (mw G ad z) A none) args s 0 0 A) (F0 m 2 ls []) := by
  obtain ⟨⟨hx, hb, hml, hown, hts⟩, hr, hlocks⟩ := id F
  intro n
  induction n with
  | zero =>
    intro x2 x3 u H locs ls hw hl h
    rw [f_X4_read_a11_2] at h
    cases h
  | succ n ih =>
    intro x2 x3 u H locs ls hw hl h
    rw [f_X4_read_a11_2] at h
    refine lv_iload_n hx hb dX4_read_2 rfl (lv_at hl 3 rfl) ?_
    refine lv_iload_n hx hb dX4_read_3 rfl (lv_at hl 2 rfl) ?_
    refine lv_icmp_ge (tgt := 35) hx hb dX4_read_4 rfl (fun c1 => ?_) (fun c1 => ?_)
    · replace h := itT h c1
      cases h
      exact retW_v F hw dX4_read_35
    · replace h := itF h c1
      refine lv_aload_n hx hb dX4_read_7 rfl (lv_at hl 1 rfl) ?_
      refine lv_iload_n hx hb dX4_read_8 rfl (lv_at hl 3 rfl) ?_
      refine lv_aload_n hx hb dX4_read_9 rfl (lv_at hl 0 rfl) ?_
      refine m_g16 F hw dX4_read_10 ?_
      refine lv_aload_n hx hb dX4_read_13 rfl (lv_at hl 0 rfl) ?_
      refine m_g20 F hw dX4_read_14 ?_
      obtain ⟨g2, h⟩ := gd h
      refine m_l16 F hw g2 dX4_read_17 ?_
      obtain ⟨g3, h⟩ := gd h
      refine m_s11 F hw g3 dX4_read_18 (fun H locs hw => ?_)
      refine lv_aload_n hx hb dX4_read_19 rfl (lv_at hl 0 rfl) ?_
      refine lv_dup hx hb dX4_read_20 rfl ?_
      refine m_g20 F hw dX4_read_21 ?_
      refine lv_iconst (v := 1) hx hb dX4_read_24 rfl ?_
      refine lv_iadd hx hb dX4_read_25 ?_
      refine m_p20 F hw dX4_read_26 (fun H locs hw => ?_)
      refine lv_iinc (v := (x3 + 1)) (lv' := [(3, .int (x3 + 1)), (0, .ref (ad 0)), (1, .ref (ad 11)), (2, .int x2)]) hx hb dX4_read_29 hl (k := 3) rfl rfl (by decide) rfl (fun ls hl => ?_)
      refine lv_goto (tgt := 2) hx hb dX4_read_32 rfl ?_
      exact ih _ _ _ _ _ _ hw (lv_sub hl [1, 2, 3, 0] rfl) h
set_option maxHeartbeats 4000000 in
set_option maxRecDepth 100000 in
theorem w_X4_read_a11_0 (F : FX p m c cX4_read 4 s args yX4_read none RX4 meth) {z : MS} : ∀ (x2 : Int32) (u : MS) (H : Heap) (locs : List Loc) (ls : Array Slot), WD G A s (mw G ad u) H locs → lv_has ls 4 [(0, .ref (ad 0)), (1, .ref (ad 11)), (2, .int x2)] → f_X4_read_a11 x2 u = some z → W p l e rmX4_read_a11 s m args below meth c H locs 0 0 (MQ below (QW G (mw G ad z) A none) args s 0 0 A) (F0 m 0 ls []) := by
  obtain ⟨⟨hx, hb, hml, hown, hts⟩, hr, hlocks⟩ := id F
  intro x2 u H locs ls hw hl h
  unfold f_X4_read_a11 at h
  refine lv_iconst (v := 0) hx hb dX4_read_0 rfl ?_
  refine lv_istore_n (lv' := [(3, .int 0), (0, .ref (ad 0)), (1, .ref (ad 11)), (2, .int x2)]) hx hb dX4_read_1 rfl hl (by decide) rfl (fun ls hl => ?_)
  exact w_X4_read_a11_2 F NF _ _ _ _ _ _ hw (lv_sub hl [1, 2, 3, 0] rfl) h
end
theorem c_X4_read_a11 {l : Launch} {G : GX} {ad : Nat → Nat} {x2 : Int32} {u : MS} {z : MS} (h : f_X4_read_a11 x2 u = some z) : MW l yX4_read cX4_read 4 none rmX4_read_a11 G (mw G ad u) (mw G ad z) [.ref (ad 0), .ref (ad 11), .int x2] none := MW.of (by decide) (Nat.le_of_ble_eq_true rfl) (fun p e s m below meth c ls F hw hl => w_X4_read_a11_0 F _ _ _ _ _ hw hl h)
theorem yv_X4_read_a11 : YV RX4 78 yX4_read cX4_read 4 none 2 := ⟨(tw 598 (by decide +kernel) rfl), (tw 6 (by decide +kernel) rfl), (tw 595 (by decide +kernel) rfl), (tw 597 (by decide +kernel) rfl), (tp 12 (by decide +kernel) rfl), by decide +kernel⟩
theorem k_X4_read_a11 {p : Program} {l : Launch} {e : Env} {R : Room} {s : State} {m : MethodId} {args : Array Value} {below : List Frame} {meth : Method} {c : Code} {H : Heap} {locs : List Loc} {cells slots : Nat} {Q : State → Prop} {G : GX} {A : Nat → Prop} {ad : Nat → Nat} {cc : ByteArray} {nL pc : Nat} {y0 : MethodName} {ret0 : Option FieldType} {ls : Array Slot} {rest : List Value} {u : MS} {x2 : Int32} {z : MS} (F : FX p m c cc nL s args y0 ret0 RX4 meth) (hw : WD G A s (mw G ad u) H locs) (h : f_X4_read_a11 x2 u = some z) (hR : rmX4_read_a11.frames + 1 ≤ R.frames ∧ 8 + (4 + 11) + rmX4_read_a11.locals ≤ R.locals) (hcs : cells ≤ R.cells ∧ slots ≤ R.slots) (hsz : ls.size = nL) (hW : (rest.map fun v => v.category).sum ≤ 8) (hdg : decode cc pc = .ok (.invokevirtual 78, 3)) (kk : ∀ (H : Heap) (locs : List Loc), WD G A s (mw G ad z) H locs → W p l e R s m args below meth c H locs cells slots Q (F0 m (pc + 3) ls (rest))) : W p l e R s m args below meth c H locs cells slots Q (F0 m pc ls (.int x2 :: .ref (ad 11) :: .ref (ad 0) :: rest)) := callW (runV F yv_X4_read_a11 (c_X4_read_a11 h) hw.1 hw.2.1 hw.2.2.1 rfl rfl rfl ⟨rfl, rfl⟩ hR hcs rfl hsz rfl hW hdg) hw.2.2.2 hw.2.2.1.own_in (fun H1 l1 hP _ hS => kk H1 l1 ⟨hw.1, hP, hw.2.2.1.addr rfl, hS⟩)
def rmX4_read_a12 : Room := { frames := 0, cells := 0, slots := 0, locals := 0 }
noncomputable def f_X4_read_a12_2 : Nat → Int32 → Int32 → MS → Option (MS)
  | 0, _, _, _ => none
  | n + 1, x2, x3, u => (if x2 ≤ x3 then some u else (if ix (u.1 20) 98460 = true then (if ix x3 20 = true then f_X4_read_a12_2 n x2 (x3 + 1) (mF (mA u 12 (Int32.toNatClampNeg x3) (u.2.1 16 (Int32.toNatClampNeg (u.1 20)))) 20 (((mA u 12 (Int32.toNatClampNeg x3) (u.2.1 16 (Int32.toNatClampNeg (u.1 20)))).1 20) + 1)) else none) else none))
noncomputable def f_X4_read_a12 (x2 : Int32) (u : MS) : Option (MS) := f_X4_read_a12_2 NF x2 0 u
section
variable {p : Program} {l : Launch} {e : Env} {s : State} {m : MethodId} {args : Array Value} {below : List Frame} {meth : Method} {c : Code}
variable {G : GX} {A : Nat → Prop} {ad : Nat → Nat}
set_option maxHeartbeats 4000000 in
set_option maxRecDepth 100000 in
theorem w_X4_read_a12_2 (F : FX p m c cX4_read 4 s args yX4_read none RX4 meth) {z : MS} : ∀ (n : Nat) (x2 : Int32) (x3 : Int32) (u : MS) (H : Heap) (locs : List Loc) (ls : Array Slot), WD G A s (mw G ad u) H locs → lv_has ls 4 [(0, .ref (ad 0)), (1, .ref (ad 12)), (2, .int x2), (3, .int x3)] → f_X4_read_a12_2 n x2 x3 u = some z → W p l e rmX4_read_a12 s m args below meth c H locs 0 0 (MQ below (QW G (mw G ad z) A none) args s 0 0 A) (F0 m 2 ls []) := by
  obtain ⟨⟨hx, hb, hml, hown, hts⟩, hr, hlocks⟩ := id F
  intro n
  induction n with
  | zero =>
    intro x2 x3 u H locs ls hw hl h
    rw [f_X4_read_a12_2] at h
    cases h
  | succ n ih =>
    intro x2 x3 u H locs ls hw hl h
    rw [f_X4_read_a12_2] at h
    refine lv_iload_n hx hb dX4_read_2 rfl (lv_at hl 3 rfl) ?_
    refine lv_iload_n hx hb dX4_read_3 rfl (lv_at hl 2 rfl) ?_
    refine lv_icmp_ge (tgt := 35) hx hb dX4_read_4 rfl (fun c1 => ?_) (fun c1 => ?_)
    · replace h := itT h c1
      cases h
      exact retW_v F hw dX4_read_35
    · replace h := itF h c1
      refine lv_aload_n hx hb dX4_read_7 rfl (lv_at hl 1 rfl) ?_
      refine lv_iload_n hx hb dX4_read_8 rfl (lv_at hl 3 rfl) ?_
      refine lv_aload_n hx hb dX4_read_9 rfl (lv_at hl 0 rfl) ?_
      refine m_g16 F hw dX4_read_10 ?_
      refine lv_aload_n hx hb dX4_read_13 rfl (lv_at hl 0 rfl) ?_
      refine m_g20 F hw dX4_read_14 ?_
      obtain ⟨g2, h⟩ := gd h
      refine m_l16 F hw g2 dX4_read_17 ?_
      obtain ⟨g3, h⟩ := gd h
      refine m_s12 F hw g3 dX4_read_18 (fun H locs hw => ?_)
      refine lv_aload_n hx hb dX4_read_19 rfl (lv_at hl 0 rfl) ?_
      refine lv_dup hx hb dX4_read_20 rfl ?_
      refine m_g20 F hw dX4_read_21 ?_
      refine lv_iconst (v := 1) hx hb dX4_read_24 rfl ?_
      refine lv_iadd hx hb dX4_read_25 ?_
      refine m_p20 F hw dX4_read_26 (fun H locs hw => ?_)
      refine lv_iinc (v := (x3 + 1)) (lv' := [(3, .int (x3 + 1)), (0, .ref (ad 0)), (1, .ref (ad 12)), (2, .int x2)]) hx hb dX4_read_29 hl (k := 3) rfl rfl (by decide) rfl (fun ls hl => ?_)
      refine lv_goto (tgt := 2) hx hb dX4_read_32 rfl ?_
      exact ih _ _ _ _ _ _ hw (lv_sub hl [1, 2, 3, 0] rfl) h
set_option maxHeartbeats 4000000 in
set_option maxRecDepth 100000 in
theorem w_X4_read_a12_0 (F : FX p m c cX4_read 4 s args yX4_read none RX4 meth) {z : MS} : ∀ (x2 : Int32) (u : MS) (H : Heap) (locs : List Loc) (ls : Array Slot), WD G A s (mw G ad u) H locs → lv_has ls 4 [(0, .ref (ad 0)), (1, .ref (ad 12)), (2, .int x2)] → f_X4_read_a12 x2 u = some z → W p l e rmX4_read_a12 s m args below meth c H locs 0 0 (MQ below (QW G (mw G ad z) A none) args s 0 0 A) (F0 m 0 ls []) := by
  obtain ⟨⟨hx, hb, hml, hown, hts⟩, hr, hlocks⟩ := id F
  intro x2 u H locs ls hw hl h
  unfold f_X4_read_a12 at h
  refine lv_iconst (v := 0) hx hb dX4_read_0 rfl ?_
  refine lv_istore_n (lv' := [(3, .int 0), (0, .ref (ad 0)), (1, .ref (ad 12)), (2, .int x2)]) hx hb dX4_read_1 rfl hl (by decide) rfl (fun ls hl => ?_)
  exact w_X4_read_a12_2 F NF _ _ _ _ _ _ hw (lv_sub hl [1, 2, 3, 0] rfl) h
end
theorem c_X4_read_a12 {l : Launch} {G : GX} {ad : Nat → Nat} {x2 : Int32} {u : MS} {z : MS} (h : f_X4_read_a12 x2 u = some z) : MW l yX4_read cX4_read 4 none rmX4_read_a12 G (mw G ad u) (mw G ad z) [.ref (ad 0), .ref (ad 12), .int x2] none := MW.of (by decide) (Nat.le_of_ble_eq_true rfl) (fun p e s m below meth c ls F hw hl => w_X4_read_a12_0 F _ _ _ _ _ hw hl h)
theorem yv_X4_read_a12 : YV RX4 78 yX4_read cX4_read 4 none 2 := ⟨(tw 598 (by decide +kernel) rfl), (tw 6 (by decide +kernel) rfl), (tw 595 (by decide +kernel) rfl), (tw 597 (by decide +kernel) rfl), (tp 12 (by decide +kernel) rfl), by decide +kernel⟩
theorem k_X4_read_a12 {p : Program} {l : Launch} {e : Env} {R : Room} {s : State} {m : MethodId} {args : Array Value} {below : List Frame} {meth : Method} {c : Code} {H : Heap} {locs : List Loc} {cells slots : Nat} {Q : State → Prop} {G : GX} {A : Nat → Prop} {ad : Nat → Nat} {cc : ByteArray} {nL pc : Nat} {y0 : MethodName} {ret0 : Option FieldType} {ls : Array Slot} {rest : List Value} {u : MS} {x2 : Int32} {z : MS} (F : FX p m c cc nL s args y0 ret0 RX4 meth) (hw : WD G A s (mw G ad u) H locs) (h : f_X4_read_a12 x2 u = some z) (hR : rmX4_read_a12.frames + 1 ≤ R.frames ∧ 8 + (4 + 11) + rmX4_read_a12.locals ≤ R.locals) (hcs : cells ≤ R.cells ∧ slots ≤ R.slots) (hsz : ls.size = nL) (hW : (rest.map fun v => v.category).sum ≤ 8) (hdg : decode cc pc = .ok (.invokevirtual 78, 3)) (kk : ∀ (H : Heap) (locs : List Loc), WD G A s (mw G ad z) H locs → W p l e R s m args below meth c H locs cells slots Q (F0 m (pc + 3) ls (rest))) : W p l e R s m args below meth c H locs cells slots Q (F0 m pc ls (.int x2 :: .ref (ad 12) :: .ref (ad 0) :: rest)) := callW (runV F yv_X4_read_a12 (c_X4_read_a12 h) hw.1 hw.2.1 hw.2.2.1 rfl rfl rfl ⟨rfl, rfl⟩ hR hcs rfl hsz rfl hW hdg) hw.2.2.2 hw.2.2.1.own_in (fun H1 l1 hP _ hS => kk H1 l1 ⟨hw.1, hP, hw.2.2.1.addr rfl, hS⟩)
def rmX4_read_a13 : Room := { frames := 0, cells := 0, slots := 0, locals := 0 }
noncomputable def f_X4_read_a13_2 : Nat → Int32 → Int32 → MS → Option (MS)
  | 0, _, _, _ => none
  | n + 1, x2, x3, u => (if x2 ≤ x3 then some u else (if ix (u.1 20) 98460 = true then (if ix x3 20 = true then f_X4_read_a13_2 n x2 (x3 + 1) (mF (mA u 13 (Int32.toNatClampNeg x3) (u.2.1 16 (Int32.toNatClampNeg (u.1 20)))) 20 (((mA u 13 (Int32.toNatClampNeg x3) (u.2.1 16 (Int32.toNatClampNeg (u.1 20)))).1 20) + 1)) else none) else none))
noncomputable def f_X4_read_a13 (x2 : Int32) (u : MS) : Option (MS) := f_X4_read_a13_2 NF x2 0 u
section
variable {p : Program} {l : Launch} {e : Env} {s : State} {m : MethodId} {args : Array Value} {below : List Frame} {meth : Method} {c : Code}
variable {G : GX} {A : Nat → Prop} {ad : Nat → Nat}
set_option maxHeartbeats 4000000 in
set_option maxRecDepth 100000 in
theorem w_X4_read_a13_2 (F : FX p m c cX4_read 4 s args yX4_read none RX4 meth) {z : MS} : ∀ (n : Nat) (x2 : Int32) (x3 : Int32) (u : MS) (H : Heap) (locs : List Loc) (ls : Array Slot), WD G A s (mw G ad u) H locs → lv_has ls 4 [(0, .ref (ad 0)), (1, .ref (ad 13)), (2, .int x2), (3, .int x3)] → f_X4_read_a13_2 n x2 x3 u = some z → W p l e rmX4_read_a13 s m args below meth c H locs 0 0 (MQ below (QW G (mw G ad z) A none) args s 0 0 A) (F0 m 2 ls []) := by
  obtain ⟨⟨hx, hb, hml, hown, hts⟩, hr, hlocks⟩ := id F
  intro n
  induction n with
  | zero =>
    intro x2 x3 u H locs ls hw hl h
    rw [f_X4_read_a13_2] at h
    cases h
  | succ n ih =>
    intro x2 x3 u H locs ls hw hl h
    rw [f_X4_read_a13_2] at h
    refine lv_iload_n hx hb dX4_read_2 rfl (lv_at hl 3 rfl) ?_
    refine lv_iload_n hx hb dX4_read_3 rfl (lv_at hl 2 rfl) ?_
    refine lv_icmp_ge (tgt := 35) hx hb dX4_read_4 rfl (fun c1 => ?_) (fun c1 => ?_)
    · replace h := itT h c1
      cases h
      exact retW_v F hw dX4_read_35
    · replace h := itF h c1
      refine lv_aload_n hx hb dX4_read_7 rfl (lv_at hl 1 rfl) ?_
      refine lv_iload_n hx hb dX4_read_8 rfl (lv_at hl 3 rfl) ?_
      refine lv_aload_n hx hb dX4_read_9 rfl (lv_at hl 0 rfl) ?_
      refine m_g16 F hw dX4_read_10 ?_
      refine lv_aload_n hx hb dX4_read_13 rfl (lv_at hl 0 rfl) ?_
      refine m_g20 F hw dX4_read_14 ?_
      obtain ⟨g2, h⟩ := gd h
      refine m_l16 F hw g2 dX4_read_17 ?_
      obtain ⟨g3, h⟩ := gd h
      refine m_s13 F hw g3 dX4_read_18 (fun H locs hw => ?_)
      refine lv_aload_n hx hb dX4_read_19 rfl (lv_at hl 0 rfl) ?_
      refine lv_dup hx hb dX4_read_20 rfl ?_
      refine m_g20 F hw dX4_read_21 ?_
      refine lv_iconst (v := 1) hx hb dX4_read_24 rfl ?_
      refine lv_iadd hx hb dX4_read_25 ?_
      refine m_p20 F hw dX4_read_26 (fun H locs hw => ?_)
      refine lv_iinc (v := (x3 + 1)) (lv' := [(3, .int (x3 + 1)), (0, .ref (ad 0)), (1, .ref (ad 13)), (2, .int x2)]) hx hb dX4_read_29 hl (k := 3) rfl rfl (by decide) rfl (fun ls hl => ?_)
      refine lv_goto (tgt := 2) hx hb dX4_read_32 rfl ?_
      exact ih _ _ _ _ _ _ hw (lv_sub hl [1, 2, 3, 0] rfl) h
set_option maxHeartbeats 4000000 in
set_option maxRecDepth 100000 in
theorem w_X4_read_a13_0 (F : FX p m c cX4_read 4 s args yX4_read none RX4 meth) {z : MS} : ∀ (x2 : Int32) (u : MS) (H : Heap) (locs : List Loc) (ls : Array Slot), WD G A s (mw G ad u) H locs → lv_has ls 4 [(0, .ref (ad 0)), (1, .ref (ad 13)), (2, .int x2)] → f_X4_read_a13 x2 u = some z → W p l e rmX4_read_a13 s m args below meth c H locs 0 0 (MQ below (QW G (mw G ad z) A none) args s 0 0 A) (F0 m 0 ls []) := by
  obtain ⟨⟨hx, hb, hml, hown, hts⟩, hr, hlocks⟩ := id F
  intro x2 u H locs ls hw hl h
  unfold f_X4_read_a13 at h
  refine lv_iconst (v := 0) hx hb dX4_read_0 rfl ?_
  refine lv_istore_n (lv' := [(3, .int 0), (0, .ref (ad 0)), (1, .ref (ad 13)), (2, .int x2)]) hx hb dX4_read_1 rfl hl (by decide) rfl (fun ls hl => ?_)
  exact w_X4_read_a13_2 F NF _ _ _ _ _ _ hw (lv_sub hl [1, 2, 3, 0] rfl) h
end
theorem c_X4_read_a13 {l : Launch} {G : GX} {ad : Nat → Nat} {x2 : Int32} {u : MS} {z : MS} (h : f_X4_read_a13 x2 u = some z) : MW l yX4_read cX4_read 4 none rmX4_read_a13 G (mw G ad u) (mw G ad z) [.ref (ad 0), .ref (ad 13), .int x2] none := MW.of (by decide) (Nat.le_of_ble_eq_true rfl) (fun p e s m below meth c ls F hw hl => w_X4_read_a13_0 F _ _ _ _ _ hw hl h)
theorem yv_X4_read_a13 : YV RX4 78 yX4_read cX4_read 4 none 2 := ⟨(tw 598 (by decide +kernel) rfl), (tw 6 (by decide +kernel) rfl), (tw 595 (by decide +kernel) rfl), (tw 597 (by decide +kernel) rfl), (tp 12 (by decide +kernel) rfl), by decide +kernel⟩
theorem k_X4_read_a13 {p : Program} {l : Launch} {e : Env} {R : Room} {s : State} {m : MethodId} {args : Array Value} {below : List Frame} {meth : Method} {c : Code} {H : Heap} {locs : List Loc} {cells slots : Nat} {Q : State → Prop} {G : GX} {A : Nat → Prop} {ad : Nat → Nat} {cc : ByteArray} {nL pc : Nat} {y0 : MethodName} {ret0 : Option FieldType} {ls : Array Slot} {rest : List Value} {u : MS} {x2 : Int32} {z : MS} (F : FX p m c cc nL s args y0 ret0 RX4 meth) (hw : WD G A s (mw G ad u) H locs) (h : f_X4_read_a13 x2 u = some z) (hR : rmX4_read_a13.frames + 1 ≤ R.frames ∧ 8 + (4 + 11) + rmX4_read_a13.locals ≤ R.locals) (hcs : cells ≤ R.cells ∧ slots ≤ R.slots) (hsz : ls.size = nL) (hW : (rest.map fun v => v.category).sum ≤ 8) (hdg : decode cc pc = .ok (.invokevirtual 78, 3)) (kk : ∀ (H : Heap) (locs : List Loc), WD G A s (mw G ad z) H locs → W p l e R s m args below meth c H locs cells slots Q (F0 m (pc + 3) ls (rest))) : W p l e R s m args below meth c H locs cells slots Q (F0 m pc ls (.int x2 :: .ref (ad 13) :: .ref (ad 0) :: rest)) := callW (runV F yv_X4_read_a13 (c_X4_read_a13 h) hw.1 hw.2.1 hw.2.2.1 rfl rfl rfl ⟨rfl, rfl⟩ hR hcs rfl hsz rfl hW hdg) hw.2.2.2 hw.2.2.1.own_in (fun H1 l1 hP _ hS => kk H1 l1 ⟨hw.1, hP, hw.2.2.1.addr rfl, hS⟩)
def rmX4_read_a14 : Room := { frames := 0, cells := 0, slots := 0, locals := 0 }
noncomputable def f_X4_read_a14_2 : Nat → Int32 → Int32 → MS → Option (MS)
  | 0, _, _, _ => none
  | n + 1, x2, x3, u => (if x2 ≤ x3 then some u else (if ix (u.1 20) 98460 = true then (if ix x3 20 = true then f_X4_read_a14_2 n x2 (x3 + 1) (mF (mA u 14 (Int32.toNatClampNeg x3) (u.2.1 16 (Int32.toNatClampNeg (u.1 20)))) 20 (((mA u 14 (Int32.toNatClampNeg x3) (u.2.1 16 (Int32.toNatClampNeg (u.1 20)))).1 20) + 1)) else none) else none))
noncomputable def f_X4_read_a14 (x2 : Int32) (u : MS) : Option (MS) := f_X4_read_a14_2 NF x2 0 u
section
variable {p : Program} {l : Launch} {e : Env} {s : State} {m : MethodId} {args : Array Value} {below : List Frame} {meth : Method} {c : Code}
variable {G : GX} {A : Nat → Prop} {ad : Nat → Nat}
set_option maxHeartbeats 4000000 in
set_option maxRecDepth 100000 in
theorem w_X4_read_a14_2 (F : FX p m c cX4_read 4 s args yX4_read none RX4 meth) {z : MS} : ∀ (n : Nat) (x2 : Int32) (x3 : Int32) (u : MS) (H : Heap) (locs : List Loc) (ls : Array Slot), WD G A s (mw G ad u) H locs → lv_has ls 4 [(0, .ref (ad 0)), (1, .ref (ad 14)), (2, .int x2), (3, .int x3)] → f_X4_read_a14_2 n x2 x3 u = some z → W p l e rmX4_read_a14 s m args below meth c H locs 0 0 (MQ below (QW G (mw G ad z) A none) args s 0 0 A) (F0 m 2 ls []) := by
  obtain ⟨⟨hx, hb, hml, hown, hts⟩, hr, hlocks⟩ := id F
  intro n
  induction n with
  | zero =>
    intro x2 x3 u H locs ls hw hl h
    rw [f_X4_read_a14_2] at h
    cases h
  | succ n ih =>
    intro x2 x3 u H locs ls hw hl h
    rw [f_X4_read_a14_2] at h
    refine lv_iload_n hx hb dX4_read_2 rfl (lv_at hl 3 rfl) ?_
    refine lv_iload_n hx hb dX4_read_3 rfl (lv_at hl 2 rfl) ?_
    refine lv_icmp_ge (tgt := 35) hx hb dX4_read_4 rfl (fun c1 => ?_) (fun c1 => ?_)
    · replace h := itT h c1
      cases h
      exact retW_v F hw dX4_read_35
    · replace h := itF h c1
      refine lv_aload_n hx hb dX4_read_7 rfl (lv_at hl 1 rfl) ?_
      refine lv_iload_n hx hb dX4_read_8 rfl (lv_at hl 3 rfl) ?_
      refine lv_aload_n hx hb dX4_read_9 rfl (lv_at hl 0 rfl) ?_
      refine m_g16 F hw dX4_read_10 ?_
      refine lv_aload_n hx hb dX4_read_13 rfl (lv_at hl 0 rfl) ?_
      refine m_g20 F hw dX4_read_14 ?_
      obtain ⟨g2, h⟩ := gd h
      refine m_l16 F hw g2 dX4_read_17 ?_
      obtain ⟨g3, h⟩ := gd h
      refine m_s14 F hw g3 dX4_read_18 (fun H locs hw => ?_)
      refine lv_aload_n hx hb dX4_read_19 rfl (lv_at hl 0 rfl) ?_
      refine lv_dup hx hb dX4_read_20 rfl ?_
      refine m_g20 F hw dX4_read_21 ?_
      refine lv_iconst (v := 1) hx hb dX4_read_24 rfl ?_
      refine lv_iadd hx hb dX4_read_25 ?_
      refine m_p20 F hw dX4_read_26 (fun H locs hw => ?_)
      refine lv_iinc (v := (x3 + 1)) (lv' := [(3, .int (x3 + 1)), (0, .ref (ad 0)), (1, .ref (ad 14)), (2, .int x2)]) hx hb dX4_read_29 hl (k := 3) rfl rfl (by decide) rfl (fun ls hl => ?_)
      refine lv_goto (tgt := 2) hx hb dX4_read_32 rfl ?_
      exact ih _ _ _ _ _ _ hw (lv_sub hl [1, 2, 3, 0] rfl) h
set_option maxHeartbeats 4000000 in
set_option maxRecDepth 100000 in
theorem w_X4_read_a14_0 (F : FX p m c cX4_read 4 s args yX4_read none RX4 meth) {z : MS} : ∀ (x2 : Int32) (u : MS) (H : Heap) (locs : List Loc) (ls : Array Slot), WD G A s (mw G ad u) H locs → lv_has ls 4 [(0, .ref (ad 0)), (1, .ref (ad 14)), (2, .int x2)] → f_X4_read_a14 x2 u = some z → W p l e rmX4_read_a14 s m args below meth c H locs 0 0 (MQ below (QW G (mw G ad z) A none) args s 0 0 A) (F0 m 0 ls []) := by
  obtain ⟨⟨hx, hb, hml, hown, hts⟩, hr, hlocks⟩ := id F
  intro x2 u H locs ls hw hl h
  unfold f_X4_read_a14 at h
  refine lv_iconst (v := 0) hx hb dX4_read_0 rfl ?_
  refine lv_istore_n (lv' := [(3, .int 0), (0, .ref (ad 0)), (1, .ref (ad 14)), (2, .int x2)]) hx hb dX4_read_1 rfl hl (by decide) rfl (fun ls hl => ?_)
  exact w_X4_read_a14_2 F NF _ _ _ _ _ _ hw (lv_sub hl [1, 2, 3, 0] rfl) h
end
theorem c_X4_read_a14 {l : Launch} {G : GX} {ad : Nat → Nat} {x2 : Int32} {u : MS} {z : MS} (h : f_X4_read_a14 x2 u = some z) : MW l yX4_read cX4_read 4 none rmX4_read_a14 G (mw G ad u) (mw G ad z) [.ref (ad 0), .ref (ad 14), .int x2] none := MW.of (by decide) (Nat.le_of_ble_eq_true rfl) (fun p e s m below meth c ls F hw hl => w_X4_read_a14_0 F _ _ _ _ _ hw hl h)
theorem yv_X4_read_a14 : YV RX4 78 yX4_read cX4_read 4 none 2 := ⟨(tw 598 (by decide +kernel) rfl), (tw 6 (by decide +kernel) rfl), (tw 595 (by decide +kernel) rfl), (tw 597 (by decide +kernel) rfl), (tp 12 (by decide +kernel) rfl), by decide +kernel⟩
theorem k_X4_read_a14 {p : Program} {l : Launch} {e : Env} {R : Room} {s : State} {m : MethodId} {args : Array Value} {below : List Frame} {meth : Method} {c : Code} {H : Heap} {locs : List Loc} {cells slots : Nat} {Q : State → Prop} {G : GX} {A : Nat → Prop} {ad : Nat → Nat} {cc : ByteArray} {nL pc : Nat} {y0 : MethodName} {ret0 : Option FieldType} {ls : Array Slot} {rest : List Value} {u : MS} {x2 : Int32} {z : MS} (F : FX p m c cc nL s args y0 ret0 RX4 meth) (hw : WD G A s (mw G ad u) H locs) (h : f_X4_read_a14 x2 u = some z) (hR : rmX4_read_a14.frames + 1 ≤ R.frames ∧ 8 + (4 + 11) + rmX4_read_a14.locals ≤ R.locals) (hcs : cells ≤ R.cells ∧ slots ≤ R.slots) (hsz : ls.size = nL) (hW : (rest.map fun v => v.category).sum ≤ 8) (hdg : decode cc pc = .ok (.invokevirtual 78, 3)) (kk : ∀ (H : Heap) (locs : List Loc), WD G A s (mw G ad z) H locs → W p l e R s m args below meth c H locs cells slots Q (F0 m (pc + 3) ls (rest))) : W p l e R s m args below meth c H locs cells slots Q (F0 m pc ls (.int x2 :: .ref (ad 14) :: .ref (ad 0) :: rest)) := callW (runV F yv_X4_read_a14 (c_X4_read_a14 h) hw.1 hw.2.1 hw.2.2.1 rfl rfl rfl ⟨rfl, rfl⟩ hR hcs rfl hsz rfl hW hdg) hw.2.2.2 hw.2.2.1.own_in (fun H1 l1 hP _ hS => kk H1 l1 ⟨hw.1, hP, hw.2.2.1.addr rfl, hS⟩)
/-! ===== X4_save ===== -/
theorem dX4_save_0 : decode cX4_save 0 = .ok (.aload_n 0, 1) := by decide +kernel
theorem dX4_save_1 : decode cX4_save 1 = .ok (.sipush 10940, 3) := by decide +kernel
theorem dX4_save_4 : decode cX4_save 4 = .ok (.iload_n 1, 1) := by decide +kernel
theorem dX4_save_5 : decode cX4_save 5 = .ok (.imul, 1) := by decide +kernel
theorem dX4_save_6 : decode cX4_save 6 = .ok (.putfield 68, 3) := by decide +kernel
theorem dX4_save_9 : decode cX4_save 9 = .ok (.aload_n 0, 1) := by decide +kernel
theorem dX4_save_10 : decode cX4_save 10 = .ok (.aload_n 0, 1) := by decide +kernel
theorem dX4_save_11 : decode cX4_save 11 = .ok (.getfield 7, 3) := by decide +kernel
theorem dX4_save_14 : decode cX4_save 14 = .ok (.bipush 8, 2) := by decide +kernel
theorem dX4_save_16 : decode cX4_save 16 = .ok (.invokevirtual 71, 3) := by decide +kernel
theorem dX4_save_19 : decode cX4_save 19 = .ok (.aload_n 0, 1) := by decide +kernel
theorem dX4_save_20 : decode cX4_save 20 = .ok (.aload_n 0, 1) := by decide +kernel
theorem dX4_save_21 : decode cX4_save 21 = .ok (.getfield 13, 3) := by decide +kernel
theorem dX4_save_24 : decode cX4_save 24 = .ok (.bipush 8, 2) := by decide +kernel
theorem dX4_save_26 : decode cX4_save 26 = .ok (.invokevirtual 71, 3) := by decide +kernel
theorem dX4_save_29 : decode cX4_save 29 = .ok (.aload_n 0, 1) := by decide +kernel
theorem dX4_save_30 : decode cX4_save 30 = .ok (.aload_n 0, 1) := by decide +kernel
theorem dX4_save_31 : decode cX4_save 31 = .ok (.getfield 16, 3) := by decide +kernel
theorem dX4_save_34 : decode cX4_save 34 = .ok (.bipush 8, 2) := by decide +kernel
theorem dX4_save_36 : decode cX4_save 36 = .ok (.invokevirtual 71, 3) := by decide +kernel
theorem dX4_save_39 : decode cX4_save 39 = .ok (.aload_n 0, 1) := by decide +kernel
theorem dX4_save_40 : decode cX4_save 40 = .ok (.aload_n 0, 1) := by decide +kernel
theorem dX4_save_41 : decode cX4_save 41 = .ok (.getfield 19, 3) := by decide +kernel
theorem dX4_save_44 : decode cX4_save 44 = .ok (.bipush 8, 2) := by decide +kernel
theorem dX4_save_46 : decode cX4_save 46 = .ok (.invokevirtual 71, 3) := by decide +kernel
theorem dX4_save_49 : decode cX4_save 49 = .ok (.aload_n 0, 1) := by decide +kernel
theorem dX4_save_50 : decode cX4_save 50 = .ok (.aload_n 0, 1) := by decide +kernel
theorem dX4_save_51 : decode cX4_save 51 = .ok (.getfield 22, 3) := by decide +kernel
theorem dX4_save_54 : decode cX4_save 54 = .ok (.bipush 8, 2) := by decide +kernel
theorem dX4_save_56 : decode cX4_save 56 = .ok (.invokevirtual 71, 3) := by decide +kernel
theorem dX4_save_59 : decode cX4_save 59 = .ok (.aload_n 0, 1) := by decide +kernel
theorem dX4_save_60 : decode cX4_save 60 = .ok (.aload_n 0, 1) := by decide +kernel
theorem dX4_save_61 : decode cX4_save 61 = .ok (.getfield 25, 3) := by decide +kernel
theorem dX4_save_64 : decode cX4_save 64 = .ok (.sipush 4800, 3) := by decide +kernel
theorem dX4_save_67 : decode cX4_save 67 = .ok (.invokevirtual 71, 3) := by decide +kernel
theorem dX4_save_70 : decode cX4_save 70 = .ok (.aload_n 0, 1) := by decide +kernel
theorem dX4_save_71 : decode cX4_save 71 = .ok (.aload_n 0, 1) := by decide +kernel
theorem dX4_save_72 : decode cX4_save 72 = .ok (.getfield 28, 3) := by decide +kernel
theorem dX4_save_75 : decode cX4_save 75 = .ok (.sipush 4800, 3) := by decide +kernel
theorem dX4_save_78 : decode cX4_save 78 = .ok (.invokevirtual 71, 3) := by decide +kernel
theorem dX4_save_81 : decode cX4_save 81 = .ok (.aload_n 0, 1) := by decide +kernel
theorem dX4_save_82 : decode cX4_save 82 = .ok (.aload_n 0, 1) := by decide +kernel
theorem dX4_save_83 : decode cX4_save 83 = .ok (.getfield 38, 3) := by decide +kernel
theorem dX4_save_86 : decode cX4_save 86 = .ok (.sipush 600, 3) := by decide +kernel
theorem dX4_save_89 : decode cX4_save 89 = .ok (.invokevirtual 71, 3) := by decide +kernel
theorem dX4_save_92 : decode cX4_save 92 = .ok (.aload_n 0, 1) := by decide +kernel
theorem dX4_save_93 : decode cX4_save 93 = .ok (.aload_n 0, 1) := by decide +kernel
theorem dX4_save_94 : decode cX4_save 94 = .ok (.getfield 41, 3) := by decide +kernel
theorem dX4_save_97 : decode cX4_save 97 = .ok (.bipush 20, 2) := by decide +kernel
theorem dX4_save_99 : decode cX4_save 99 = .ok (.invokevirtual 71, 3) := by decide +kernel
theorem dX4_save_102 : decode cX4_save 102 = .ok (.aload_n 0, 1) := by decide +kernel
theorem dX4_save_103 : decode cX4_save 103 = .ok (.aload_n 0, 1) := by decide +kernel
theorem dX4_save_104 : decode cX4_save 104 = .ok (.getfield 44, 3) := by decide +kernel
theorem dX4_save_107 : decode cX4_save 107 = .ok (.bipush 20, 2) := by decide +kernel
theorem dX4_save_109 : decode cX4_save 109 = .ok (.invokevirtual 71, 3) := by decide +kernel
theorem dX4_save_112 : decode cX4_save 112 = .ok (.aload_n 0, 1) := by decide +kernel
theorem dX4_save_113 : decode cX4_save 113 = .ok (.aload_n 0, 1) := by decide +kernel
theorem dX4_save_114 : decode cX4_save 114 = .ok (.getfield 47, 3) := by decide +kernel
theorem dX4_save_117 : decode cX4_save 117 = .ok (.bipush 20, 2) := by decide +kernel
theorem dX4_save_119 : decode cX4_save 119 = .ok (.invokevirtual 71, 3) := by decide +kernel
theorem dX4_save_122 : decode cX4_save 122 = .ok (.aload_n 0, 1) := by decide +kernel
theorem dX4_save_123 : decode cX4_save 123 = .ok (.getfield 51, 3) := by decide +kernel
theorem dX4_save_126 : decode cX4_save 126 = .ok (.aload_n 0, 1) := by decide +kernel
theorem dX4_save_127 : decode cX4_save 127 = .ok (.getfield 68, 3) := by decide +kernel
theorem dX4_save_130 : decode cX4_save 130 = .ok (.aload_n 0, 1) := by decide +kernel
theorem dX4_save_131 : decode cX4_save 131 = .ok (.getfield 75, 3) := by decide +kernel
theorem dX4_save_134 : decode cX4_save 134 = .ok (.iastore, 1) := by decide +kernel
theorem dX4_save_135 : decode cX4_save 135 = .ok (.iconst 0, 1) := by decide +kernel
theorem dX4_save_136 : decode cX4_save 136 = .ok (.istore_n 2, 1) := by decide +kernel
theorem dX4_save_137 : decode cX4_save 137 = .ok (.iload_n 2, 1) := by decide +kernel
theorem dX4_save_138 : decode cX4_save 138 = .ok (.sipush 4800, 3) := by decide +kernel
theorem dX4_save_141 : decode cX4_save 141 = .ok (.if_icmp .ge 27, 3) := by decide +kernel
theorem dX4_save_144 : decode cX4_save 144 = .ok (.aload_n 0, 1) := by decide +kernel
theorem dX4_save_145 : decode cX4_save 145 = .ok (.getfield 55, 3) := by decide +kernel
theorem dX4_save_148 : decode cX4_save 148 = .ok (.sipush 5400, 3) := by decide +kernel
theorem dX4_save_151 : decode cX4_save 151 = .ok (.iload_n 1, 1) := by decide +kernel
theorem dX4_save_152 : decode cX4_save 152 = .ok (.imul, 1) := by decide +kernel
theorem dX4_save_153 : decode cX4_save 153 = .ok (.iload_n 2, 1) := by decide +kernel
theorem dX4_save_154 : decode cX4_save 154 = .ok (.iadd, 1) := by decide +kernel
theorem dX4_save_155 : decode cX4_save 155 = .ok (.aload_n 0, 1) := by decide +kernel
theorem dX4_save_156 : decode cX4_save 156 = .ok (.getfield 31, 3) := by decide +kernel
theorem dX4_save_159 : decode cX4_save 159 = .ok (.iload_n 2, 1) := by decide +kernel
theorem dX4_save_160 : decode cX4_save 160 = .ok (.laload, 1) := by decide +kernel
theorem dX4_save_161 : decode cX4_save 161 = .ok (.lastore, 1) := by decide +kernel
theorem dX4_save_162 : decode cX4_save 162 = .ok (.iinc 2 1, 3) := by decide +kernel
theorem dX4_save_165 : decode cX4_save 165 = .ok (.goto (-28), 3) := by decide +kernel
theorem dX4_save_168 : decode cX4_save 168 = .ok (.iconst 0, 1) := by decide +kernel
theorem dX4_save_169 : decode cX4_save 169 = .ok (.istore_n 2, 1) := by decide +kernel
theorem dX4_save_170 : decode cX4_save 170 = .ok (.iload_n 2, 1) := by decide +kernel
theorem dX4_save_171 : decode cX4_save 171 = .ok (.sipush 600, 3) := by decide +kernel
theorem dX4_save_174 : decode cX4_save 174 = .ok (.if_icmp .ge 31, 3) := by decide +kernel
theorem dX4_save_177 : decode cX4_save 177 = .ok (.aload_n 0, 1) := by decide +kernel
theorem dX4_save_178 : decode cX4_save 178 = .ok (.getfield 55, 3) := by decide +kernel
theorem dX4_save_181 : decode cX4_save 181 = .ok (.sipush 5400, 3) := by decide +kernel
theorem dX4_save_184 : decode cX4_save 184 = .ok (.iload_n 1, 1) := by decide +kernel
theorem dX4_save_185 : decode cX4_save 185 = .ok (.imul, 1) := by decide +kernel
theorem dX4_save_186 : decode cX4_save 186 = .ok (.sipush 4800, 3) := by decide +kernel
theorem dX4_save_189 : decode cX4_save 189 = .ok (.iadd, 1) := by decide +kernel
theorem dX4_save_190 : decode cX4_save 190 = .ok (.iload_n 2, 1) := by decide +kernel
theorem dX4_save_191 : decode cX4_save 191 = .ok (.iadd, 1) := by decide +kernel
theorem dX4_save_192 : decode cX4_save 192 = .ok (.aload_n 0, 1) := by decide +kernel
theorem dX4_save_193 : decode cX4_save 193 = .ok (.getfield 35, 3) := by decide +kernel
theorem dX4_save_196 : decode cX4_save 196 = .ok (.iload_n 2, 1) := by decide +kernel
theorem dX4_save_197 : decode cX4_save 197 = .ok (.laload, 1) := by decide +kernel
theorem dX4_save_198 : decode cX4_save 198 = .ok (.lastore, 1) := by decide +kernel
theorem dX4_save_199 : decode cX4_save 199 = .ok (.iinc 2 1, 3) := by decide +kernel
theorem dX4_save_202 : decode cX4_save 202 = .ok (.goto (-32), 3) := by decide +kernel
theorem dX4_save_205 : decode cX4_save 205 = .ok (.return_, 1) := by decide +kernel
def rmX4_save : Room := { frames := 1, cells := 0, slots := 0, locals := 23 }
noncomputable def f_X4_save_170 : Nat → Int32 → Int32 → MS → Option (MS)
  | 0, _, _, _ => none
  | n + 1, x1, x2, u => (if 600 ≤ x2 then some u else (if ix x2 600 = true then (if ix (((5400 * x1) + 4800) + x2) 48600 = true then f_X4_save_170 n x1 (x2 + 1) (mB u 17 (Int32.toNatClampNeg (((5400 * x1) + 4800) + x2)) (u.2.2 10 (Int32.toNatClampNeg x2))) else none) else none))
noncomputable def f_X4_save_137 : Nat → Int32 → Int32 → MS → Option (MS)
  | 0, _, _, _ => none
  | n + 1, x1, x2, u => (if 4800 ≤ x2 then f_X4_save_170 NF x1 0 u else (if ix x2 4800 = true then (if ix ((5400 * x1) + x2) 48600 = true then f_X4_save_137 n x1 (x2 + 1) (mB u 17 (Int32.toNatClampNeg ((5400 * x1) + x2)) (u.2.2 9 (Int32.toNatClampNeg x2))) else none) else none))
noncomputable def f_X4_save (x1 : Int32) (u : MS) : Option (MS) := (f_X4_write_a2 8 (mF u 20 (10940 * x1))).bind (fun z1 => (f_X4_write_a3 8 z1).bind (fun z3 => (f_X4_write_a4 8 z3).bind (fun z5 => (f_X4_write_a5 8 z5).bind (fun z7 => (f_X4_write_a6 8 z7).bind (fun z9 => (f_X4_write_a7 4800 z9).bind (fun z11 => (f_X4_write_a8 4800 z11).bind (fun z13 => (f_X4_write_a11 600 z13).bind (fun z15 => (f_X4_write_a12 20 z15).bind (fun z17 => (f_X4_write_a13 20 z17).bind (fun z19 => (f_X4_write_a14 20 z19).bind (fun z21 => (if ix (z21.1 20) 98460 = true then f_X4_save_137 NF x1 0 (mA z21 16 (Int32.toNatClampNeg (z21.1 20)) (z21.1 15)) else none))))))))))))
section
variable {p : Program} {l : Launch} {e : Env} {s : State} {m : MethodId} {args : Array Value} {below : List Frame} {meth : Method} {c : Code}
variable {G : GX} {A : Nat → Prop} {ad : Nat → Nat}
set_option maxHeartbeats 4000000 in
set_option maxRecDepth 100000 in
theorem w_X4_save_170 (F : FX p m c cX4_save 3 s args yX4_save none RX4 meth) {z : MS} : ∀ (n : Nat) (x1 : Int32) (x2 : Int32) (u : MS) (H : Heap) (locs : List Loc) (ls : Array Slot), WD G A s (mw G ad u) H locs → lv_has ls 3 [(0, .ref (ad 0)), (1, .int x1), (2, .int x2)] → f_X4_save_170 n x1 x2 u = some z → W p l e rmX4_save s m args below meth c H locs 0 0 (MQ below (QW G (mw G ad z) A none) args s 0 0 A) (F0 m 170 ls []) := by
  obtain ⟨⟨hx, hb, hml, hown, hts⟩, hr, hlocks⟩ := id F
  intro n
  induction n with
  | zero =>
    intro x1 x2 u H locs ls hw hl h
    rw [f_X4_save_170] at h
    cases h
  | succ n ih =>
    intro x1 x2 u H locs ls hw hl h
    rw [f_X4_save_170] at h
    refine lv_iload_n hx hb dX4_save_170 rfl (lv_at hl 2 rfl) ?_
    refine lv_sipush (v := 600) hx hb dX4_save_171 rfl ?_
    refine lv_icmp_ge (tgt := 205) hx hb dX4_save_174 rfl (fun c27 => ?_) (fun c27 => ?_)
    · replace h := itT h c27
      cases h
      exact retW_v F hw dX4_save_205
    · replace h := itF h c27
      refine lv_aload_n hx hb dX4_save_177 rfl (lv_at hl 0 rfl) ?_
      refine m_g17 F hw dX4_save_178 ?_
      refine lv_sipush (v := 5400) hx hb dX4_save_181 rfl ?_
      refine lv_iload_n hx hb dX4_save_184 rfl (lv_at hl 1 rfl) ?_
      refine lv_imul hx hb dX4_save_185 ?_
      refine lv_sipush (v := 4800) hx hb dX4_save_186 rfl ?_
      refine lv_iadd hx hb dX4_save_189 ?_
      refine lv_iload_n hx hb dX4_save_190 rfl (lv_at hl 2 rfl) ?_
      refine lv_iadd hx hb dX4_save_191 ?_
      refine lv_aload_n hx hb dX4_save_192 rfl (lv_at hl 0 rfl) ?_
      refine m_g10 F hw dX4_save_193 ?_
      refine lv_iload_n hx hb dX4_save_196 rfl (lv_at hl 2 rfl) ?_
      obtain ⟨g28, h⟩ := gd h
      refine m_l10 F hw g28 dX4_save_197 ?_
      obtain ⟨g29, h⟩ := gd h
      refine m_s17 F hw g29 dX4_save_198 (fun H locs hw => ?_)
      refine lv_iinc (v := (x2 + 1)) (lv' := [(2, .int (x2 + 1)), (0, .ref (ad 0)), (1, .int x1)]) hx hb dX4_save_199 hl (k := 2) rfl rfl (by decide) rfl (fun ls hl => ?_)
      refine lv_goto (tgt := 170) hx hb dX4_save_202 rfl ?_
      exact ih _ _ _ _ _ _ hw (lv_sub hl [1, 2, 0] rfl) h
set_option maxHeartbeats 4000000 in
set_option maxRecDepth 100000 in
theorem w_X4_save_137 (F : FX p m c cX4_save 3 s args yX4_save none RX4 meth) {z : MS} : ∀ (n : Nat) (x1 : Int32) (x2 : Int32) (u : MS) (H : Heap) (locs : List Loc) (ls : Array Slot), WD G A s (mw G ad u) H locs → lv_has ls 3 [(0, .ref (ad 0)), (1, .int x1), (2, .int x2)] → f_X4_save_137 n x1 x2 u = some z → W p l e rmX4_save s m args below meth c H locs 0 0 (MQ below (QW G (mw G ad z) A none) args s 0 0 A) (F0 m 137 ls []) := by
  obtain ⟨⟨hx, hb, hml, hown, hts⟩, hr, hlocks⟩ := id F
  intro n
  induction n with
  | zero =>
    intro x1 x2 u H locs ls hw hl h
    rw [f_X4_save_137] at h
    cases h
  | succ n ih =>
    intro x1 x2 u H locs ls hw hl h
    rw [f_X4_save_137] at h
    refine lv_iload_n hx hb dX4_save_137 rfl (lv_at hl 2 rfl) ?_
    refine lv_sipush (v := 4800) hx hb dX4_save_138 rfl ?_
    refine lv_icmp_ge (tgt := 168) hx hb dX4_save_141 rfl (fun c24 => ?_) (fun c24 => ?_)
    · replace h := itT h c24
      refine lv_iconst (v := 0) hx hb dX4_save_168 rfl ?_
      refine lv_istore_n (lv' := [(2, .int 0), (0, .ref (ad 0)), (1, .int x1)]) hx hb dX4_save_169 rfl hl (by decide) rfl (fun ls hl => ?_)
      exact w_X4_save_170 F NF _ _ _ _ _ _ hw (lv_sub hl [1, 2, 0] rfl) h
    · replace h := itF h c24
      refine lv_aload_n hx hb dX4_save_144 rfl (lv_at hl 0 rfl) ?_
      refine m_g17 F hw dX4_save_145 ?_
      refine lv_sipush (v := 5400) hx hb dX4_save_148 rfl ?_
      refine lv_iload_n hx hb dX4_save_151 rfl (lv_at hl 1 rfl) ?_
      refine lv_imul hx hb dX4_save_152 ?_
      refine lv_iload_n hx hb dX4_save_153 rfl (lv_at hl 2 rfl) ?_
      refine lv_iadd hx hb dX4_save_154 ?_
      refine lv_aload_n hx hb dX4_save_155 rfl (lv_at hl 0 rfl) ?_
      refine m_g9 F hw dX4_save_156 ?_
      refine lv_iload_n hx hb dX4_save_159 rfl (lv_at hl 2 rfl) ?_
      obtain ⟨g25, h⟩ := gd h
      refine m_l9 F hw g25 dX4_save_160 ?_
      obtain ⟨g26, h⟩ := gd h
      refine m_s17 F hw g26 dX4_save_161 (fun H locs hw => ?_)
      refine lv_iinc (v := (x2 + 1)) (lv' := [(2, .int (x2 + 1)), (0, .ref (ad 0)), (1, .int x1)]) hx hb dX4_save_162 hl (k := 2) rfl rfl (by decide) rfl (fun ls hl => ?_)
      refine lv_goto (tgt := 137) hx hb dX4_save_165 rfl ?_
      exact ih _ _ _ _ _ _ hw (lv_sub hl [1, 2, 0] rfl) h
set_option maxHeartbeats 4000000 in
set_option maxRecDepth 100000 in
theorem w_X4_save_0 (F : FX p m c cX4_save 3 s args yX4_save none RX4 meth) {z : MS} : ∀ (x1 : Int32) (u : MS) (H : Heap) (locs : List Loc) (ls : Array Slot), WD G A s (mw G ad u) H locs → lv_has ls 3 [(0, .ref (ad 0)), (1, .int x1)] → f_X4_save x1 u = some z → W p l e rmX4_save s m args below meth c H locs 0 0 (MQ below (QW G (mw G ad z) A none) args s 0 0 A) (F0 m 0 ls []) := by
  obtain ⟨⟨hx, hb, hml, hown, hts⟩, hr, hlocks⟩ := id F
  intro x1 u H locs ls hw hl h
  unfold f_X4_save at h
  refine lv_aload_n hx hb dX4_save_0 rfl (lv_at hl 0 rfl) ?_
  refine lv_sipush (v := 10940) hx hb dX4_save_1 rfl ?_
  refine lv_iload_n hx hb dX4_save_4 rfl (lv_at hl 1 rfl) ?_
  refine lv_imul hx hb dX4_save_5 ?_
  refine m_p20 F hw dX4_save_6 (fun H locs hw => ?_)
  refine lv_aload_n hx hb dX4_save_9 rfl (lv_at hl 0 rfl) ?_
  refine lv_aload_n hx hb dX4_save_10 rfl (lv_at hl 0 rfl) ?_
  refine m_g2 F hw dX4_save_11 ?_
  refine lv_bipush (v := 8) hx hb dX4_save_14 rfl ?_
  obtain ⟨z1, e2, h⟩ := bnd h
  refine k_X4_write_a2 F hw e2 ⟨Nat.le_of_ble_eq_true rfl, Nat.le_of_ble_eq_true rfl⟩ ⟨Nat.zero_le _, Nat.zero_le _⟩ hl.1 (Nat.le_of_ble_eq_true rfl) dX4_save_16 (fun H locs hw => ?_)
  refine lv_aload_n hx hb dX4_save_19 rfl (lv_at hl 0 rfl) ?_
  refine lv_aload_n hx hb dX4_save_20 rfl (lv_at hl 0 rfl) ?_
  refine m_g3 F hw dX4_save_21 ?_
  refine lv_bipush (v := 8) hx hb dX4_save_24 rfl ?_
  obtain ⟨z3, e4, h⟩ := bnd h
  refine k_X4_write_a3 F hw e4 ⟨Nat.le_of_ble_eq_true rfl, Nat.le_of_ble_eq_true rfl⟩ ⟨Nat.zero_le _, Nat.zero_le _⟩ hl.1 (Nat.le_of_ble_eq_true rfl) dX4_save_26 (fun H locs hw => ?_)
  refine lv_aload_n hx hb dX4_save_29 rfl (lv_at hl 0 rfl) ?_
  refine lv_aload_n hx hb dX4_save_30 rfl (lv_at hl 0 rfl) ?_
  refine m_g4 F hw dX4_save_31 ?_
  refine lv_bipush (v := 8) hx hb dX4_save_34 rfl ?_
  obtain ⟨z5, e6, h⟩ := bnd h
  refine k_X4_write_a4 F hw e6 ⟨Nat.le_of_ble_eq_true rfl, Nat.le_of_ble_eq_true rfl⟩ ⟨Nat.zero_le _, Nat.zero_le _⟩ hl.1 (Nat.le_of_ble_eq_true rfl) dX4_save_36 (fun H locs hw => ?_)
  refine lv_aload_n hx hb dX4_save_39 rfl (lv_at hl 0 rfl) ?_
  refine lv_aload_n hx hb dX4_save_40 rfl (lv_at hl 0 rfl) ?_
  refine m_g5 F hw dX4_save_41 ?_
  refine lv_bipush (v := 8) hx hb dX4_save_44 rfl ?_
  obtain ⟨z7, e8, h⟩ := bnd h
  refine k_X4_write_a5 F hw e8 ⟨Nat.le_of_ble_eq_true rfl, Nat.le_of_ble_eq_true rfl⟩ ⟨Nat.zero_le _, Nat.zero_le _⟩ hl.1 (Nat.le_of_ble_eq_true rfl) dX4_save_46 (fun H locs hw => ?_)
  refine lv_aload_n hx hb dX4_save_49 rfl (lv_at hl 0 rfl) ?_
  refine lv_aload_n hx hb dX4_save_50 rfl (lv_at hl 0 rfl) ?_
  refine m_g6 F hw dX4_save_51 ?_
  refine lv_bipush (v := 8) hx hb dX4_save_54 rfl ?_
  obtain ⟨z9, e10, h⟩ := bnd h
  refine k_X4_write_a6 F hw e10 ⟨Nat.le_of_ble_eq_true rfl, Nat.le_of_ble_eq_true rfl⟩ ⟨Nat.zero_le _, Nat.zero_le _⟩ hl.1 (Nat.le_of_ble_eq_true rfl) dX4_save_56 (fun H locs hw => ?_)
  refine lv_aload_n hx hb dX4_save_59 rfl (lv_at hl 0 rfl) ?_
  refine lv_aload_n hx hb dX4_save_60 rfl (lv_at hl 0 rfl) ?_
  refine m_g7 F hw dX4_save_61 ?_
  refine lv_sipush (v := 4800) hx hb dX4_save_64 rfl ?_
  obtain ⟨z11, e12, h⟩ := bnd h
  refine k_X4_write_a7 F hw e12 ⟨Nat.le_of_ble_eq_true rfl, Nat.le_of_ble_eq_true rfl⟩ ⟨Nat.zero_le _, Nat.zero_le _⟩ hl.1 (Nat.le_of_ble_eq_true rfl) dX4_save_67 (fun H locs hw => ?_)
  refine lv_aload_n hx hb dX4_save_70 rfl (lv_at hl 0 rfl) ?_
  refine lv_aload_n hx hb dX4_save_71 rfl (lv_at hl 0 rfl) ?_
  refine m_g8 F hw dX4_save_72 ?_
  refine lv_sipush (v := 4800) hx hb dX4_save_75 rfl ?_
  obtain ⟨z13, e14, h⟩ := bnd h
  refine k_X4_write_a8 F hw e14 ⟨Nat.le_of_ble_eq_true rfl, Nat.le_of_ble_eq_true rfl⟩ ⟨Nat.zero_le _, Nat.zero_le _⟩ hl.1 (Nat.le_of_ble_eq_true rfl) dX4_save_78 (fun H locs hw => ?_)
  refine lv_aload_n hx hb dX4_save_81 rfl (lv_at hl 0 rfl) ?_
  refine lv_aload_n hx hb dX4_save_82 rfl (lv_at hl 0 rfl) ?_
  refine m_g11 F hw dX4_save_83 ?_
  refine lv_sipush (v := 600) hx hb dX4_save_86 rfl ?_
  obtain ⟨z15, e16, h⟩ := bnd h
  refine k_X4_write_a11 F hw e16 ⟨Nat.le_of_ble_eq_true rfl, Nat.le_of_ble_eq_true rfl⟩ ⟨Nat.zero_le _, Nat.zero_le _⟩ hl.1 (Nat.le_of_ble_eq_true rfl) dX4_save_89 (fun H locs hw => ?_)
  refine lv_aload_n hx hb dX4_save_92 rfl (lv_at hl 0 rfl) ?_
  refine lv_aload_n hx hb dX4_save_93 rfl (lv_at hl 0 rfl) ?_
  refine m_g12 F hw dX4_save_94 ?_
  refine lv_bipush (v := 20) hx hb dX4_save_97 rfl ?_
  obtain ⟨z17, e18, h⟩ := bnd h
  refine k_X4_write_a12 F hw e18 ⟨Nat.le_of_ble_eq_true rfl, Nat.le_of_ble_eq_true rfl⟩ ⟨Nat.zero_le _, Nat.zero_le _⟩ hl.1 (Nat.le_of_ble_eq_true rfl) dX4_save_99 (fun H locs hw => ?_)
  refine lv_aload_n hx hb dX4_save_102 rfl (lv_at hl 0 rfl) ?_
  refine lv_aload_n hx hb dX4_save_103 rfl (lv_at hl 0 rfl) ?_
  refine m_g13 F hw dX4_save_104 ?_
  refine lv_bipush (v := 20) hx hb dX4_save_107 rfl ?_
  obtain ⟨z19, e20, h⟩ := bnd h
  refine k_X4_write_a13 F hw e20 ⟨Nat.le_of_ble_eq_true rfl, Nat.le_of_ble_eq_true rfl⟩ ⟨Nat.zero_le _, Nat.zero_le _⟩ hl.1 (Nat.le_of_ble_eq_true rfl) dX4_save_109 (fun H locs hw => ?_)
  refine lv_aload_n hx hb dX4_save_112 rfl (lv_at hl 0 rfl) ?_
  refine lv_aload_n hx hb dX4_save_113 rfl (lv_at hl 0 rfl) ?_
  refine m_g14 F hw dX4_save_114 ?_
  refine lv_bipush (v := 20) hx hb dX4_save_117 rfl ?_
  obtain ⟨z21, e22, h⟩ := bnd h
  refine k_X4_write_a14 F hw e22 ⟨Nat.le_of_ble_eq_true rfl, Nat.le_of_ble_eq_true rfl⟩ ⟨Nat.zero_le _, Nat.zero_le _⟩ hl.1 (Nat.le_of_ble_eq_true rfl) dX4_save_119 (fun H locs hw => ?_)
  refine lv_aload_n hx hb dX4_save_122 rfl (lv_at hl 0 rfl) ?_
  refine m_g16 F hw dX4_save_123 ?_
  refine lv_aload_n hx hb dX4_save_126 rfl (lv_at hl 0 rfl) ?_
  refine m_g20 F hw dX4_save_127 ?_
  refine lv_aload_n hx hb dX4_save_130 rfl (lv_at hl 0 rfl) ?_
  refine m_g15 F hw dX4_save_131 ?_
  obtain ⟨g23, h⟩ := gd h
  refine m_s16 F hw g23 dX4_save_134 (fun H locs hw => ?_)
  refine lv_iconst (v := 0) hx hb dX4_save_135 rfl ?_
  refine lv_istore_n (lv' := [(2, .int 0), (0, .ref (ad 0)), (1, .int x1)]) hx hb dX4_save_136 rfl hl (by decide) rfl (fun ls hl => ?_)
  exact w_X4_save_137 F NF _ _ _ _ _ _ hw (lv_sub hl [1, 2, 0] rfl) h
end
theorem c_X4_save {l : Launch} {G : GX} {ad : Nat → Nat} {x1 : Int32} {u : MS} {z : MS} (h : f_X4_save x1 u = some z) : MW l yX4_save cX4_save 3 none rmX4_save G (mw G ad u) (mw G ad z) [.ref (ad 0), .int x1] none := MW.of (by decide) (Nat.le_of_ble_eq_true rfl) (fun p e s m below meth c ls F hw hl => w_X4_save_0 F _ _ _ _ _ hw hl h)
theorem yv_X4_save : YV RX4 104 yX4_save cX4_save 3 none 1 := ⟨(tw 609 (by decide +kernel) rfl), (tw 6 (by decide +kernel) rfl), (tw 606 (by decide +kernel) rfl), (tw 608 (by decide +kernel) rfl), (tp 13 (by decide +kernel) rfl), by decide +kernel⟩
theorem k_X4_save {p : Program} {l : Launch} {e : Env} {R : Room} {s : State} {m : MethodId} {args : Array Value} {below : List Frame} {meth : Method} {c : Code} {H : Heap} {locs : List Loc} {cells slots : Nat} {Q : State → Prop} {G : GX} {A : Nat → Prop} {ad : Nat → Nat} {cc : ByteArray} {nL pc : Nat} {y0 : MethodName} {ret0 : Option FieldType} {ls : Array Slot} {rest : List Value} {u : MS} {x1 : Int32} {z : MS} (F : FX p m c cc nL s args y0 ret0 RX4 meth) (hw : WD G A s (mw G ad u) H locs) (h : f_X4_save x1 u = some z) (hR : rmX4_save.frames + 1 ≤ R.frames ∧ 8 + (3 + 11) + rmX4_save.locals ≤ R.locals) (hcs : cells ≤ R.cells ∧ slots ≤ R.slots) (hsz : ls.size = nL) (hW : (rest.map fun v => v.category).sum ≤ 8) (hdg : decode cc pc = .ok (.invokevirtual 104, 3)) (kk : ∀ (H : Heap) (locs : List Loc), WD G A s (mw G ad z) H locs → W p l e R s m args below meth c H locs cells slots Q (F0 m (pc + 3) ls (rest))) : W p l e R s m args below meth c H locs cells slots Q (F0 m pc ls (.int x1 :: .ref (ad 0) :: rest)) := callW (runV F yv_X4_save (c_X4_save h) hw.1 hw.2.1 hw.2.2.1 rfl rfl rfl ⟨rfl, rfl⟩ hR hcs rfl hsz rfl hW hdg) hw.2.2.2 hw.2.2.1.own_in (fun H1 l1 hP _ hS => kk H1 l1 ⟨hw.1, hP, hw.2.2.1.addr rfl, hS⟩)
/-! ===== X4_load ===== -/
theorem dX4_load_0 : decode cX4_load 0 = .ok (.aload_n 0, 1) := by decide +kernel
theorem dX4_load_1 : decode cX4_load 1 = .ok (.sipush 10940, 3) := by decide +kernel
theorem dX4_load_4 : decode cX4_load 4 = .ok (.iload_n 1, 1) := by decide +kernel
theorem dX4_load_5 : decode cX4_load 5 = .ok (.imul, 1) := by decide +kernel
theorem dX4_load_6 : decode cX4_load 6 = .ok (.putfield 68, 3) := by decide +kernel
theorem dX4_load_9 : decode cX4_load 9 = .ok (.aload_n 0, 1) := by decide +kernel
theorem dX4_load_10 : decode cX4_load 10 = .ok (.aload_n 0, 1) := by decide +kernel
theorem dX4_load_11 : decode cX4_load 11 = .ok (.getfield 7, 3) := by decide +kernel
theorem dX4_load_14 : decode cX4_load 14 = .ok (.bipush 8, 2) := by decide +kernel
theorem dX4_load_16 : decode cX4_load 16 = .ok (.invokevirtual 78, 3) := by decide +kernel
theorem dX4_load_19 : decode cX4_load 19 = .ok (.aload_n 0, 1) := by decide +kernel
theorem dX4_load_20 : decode cX4_load 20 = .ok (.aload_n 0, 1) := by decide +kernel
theorem dX4_load_21 : decode cX4_load 21 = .ok (.getfield 13, 3) := by decide +kernel
theorem dX4_load_24 : decode cX4_load 24 = .ok (.bipush 8, 2) := by decide +kernel
theorem dX4_load_26 : decode cX4_load 26 = .ok (.invokevirtual 78, 3) := by decide +kernel
theorem dX4_load_29 : decode cX4_load 29 = .ok (.aload_n 0, 1) := by decide +kernel
theorem dX4_load_30 : decode cX4_load 30 = .ok (.aload_n 0, 1) := by decide +kernel
theorem dX4_load_31 : decode cX4_load 31 = .ok (.getfield 16, 3) := by decide +kernel
theorem dX4_load_34 : decode cX4_load 34 = .ok (.bipush 8, 2) := by decide +kernel
theorem dX4_load_36 : decode cX4_load 36 = .ok (.invokevirtual 78, 3) := by decide +kernel
theorem dX4_load_39 : decode cX4_load 39 = .ok (.aload_n 0, 1) := by decide +kernel
theorem dX4_load_40 : decode cX4_load 40 = .ok (.aload_n 0, 1) := by decide +kernel
theorem dX4_load_41 : decode cX4_load 41 = .ok (.getfield 19, 3) := by decide +kernel
theorem dX4_load_44 : decode cX4_load 44 = .ok (.bipush 8, 2) := by decide +kernel
theorem dX4_load_46 : decode cX4_load 46 = .ok (.invokevirtual 78, 3) := by decide +kernel
theorem dX4_load_49 : decode cX4_load 49 = .ok (.aload_n 0, 1) := by decide +kernel
theorem dX4_load_50 : decode cX4_load 50 = .ok (.aload_n 0, 1) := by decide +kernel
theorem dX4_load_51 : decode cX4_load 51 = .ok (.getfield 22, 3) := by decide +kernel
theorem dX4_load_54 : decode cX4_load 54 = .ok (.bipush 8, 2) := by decide +kernel
theorem dX4_load_56 : decode cX4_load 56 = .ok (.invokevirtual 78, 3) := by decide +kernel
theorem dX4_load_59 : decode cX4_load 59 = .ok (.aload_n 0, 1) := by decide +kernel
theorem dX4_load_60 : decode cX4_load 60 = .ok (.aload_n 0, 1) := by decide +kernel
theorem dX4_load_61 : decode cX4_load 61 = .ok (.getfield 25, 3) := by decide +kernel
theorem dX4_load_64 : decode cX4_load 64 = .ok (.sipush 4800, 3) := by decide +kernel
theorem dX4_load_67 : decode cX4_load 67 = .ok (.invokevirtual 78, 3) := by decide +kernel
theorem dX4_load_70 : decode cX4_load 70 = .ok (.aload_n 0, 1) := by decide +kernel
theorem dX4_load_71 : decode cX4_load 71 = .ok (.aload_n 0, 1) := by decide +kernel
theorem dX4_load_72 : decode cX4_load 72 = .ok (.getfield 28, 3) := by decide +kernel
theorem dX4_load_75 : decode cX4_load 75 = .ok (.sipush 4800, 3) := by decide +kernel
theorem dX4_load_78 : decode cX4_load 78 = .ok (.invokevirtual 78, 3) := by decide +kernel
theorem dX4_load_81 : decode cX4_load 81 = .ok (.aload_n 0, 1) := by decide +kernel
theorem dX4_load_82 : decode cX4_load 82 = .ok (.aload_n 0, 1) := by decide +kernel
theorem dX4_load_83 : decode cX4_load 83 = .ok (.getfield 38, 3) := by decide +kernel
theorem dX4_load_86 : decode cX4_load 86 = .ok (.sipush 600, 3) := by decide +kernel
theorem dX4_load_89 : decode cX4_load 89 = .ok (.invokevirtual 78, 3) := by decide +kernel
theorem dX4_load_92 : decode cX4_load 92 = .ok (.aload_n 0, 1) := by decide +kernel
theorem dX4_load_93 : decode cX4_load 93 = .ok (.aload_n 0, 1) := by decide +kernel
theorem dX4_load_94 : decode cX4_load 94 = .ok (.getfield 41, 3) := by decide +kernel
theorem dX4_load_97 : decode cX4_load 97 = .ok (.bipush 20, 2) := by decide +kernel
theorem dX4_load_99 : decode cX4_load 99 = .ok (.invokevirtual 78, 3) := by decide +kernel
theorem dX4_load_102 : decode cX4_load 102 = .ok (.aload_n 0, 1) := by decide +kernel
theorem dX4_load_103 : decode cX4_load 103 = .ok (.aload_n 0, 1) := by decide +kernel
theorem dX4_load_104 : decode cX4_load 104 = .ok (.getfield 44, 3) := by decide +kernel
theorem dX4_load_107 : decode cX4_load 107 = .ok (.bipush 20, 2) := by decide +kernel
theorem dX4_load_109 : decode cX4_load 109 = .ok (.invokevirtual 78, 3) := by decide +kernel
theorem dX4_load_112 : decode cX4_load 112 = .ok (.aload_n 0, 1) := by decide +kernel
theorem dX4_load_113 : decode cX4_load 113 = .ok (.aload_n 0, 1) := by decide +kernel
theorem dX4_load_114 : decode cX4_load 114 = .ok (.getfield 47, 3) := by decide +kernel
theorem dX4_load_117 : decode cX4_load 117 = .ok (.bipush 20, 2) := by decide +kernel
theorem dX4_load_119 : decode cX4_load 119 = .ok (.invokevirtual 78, 3) := by decide +kernel
theorem dX4_load_122 : decode cX4_load 122 = .ok (.aload_n 0, 1) := by decide +kernel
theorem dX4_load_123 : decode cX4_load 123 = .ok (.aload_n 0, 1) := by decide +kernel
theorem dX4_load_124 : decode cX4_load 124 = .ok (.getfield 51, 3) := by decide +kernel
theorem dX4_load_127 : decode cX4_load 127 = .ok (.aload_n 0, 1) := by decide +kernel
theorem dX4_load_128 : decode cX4_load 128 = .ok (.getfield 68, 3) := by decide +kernel
theorem dX4_load_131 : decode cX4_load 131 = .ok (.iaload, 1) := by decide +kernel
theorem dX4_load_132 : decode cX4_load 132 = .ok (.putfield 75, 3) := by decide +kernel
theorem dX4_load_135 : decode cX4_load 135 = .ok (.iconst 0, 1) := by decide +kernel
theorem dX4_load_136 : decode cX4_load 136 = .ok (.istore_n 2, 1) := by decide +kernel
theorem dX4_load_137 : decode cX4_load 137 = .ok (.iload_n 2, 1) := by decide +kernel
theorem dX4_load_138 : decode cX4_load 138 = .ok (.sipush 4800, 3) := by decide +kernel
theorem dX4_load_141 : decode cX4_load 141 = .ok (.if_icmp .ge 27, 3) := by decide +kernel
theorem dX4_load_144 : decode cX4_load 144 = .ok (.aload_n 0, 1) := by decide +kernel
theorem dX4_load_145 : decode cX4_load 145 = .ok (.getfield 31, 3) := by decide +kernel
theorem dX4_load_148 : decode cX4_load 148 = .ok (.iload_n 2, 1) := by decide +kernel
theorem dX4_load_149 : decode cX4_load 149 = .ok (.aload_n 0, 1) := by decide +kernel
theorem dX4_load_150 : decode cX4_load 150 = .ok (.getfield 55, 3) := by decide +kernel
theorem dX4_load_153 : decode cX4_load 153 = .ok (.sipush 5400, 3) := by decide +kernel
theorem dX4_load_156 : decode cX4_load 156 = .ok (.iload_n 1, 1) := by decide +kernel
theorem dX4_load_157 : decode cX4_load 157 = .ok (.imul, 1) := by decide +kernel
theorem dX4_load_158 : decode cX4_load 158 = .ok (.iload_n 2, 1) := by decide +kernel
theorem dX4_load_159 : decode cX4_load 159 = .ok (.iadd, 1) := by decide +kernel
theorem dX4_load_160 : decode cX4_load 160 = .ok (.laload, 1) := by decide +kernel
theorem dX4_load_161 : decode cX4_load 161 = .ok (.lastore, 1) := by decide +kernel
theorem dX4_load_162 : decode cX4_load 162 = .ok (.iinc 2 1, 3) := by decide +kernel
theorem dX4_load_165 : decode cX4_load 165 = .ok (.goto (-28), 3) := by decide +kernel
theorem dX4_load_168 : decode cX4_load 168 = .ok (.iconst 0, 1) := by decide +kernel
theorem dX4_load_169 : decode cX4_load 169 = .ok (.istore_n 2, 1) := by decide +kernel
theorem dX4_load_170 : decode cX4_load 170 = .ok (.iload_n 2, 1) := by decide +kernel
theorem dX4_load_171 : decode cX4_load 171 = .ok (.sipush 600, 3) := by decide +kernel
theorem dX4_load_174 : decode cX4_load 174 = .ok (.if_icmp .ge 31, 3) := by decide +kernel
theorem dX4_load_177 : decode cX4_load 177 = .ok (.aload_n 0, 1) := by decide +kernel
theorem dX4_load_178 : decode cX4_load 178 = .ok (.getfield 35, 3) := by decide +kernel
theorem dX4_load_181 : decode cX4_load 181 = .ok (.iload_n 2, 1) := by decide +kernel
theorem dX4_load_182 : decode cX4_load 182 = .ok (.aload_n 0, 1) := by decide +kernel
theorem dX4_load_183 : decode cX4_load 183 = .ok (.getfield 55, 3) := by decide +kernel
theorem dX4_load_186 : decode cX4_load 186 = .ok (.sipush 5400, 3) := by decide +kernel
theorem dX4_load_189 : decode cX4_load 189 = .ok (.iload_n 1, 1) := by decide +kernel
theorem dX4_load_190 : decode cX4_load 190 = .ok (.imul, 1) := by decide +kernel
theorem dX4_load_191 : decode cX4_load 191 = .ok (.sipush 4800, 3) := by decide +kernel
theorem dX4_load_194 : decode cX4_load 194 = .ok (.iadd, 1) := by decide +kernel
theorem dX4_load_195 : decode cX4_load 195 = .ok (.iload_n 2, 1) := by decide +kernel
theorem dX4_load_196 : decode cX4_load 196 = .ok (.iadd, 1) := by decide +kernel
theorem dX4_load_197 : decode cX4_load 197 = .ok (.laload, 1) := by decide +kernel
theorem dX4_load_198 : decode cX4_load 198 = .ok (.lastore, 1) := by decide +kernel
theorem dX4_load_199 : decode cX4_load 199 = .ok (.iinc 2 1, 3) := by decide +kernel
theorem dX4_load_202 : decode cX4_load 202 = .ok (.goto (-32), 3) := by decide +kernel
theorem dX4_load_205 : decode cX4_load 205 = .ok (.return_, 1) := by decide +kernel
def rmX4_load : Room := { frames := 1, cells := 0, slots := 0, locals := 23 }
noncomputable def f_X4_load_170 : Nat → Int32 → Int32 → MS → Option (MS)
  | 0, _, _, _ => none
  | n + 1, x1, x2, u => (if 600 ≤ x2 then some u else (if ix (((5400 * x1) + 4800) + x2) 48600 = true then (if ix x2 600 = true then f_X4_load_170 n x1 (x2 + 1) (mB u 10 (Int32.toNatClampNeg x2) (u.2.2 17 (Int32.toNatClampNeg (((5400 * x1) + 4800) + x2)))) else none) else none))
noncomputable def f_X4_load_137 : Nat → Int32 → Int32 → MS → Option (MS)
  | 0, _, _, _ => none
  | n + 1, x1, x2, u => (if 4800 ≤ x2 then f_X4_load_170 NF x1 0 u else (if ix ((5400 * x1) + x2) 48600 = true then (if ix x2 4800 = true then f_X4_load_137 n x1 (x2 + 1) (mB u 9 (Int32.toNatClampNeg x2) (u.2.2 17 (Int32.toNatClampNeg ((5400 * x1) + x2)))) else none) else none))
noncomputable def f_X4_load (x1 : Int32) (u : MS) : Option (MS) := (f_X4_read_a2 8 (mF u 20 (10940 * x1))).bind (fun z1 => (f_X4_read_a3 8 z1).bind (fun z3 => (f_X4_read_a4 8 z3).bind (fun z5 => (f_X4_read_a5 8 z5).bind (fun z7 => (f_X4_read_a6 8 z7).bind (fun z9 => (f_X4_read_a7 4800 z9).bind (fun z11 => (f_X4_read_a8 4800 z11).bind (fun z13 => (f_X4_read_a11 600 z13).bind (fun z15 => (f_X4_read_a12 20 z15).bind (fun z17 => (f_X4_read_a13 20 z17).bind (fun z19 => (f_X4_read_a14 20 z19).bind (fun z21 => (if ix (z21.1 20) 98460 = true then f_X4_load_137 NF x1 0 (mF z21 15 (z21.2.1 16 (Int32.toNatClampNeg (z21.1 20)))) else none))))))))))))
section
variable {p : Program} {l : Launch} {e : Env} {s : State} {m : MethodId} {args : Array Value} {below : List Frame} {meth : Method} {c : Code}
variable {G : GX} {A : Nat → Prop} {ad : Nat → Nat}
set_option maxHeartbeats 4000000 in
set_option maxRecDepth 100000 in
theorem w_X4_load_170 (F : FX p m c cX4_load 3 s args yX4_load none RX4 meth) {z : MS} : ∀ (n : Nat) (x1 : Int32) (x2 : Int32) (u : MS) (H : Heap) (locs : List Loc) (ls : Array Slot), WD G A s (mw G ad u) H locs → lv_has ls 3 [(0, .ref (ad 0)), (1, .int x1), (2, .int x2)] → f_X4_load_170 n x1 x2 u = some z → W p l e rmX4_load s m args below meth c H locs 0 0 (MQ below (QW G (mw G ad z) A none) args s 0 0 A) (F0 m 170 ls []) := by
  obtain ⟨⟨hx, hb, hml, hown, hts⟩, hr, hlocks⟩ := id F
  intro n
  induction n with
  | zero =>
    intro x1 x2 u H locs ls hw hl h
    rw [f_X4_load_170] at h
    cases h
  | succ n ih =>
    intro x1 x2 u H locs ls hw hl h
    rw [f_X4_load_170] at h
    refine lv_iload_n hx hb dX4_load_170 rfl (lv_at hl 2 rfl) ?_
    refine lv_sipush (v := 600) hx hb dX4_load_171 rfl ?_
    refine lv_icmp_ge (tgt := 205) hx hb dX4_load_174 rfl (fun c27 => ?_) (fun c27 => ?_)
    · replace h := itT h c27
      cases h
      exact retW_v F hw dX4_load_205
    · replace h := itF h c27
      refine lv_aload_n hx hb dX4_load_177 rfl (lv_at hl 0 rfl) ?_
      refine m_g10 F hw dX4_load_178 ?_
      refine lv_iload_n hx hb dX4_load_181 rfl (lv_at hl 2 rfl) ?_
      refine lv_aload_n hx hb dX4_load_182 rfl (lv_at hl 0 rfl) ?_
      refine m_g17 F hw dX4_load_183 ?_
      refine lv_sipush (v := 5400) hx hb dX4_load_186 rfl ?_
      refine lv_iload_n hx hb dX4_load_189 rfl (lv_at hl 1 rfl) ?_
      refine lv_imul hx hb dX4_load_190 ?_
      refine lv_sipush (v := 4800) hx hb dX4_load_191 rfl ?_
      refine lv_iadd hx hb dX4_load_194 ?_
      refine lv_iload_n hx hb dX4_load_195 rfl (lv_at hl 2 rfl) ?_
      refine lv_iadd hx hb dX4_load_196 ?_
      obtain ⟨g28, h⟩ := gd h
      refine m_l17 F hw g28 dX4_load_197 ?_
      obtain ⟨g29, h⟩ := gd h
      refine m_s10 F hw g29 dX4_load_198 (fun H locs hw => ?_)
      refine lv_iinc (v := (x2 + 1)) (lv' := [(2, .int (x2 + 1)), (0, .ref (ad 0)), (1, .int x1)]) hx hb dX4_load_199 hl (k := 2) rfl rfl (by decide) rfl (fun ls hl => ?_)
      refine lv_goto (tgt := 170) hx hb dX4_load_202 rfl ?_
      exact ih _ _ _ _ _ _ hw (lv_sub hl [1, 2, 0] rfl) h
set_option maxHeartbeats 4000000 in
set_option maxRecDepth 100000 in
theorem w_X4_load_137 (F : FX p m c cX4_load 3 s args yX4_load none RX4 meth) {z : MS} : ∀ (n : Nat) (x1 : Int32) (x2 : Int32) (u : MS) (H : Heap) (locs : List Loc) (ls : Array Slot), WD G A s (mw G ad u) H locs → lv_has ls 3 [(0, .ref (ad 0)), (1, .int x1), (2, .int x2)] → f_X4_load_137 n x1 x2 u = some z → W p l e rmX4_load s m args below meth c H locs 0 0 (MQ below (QW G (mw G ad z) A none) args s 0 0 A) (F0 m 137 ls []) := by
  obtain ⟨⟨hx, hb, hml, hown, hts⟩, hr, hlocks⟩ := id F
  intro n
  induction n with
  | zero =>
    intro x1 x2 u H locs ls hw hl h
    rw [f_X4_load_137] at h
    cases h
  | succ n ih =>
    intro x1 x2 u H locs ls hw hl h
    rw [f_X4_load_137] at h
    refine lv_iload_n hx hb dX4_load_137 rfl (lv_at hl 2 rfl) ?_
    refine lv_sipush (v := 4800) hx hb dX4_load_138 rfl ?_
    refine lv_icmp_ge (tgt := 168) hx hb dX4_load_141 rfl (fun c24 => ?_) (fun c24 => ?_)
    · replace h := itT h c24
      refine lv_iconst (v := 0) hx hb dX4_load_168 rfl ?_
      refine lv_istore_n (lv' := [(2, .int 0), (0, .ref (ad 0)), (1, .int x1)]) hx hb dX4_load_169 rfl hl (by decide) rfl (fun ls hl => ?_)
      exact w_X4_load_170 F NF _ _ _ _ _ _ hw (lv_sub hl [1, 2, 0] rfl) h
    · replace h := itF h c24
      refine lv_aload_n hx hb dX4_load_144 rfl (lv_at hl 0 rfl) ?_
      refine m_g9 F hw dX4_load_145 ?_
      refine lv_iload_n hx hb dX4_load_148 rfl (lv_at hl 2 rfl) ?_
      refine lv_aload_n hx hb dX4_load_149 rfl (lv_at hl 0 rfl) ?_
      refine m_g17 F hw dX4_load_150 ?_
      refine lv_sipush (v := 5400) hx hb dX4_load_153 rfl ?_
      refine lv_iload_n hx hb dX4_load_156 rfl (lv_at hl 1 rfl) ?_
      refine lv_imul hx hb dX4_load_157 ?_
      refine lv_iload_n hx hb dX4_load_158 rfl (lv_at hl 2 rfl) ?_
      refine lv_iadd hx hb dX4_load_159 ?_
      obtain ⟨g25, h⟩ := gd h
      refine m_l17 F hw g25 dX4_load_160 ?_
      obtain ⟨g26, h⟩ := gd h
      refine m_s9 F hw g26 dX4_load_161 (fun H locs hw => ?_)
      refine lv_iinc (v := (x2 + 1)) (lv' := [(2, .int (x2 + 1)), (0, .ref (ad 0)), (1, .int x1)]) hx hb dX4_load_162 hl (k := 2) rfl rfl (by decide) rfl (fun ls hl => ?_)
      refine lv_goto (tgt := 137) hx hb dX4_load_165 rfl ?_
      exact ih _ _ _ _ _ _ hw (lv_sub hl [1, 2, 0] rfl) h
set_option maxHeartbeats 4000000 in
set_option maxRecDepth 100000 in
theorem w_X4_load_0 (F : FX p m c cX4_load 3 s args yX4_load none RX4 meth) {z : MS} : ∀ (x1 : Int32) (u : MS) (H : Heap) (locs : List Loc) (ls : Array Slot), WD G A s (mw G ad u) H locs → lv_has ls 3 [(0, .ref (ad 0)), (1, .int x1)] → f_X4_load x1 u = some z → W p l e rmX4_load s m args below meth c H locs 0 0 (MQ below (QW G (mw G ad z) A none) args s 0 0 A) (F0 m 0 ls []) := by
  obtain ⟨⟨hx, hb, hml, hown, hts⟩, hr, hlocks⟩ := id F
  intro x1 u H locs ls hw hl h
  unfold f_X4_load at h
  refine lv_aload_n hx hb dX4_load_0 rfl (lv_at hl 0 rfl) ?_
  refine lv_sipush (v := 10940) hx hb dX4_load_1 rfl ?_
  refine lv_iload_n hx hb dX4_load_4 rfl (lv_at hl 1 rfl) ?_
  refine lv_imul hx hb dX4_load_5 ?_
  refine m_p20 F hw dX4_load_6 (fun H locs hw => ?_)
  refine lv_aload_n hx hb dX4_load_9 rfl (lv_at hl 0 rfl) ?_
  refine lv_aload_n hx hb dX4_load_10 rfl (lv_at hl 0 rfl) ?_
  refine m_g2 F hw dX4_load_11 ?_
  refine lv_bipush (v := 8) hx hb dX4_load_14 rfl ?_
  obtain ⟨z1, e2, h⟩ := bnd h
  refine k_X4_read_a2 F hw e2 ⟨Nat.le_of_ble_eq_true rfl, Nat.le_of_ble_eq_true rfl⟩ ⟨Nat.zero_le _, Nat.zero_le _⟩ hl.1 (Nat.le_of_ble_eq_true rfl) dX4_load_16 (fun H locs hw => ?_)
  refine lv_aload_n hx hb dX4_load_19 rfl (lv_at hl 0 rfl) ?_
  refine lv_aload_n hx hb dX4_load_20 rfl (lv_at hl 0 rfl) ?_
  refine m_g3 F hw dX4_load_21 ?_
  refine lv_bipush (v := 8) hx hb dX4_load_24 rfl ?_
  obtain ⟨z3, e4, h⟩ := bnd h
  refine k_X4_read_a3 F hw e4 ⟨Nat.le_of_ble_eq_true rfl, Nat.le_of_ble_eq_true rfl⟩ ⟨Nat.zero_le _, Nat.zero_le _⟩ hl.1 (Nat.le_of_ble_eq_true rfl) dX4_load_26 (fun H locs hw => ?_)
  refine lv_aload_n hx hb dX4_load_29 rfl (lv_at hl 0 rfl) ?_
  refine lv_aload_n hx hb dX4_load_30 rfl (lv_at hl 0 rfl) ?_
  refine m_g4 F hw dX4_load_31 ?_
  refine lv_bipush (v := 8) hx hb dX4_load_34 rfl ?_
  obtain ⟨z5, e6, h⟩ := bnd h
  refine k_X4_read_a4 F hw e6 ⟨Nat.le_of_ble_eq_true rfl, Nat.le_of_ble_eq_true rfl⟩ ⟨Nat.zero_le _, Nat.zero_le _⟩ hl.1 (Nat.le_of_ble_eq_true rfl) dX4_load_36 (fun H locs hw => ?_)
  refine lv_aload_n hx hb dX4_load_39 rfl (lv_at hl 0 rfl) ?_
  refine lv_aload_n hx hb dX4_load_40 rfl (lv_at hl 0 rfl) ?_
  refine m_g5 F hw dX4_load_41 ?_
  refine lv_bipush (v := 8) hx hb dX4_load_44 rfl ?_
  obtain ⟨z7, e8, h⟩ := bnd h
  refine k_X4_read_a5 F hw e8 ⟨Nat.le_of_ble_eq_true rfl, Nat.le_of_ble_eq_true rfl⟩ ⟨Nat.zero_le _, Nat.zero_le _⟩ hl.1 (Nat.le_of_ble_eq_true rfl) dX4_load_46 (fun H locs hw => ?_)
  refine lv_aload_n hx hb dX4_load_49 rfl (lv_at hl 0 rfl) ?_
  refine lv_aload_n hx hb dX4_load_50 rfl (lv_at hl 0 rfl) ?_
  refine m_g6 F hw dX4_load_51 ?_
  refine lv_bipush (v := 8) hx hb dX4_load_54 rfl ?_
  obtain ⟨z9, e10, h⟩ := bnd h
  refine k_X4_read_a6 F hw e10 ⟨Nat.le_of_ble_eq_true rfl, Nat.le_of_ble_eq_true rfl⟩ ⟨Nat.zero_le _, Nat.zero_le _⟩ hl.1 (Nat.le_of_ble_eq_true rfl) dX4_load_56 (fun H locs hw => ?_)
  refine lv_aload_n hx hb dX4_load_59 rfl (lv_at hl 0 rfl) ?_
  refine lv_aload_n hx hb dX4_load_60 rfl (lv_at hl 0 rfl) ?_
  refine m_g7 F hw dX4_load_61 ?_
  refine lv_sipush (v := 4800) hx hb dX4_load_64 rfl ?_
  obtain ⟨z11, e12, h⟩ := bnd h
  refine k_X4_read_a7 F hw e12 ⟨Nat.le_of_ble_eq_true rfl, Nat.le_of_ble_eq_true rfl⟩ ⟨Nat.zero_le _, Nat.zero_le _⟩ hl.1 (Nat.le_of_ble_eq_true rfl) dX4_load_67 (fun H locs hw => ?_)
  refine lv_aload_n hx hb dX4_load_70 rfl (lv_at hl 0 rfl) ?_
  refine lv_aload_n hx hb dX4_load_71 rfl (lv_at hl 0 rfl) ?_
  refine m_g8 F hw dX4_load_72 ?_
  refine lv_sipush (v := 4800) hx hb dX4_load_75 rfl ?_
  obtain ⟨z13, e14, h⟩ := bnd h
  refine k_X4_read_a8 F hw e14 ⟨Nat.le_of_ble_eq_true rfl, Nat.le_of_ble_eq_true rfl⟩ ⟨Nat.zero_le _, Nat.zero_le _⟩ hl.1 (Nat.le_of_ble_eq_true rfl) dX4_load_78 (fun H locs hw => ?_)
  refine lv_aload_n hx hb dX4_load_81 rfl (lv_at hl 0 rfl) ?_
  refine lv_aload_n hx hb dX4_load_82 rfl (lv_at hl 0 rfl) ?_
  refine m_g11 F hw dX4_load_83 ?_
  refine lv_sipush (v := 600) hx hb dX4_load_86 rfl ?_
  obtain ⟨z15, e16, h⟩ := bnd h
  refine k_X4_read_a11 F hw e16 ⟨Nat.le_of_ble_eq_true rfl, Nat.le_of_ble_eq_true rfl⟩ ⟨Nat.zero_le _, Nat.zero_le _⟩ hl.1 (Nat.le_of_ble_eq_true rfl) dX4_load_89 (fun H locs hw => ?_)
  refine lv_aload_n hx hb dX4_load_92 rfl (lv_at hl 0 rfl) ?_
  refine lv_aload_n hx hb dX4_load_93 rfl (lv_at hl 0 rfl) ?_
  refine m_g12 F hw dX4_load_94 ?_
  refine lv_bipush (v := 20) hx hb dX4_load_97 rfl ?_
  obtain ⟨z17, e18, h⟩ := bnd h
  refine k_X4_read_a12 F hw e18 ⟨Nat.le_of_ble_eq_true rfl, Nat.le_of_ble_eq_true rfl⟩ ⟨Nat.zero_le _, Nat.zero_le _⟩ hl.1 (Nat.le_of_ble_eq_true rfl) dX4_load_99 (fun H locs hw => ?_)
  refine lv_aload_n hx hb dX4_load_102 rfl (lv_at hl 0 rfl) ?_
  refine lv_aload_n hx hb dX4_load_103 rfl (lv_at hl 0 rfl) ?_
  refine m_g13 F hw dX4_load_104 ?_
  refine lv_bipush (v := 20) hx hb dX4_load_107 rfl ?_
  obtain ⟨z19, e20, h⟩ := bnd h
  refine k_X4_read_a13 F hw e20 ⟨Nat.le_of_ble_eq_true rfl, Nat.le_of_ble_eq_true rfl⟩ ⟨Nat.zero_le _, Nat.zero_le _⟩ hl.1 (Nat.le_of_ble_eq_true rfl) dX4_load_109 (fun H locs hw => ?_)
  refine lv_aload_n hx hb dX4_load_112 rfl (lv_at hl 0 rfl) ?_
  refine lv_aload_n hx hb dX4_load_113 rfl (lv_at hl 0 rfl) ?_
  refine m_g14 F hw dX4_load_114 ?_
  refine lv_bipush (v := 20) hx hb dX4_load_117 rfl ?_
  obtain ⟨z21, e22, h⟩ := bnd h
  refine k_X4_read_a14 F hw e22 ⟨Nat.le_of_ble_eq_true rfl, Nat.le_of_ble_eq_true rfl⟩ ⟨Nat.zero_le _, Nat.zero_le _⟩ hl.1 (Nat.le_of_ble_eq_true rfl) dX4_load_119 (fun H locs hw => ?_)
  refine lv_aload_n hx hb dX4_load_122 rfl (lv_at hl 0 rfl) ?_
  refine lv_aload_n hx hb dX4_load_123 rfl (lv_at hl 0 rfl) ?_
  refine m_g16 F hw dX4_load_124 ?_
  refine lv_aload_n hx hb dX4_load_127 rfl (lv_at hl 0 rfl) ?_
  refine m_g20 F hw dX4_load_128 ?_
  obtain ⟨g23, h⟩ := gd h
  refine m_l16 F hw g23 dX4_load_131 ?_
  refine m_p15 F hw dX4_load_132 (fun H locs hw => ?_)
  refine lv_iconst (v := 0) hx hb dX4_load_135 rfl ?_
  refine lv_istore_n (lv' := [(2, .int 0), (0, .ref (ad 0)), (1, .int x1)]) hx hb dX4_load_136 rfl hl (by decide) rfl (fun ls hl => ?_)
  exact w_X4_load_137 F NF _ _ _ _ _ _ hw (lv_sub hl [1, 2, 0] rfl) h
end
theorem c_X4_load {l : Launch} {G : GX} {ad : Nat → Nat} {x1 : Int32} {u : MS} {z : MS} (h : f_X4_load x1 u = some z) : MW l yX4_load cX4_load 3 none rmX4_load G (mw G ad u) (mw G ad z) [.ref (ad 0), .int x1] none := MW.of (by decide) (Nat.le_of_ble_eq_true rfl) (fun p e s m below meth c ls F hw hl => w_X4_load_0 F _ _ _ _ _ hw hl h)
theorem yv_X4_load : YV RX4 89 yX4_load cX4_load 3 none 1 := ⟨(tw 594 (by decide +kernel) rfl), (tw 6 (by decide +kernel) rfl), (tw 591 (by decide +kernel) rfl), (tw 593 (by decide +kernel) rfl), (tp 11 (by decide +kernel) rfl), by decide +kernel⟩
theorem k_X4_load {p : Program} {l : Launch} {e : Env} {R : Room} {s : State} {m : MethodId} {args : Array Value} {below : List Frame} {meth : Method} {c : Code} {H : Heap} {locs : List Loc} {cells slots : Nat} {Q : State → Prop} {G : GX} {A : Nat → Prop} {ad : Nat → Nat} {cc : ByteArray} {nL pc : Nat} {y0 : MethodName} {ret0 : Option FieldType} {ls : Array Slot} {rest : List Value} {u : MS} {x1 : Int32} {z : MS} (F : FX p m c cc nL s args y0 ret0 RX4 meth) (hw : WD G A s (mw G ad u) H locs) (h : f_X4_load x1 u = some z) (hR : rmX4_load.frames + 1 ≤ R.frames ∧ 8 + (3 + 11) + rmX4_load.locals ≤ R.locals) (hcs : cells ≤ R.cells ∧ slots ≤ R.slots) (hsz : ls.size = nL) (hW : (rest.map fun v => v.category).sum ≤ 8) (hdg : decode cc pc = .ok (.invokevirtual 89, 3)) (kk : ∀ (H : Heap) (locs : List Loc), WD G A s (mw G ad z) H locs → W p l e R s m args below meth c H locs cells slots Q (F0 m (pc + 3) ls (rest))) : W p l e R s m args below meth c H locs cells slots Q (F0 m pc ls (.int x1 :: .ref (ad 0) :: rest)) := callW (runV F yv_X4_load (c_X4_load h) hw.1 hw.2.1 hw.2.2.1 rfl rfl rfl ⟨rfl, rfl⟩ hR hcs rfl hsz rfl hW hdg) hw.2.2.2 hw.2.2.1.own_in (fun H1 l1 hP _ hS => kk H1 l1 ⟨hw.1, hP, hw.2.2.1.addr rfl, hS⟩)
/-! ===== X4_keep ===== -/
theorem dX4_keep_0 : decode cX4_keep 0 = .ok (.iconst 0, 1) := by decide +kernel
theorem dX4_keep_1 : decode cX4_keep 1 = .ok (.istore_n 1, 1) := by decide +kernel
theorem dX4_keep_2 : decode cX4_keep 2 = .ok (.iload_n 1, 1) := by decide +kernel
theorem dX4_keep_3 : decode cX4_keep 3 = .ok (.sipush 10940, 3) := by decide +kernel
theorem dX4_keep_6 : decode cX4_keep 6 = .ok (.if_icmp .ge 33, 3) := by decide +kernel
theorem dX4_keep_9 : decode cX4_keep 9 = .ok (.aload_n 0, 1) := by decide +kernel
theorem dX4_keep_10 : decode cX4_keep 10 = .ok (.getfield 51, 3) := by decide +kernel
theorem dX4_keep_13 : decode cX4_keep 13 = .ok (.sipush 10940, 3) := by decide +kernel
theorem dX4_keep_16 : decode cX4_keep 16 = .ok (.aload_n 0, 1) := by decide +kernel
theorem dX4_keep_17 : decode cX4_keep 17 = .ok (.getfield 81, 3) := by decide +kernel
theorem dX4_keep_20 : decode cX4_keep 20 = .ok (.imul, 1) := by decide +kernel
theorem dX4_keep_21 : decode cX4_keep 21 = .ok (.iload_n 1, 1) := by decide +kernel
theorem dX4_keep_22 : decode cX4_keep 22 = .ok (.iadd, 1) := by decide +kernel
theorem dX4_keep_23 : decode cX4_keep 23 = .ok (.aload_n 0, 1) := by decide +kernel
theorem dX4_keep_24 : decode cX4_keep 24 = .ok (.getfield 51, 3) := by decide +kernel
theorem dX4_keep_27 : decode cX4_keep 27 = .ok (.ldc 84, 2) := by decide +kernel
theorem dX4_keep_29 : decode cX4_keep 29 = .ok (.iload_n 1, 1) := by decide +kernel
theorem dX4_keep_30 : decode cX4_keep 30 = .ok (.iadd, 1) := by decide +kernel
theorem dX4_keep_31 : decode cX4_keep 31 = .ok (.iaload, 1) := by decide +kernel
theorem dX4_keep_32 : decode cX4_keep 32 = .ok (.iastore, 1) := by decide +kernel
theorem dX4_keep_33 : decode cX4_keep 33 = .ok (.iinc 1 1, 3) := by decide +kernel
theorem dX4_keep_36 : decode cX4_keep 36 = .ok (.goto (-34), 3) := by decide +kernel
theorem dX4_keep_39 : decode cX4_keep 39 = .ok (.iconst 0, 1) := by decide +kernel
theorem dX4_keep_40 : decode cX4_keep 40 = .ok (.istore_n 1, 1) := by decide +kernel
theorem dX4_keep_41 : decode cX4_keep 41 = .ok (.iload_n 1, 1) := by decide +kernel
theorem dX4_keep_42 : decode cX4_keep 42 = .ok (.sipush 5400, 3) := by decide +kernel
theorem dX4_keep_45 : decode cX4_keep 45 = .ok (.if_icmp .ge 33, 3) := by decide +kernel
theorem dX4_keep_48 : decode cX4_keep 48 = .ok (.aload_n 0, 1) := by decide +kernel
theorem dX4_keep_49 : decode cX4_keep 49 = .ok (.getfield 55, 3) := by decide +kernel
theorem dX4_keep_52 : decode cX4_keep 52 = .ok (.sipush 5400, 3) := by decide +kernel
theorem dX4_keep_55 : decode cX4_keep 55 = .ok (.aload_n 0, 1) := by decide +kernel
theorem dX4_keep_56 : decode cX4_keep 56 = .ok (.getfield 81, 3) := by decide +kernel
theorem dX4_keep_59 : decode cX4_keep 59 = .ok (.imul, 1) := by decide +kernel
theorem dX4_keep_60 : decode cX4_keep 60 = .ok (.iload_n 1, 1) := by decide +kernel
theorem dX4_keep_61 : decode cX4_keep 61 = .ok (.iadd, 1) := by decide +kernel
theorem dX4_keep_62 : decode cX4_keep 62 = .ok (.aload_n 0, 1) := by decide +kernel
theorem dX4_keep_63 : decode cX4_keep 63 = .ok (.getfield 55, 3) := by decide +kernel
theorem dX4_keep_66 : decode cX4_keep 66 = .ok (.ldc 85, 2) := by decide +kernel
theorem dX4_keep_68 : decode cX4_keep 68 = .ok (.iload_n 1, 1) := by decide +kernel
theorem dX4_keep_69 : decode cX4_keep 69 = .ok (.iadd, 1) := by decide +kernel
theorem dX4_keep_70 : decode cX4_keep 70 = .ok (.laload, 1) := by decide +kernel
theorem dX4_keep_71 : decode cX4_keep 71 = .ok (.lastore, 1) := by decide +kernel
theorem dX4_keep_72 : decode cX4_keep 72 = .ok (.iinc 1 1, 3) := by decide +kernel
theorem dX4_keep_75 : decode cX4_keep 75 = .ok (.goto (-34), 3) := by decide +kernel
theorem dX4_keep_78 : decode cX4_keep 78 = .ok (.aload_n 0, 1) := by decide +kernel
theorem dX4_keep_79 : decode cX4_keep 79 = .ok (.aload_n 0, 1) := by decide +kernel
theorem dX4_keep_80 : decode cX4_keep 80 = .ok (.getfield 81, 3) := by decide +kernel
theorem dX4_keep_83 : decode cX4_keep 83 = .ok (.iconst 1, 1) := by decide +kernel
theorem dX4_keep_84 : decode cX4_keep 84 = .ok (.iadd, 1) := by decide +kernel
theorem dX4_keep_85 : decode cX4_keep 85 = .ok (.bipush 8, 2) := by decide +kernel
theorem dX4_keep_87 : decode cX4_keep 87 = .ok (.irem, 1) := by decide +kernel
theorem dX4_keep_88 : decode cX4_keep 88 = .ok (.putfield 81, 3) := by decide +kernel
theorem dX4_keep_91 : decode cX4_keep 91 = .ok (.aload_n 0, 1) := by decide +kernel
theorem dX4_keep_92 : decode cX4_keep 92 = .ok (.aload_n 0, 1) := by decide +kernel
theorem dX4_keep_93 : decode cX4_keep 93 = .ok (.getfield 86, 3) := by decide +kernel
theorem dX4_keep_96 : decode cX4_keep 96 = .ok (.bipush 8, 2) := by decide +kernel
theorem dX4_keep_98 : decode cX4_keep 98 = .ok (.if_icmp .ge 12, 3) := by decide +kernel
theorem dX4_keep_101 : decode cX4_keep 101 = .ok (.aload_n 0, 1) := by decide +kernel
theorem dX4_keep_102 : decode cX4_keep 102 = .ok (.getfield 86, 3) := by decide +kernel
theorem dX4_keep_105 : decode cX4_keep 105 = .ok (.iconst 1, 1) := by decide +kernel
theorem dX4_keep_106 : decode cX4_keep 106 = .ok (.iadd, 1) := by decide +kernel
theorem dX4_keep_107 : decode cX4_keep 107 = .ok (.goto 5, 3) := by decide +kernel
theorem dX4_keep_110 : decode cX4_keep 110 = .ok (.bipush 8, 2) := by decide +kernel
theorem dX4_keep_112 : decode cX4_keep 112 = .ok (.putfield 86, 3) := by decide +kernel
theorem dX4_keep_115 : decode cX4_keep 115 = .ok (.return_, 1) := by decide +kernel
def rmX4_keep : Room := { frames := 0, cells := 0, slots := 0, locals := 0 }
noncomputable def f_X4_keep_41 : Nat → Int32 → MS → Option (MS)
  | 0, _, _ => none
  | n + 1, x1, u => (if 5400 ≤ x1 then (if 8 ≤ ((mF u 18 (((u.1 18) + 1) - ((u.1 18) + 1) / 8 * 8)).1 19) then some (mF (mF u 18 (((u.1 18) + 1) - ((u.1 18) + 1) / 8 * 8)) 19 8) else some (mF (mF u 18 (((u.1 18) + 1) - ((u.1 18) + 1) / 8 * 8)) 19 (((mF u 18 (((u.1 18) + 1) - ((u.1 18) + 1) / 8 * 8)).1 19) + 1))) else (if ix (43200 + x1) 48600 = true then (if ix ((5400 * (u.1 18)) + x1) 48600 = true then f_X4_keep_41 n (x1 + 1) (mB u 17 (Int32.toNatClampNeg ((5400 * (u.1 18)) + x1)) (u.2.2 17 (Int32.toNatClampNeg (43200 + x1)))) else none) else none))
noncomputable def f_X4_keep_2 : Nat → Int32 → MS → Option (MS)
  | 0, _, _ => none
  | n + 1, x1, u => (if 10940 ≤ x1 then f_X4_keep_41 NF 0 u else (if ix (87520 + x1) 98460 = true then (if ix ((10940 * (u.1 18)) + x1) 98460 = true then f_X4_keep_2 n (x1 + 1) (mA u 16 (Int32.toNatClampNeg ((10940 * (u.1 18)) + x1)) (u.2.1 16 (Int32.toNatClampNeg (87520 + x1)))) else none) else none))
noncomputable def f_X4_keep (u : MS) : Option (MS) := f_X4_keep_2 NF 0 u
section
variable {p : Program} {l : Launch} {e : Env} {s : State} {m : MethodId} {args : Array Value} {below : List Frame} {meth : Method} {c : Code}
variable {G : GX} {A : Nat → Prop} {ad : Nat → Nat}
set_option maxHeartbeats 4000000 in
set_option maxRecDepth 100000 in
theorem w_X4_keep_41 (F : FX p m c cX4_keep 2 s args yX4_keep none RX4 meth) {z : MS} : ∀ (n : Nat) (x1 : Int32) (u : MS) (H : Heap) (locs : List Loc) (ls : Array Slot), WD G A s (mw G ad u) H locs → lv_has ls 2 [(0, .ref (ad 0)), (1, .int x1)] → f_X4_keep_41 n x1 u = some z → W p l e rmX4_keep s m args below meth c H locs 0 0 (MQ below (QW G (mw G ad z) A none) args s 0 0 A) (F0 m 41 ls []) := by
  obtain ⟨⟨hx, hb, hml, hown, hts⟩, hr, hlocks⟩ := id F
  intro n
  induction n with
  | zero =>
    intro x1 u H locs ls hw hl h
    rw [f_X4_keep_41] at h
    cases h
  | succ n ih =>
    intro x1 u H locs ls hw hl h
    rw [f_X4_keep_41] at h
    refine lv_iload_n hx hb dX4_keep_41 rfl (lv_at hl 1 rfl) ?_
    refine lv_sipush (v := 5400) hx hb dX4_keep_42 rfl ?_
    refine lv_icmp_ge (tgt := 78) hx hb dX4_keep_45 rfl (fun c4 => ?_) (fun c4 => ?_)
    · replace h := itT h c4
      refine lv_aload_n hx hb dX4_keep_78 rfl (lv_at hl 0 rfl) ?_
      refine lv_aload_n hx hb dX4_keep_79 rfl (lv_at hl 0 rfl) ?_
      refine m_g18 F hw dX4_keep_80 ?_
      refine lv_iconst (v := 1) hx hb dX4_keep_83 rfl ?_
      refine lv_iadd hx hb dX4_keep_84 ?_
      refine lv_bipush (v := 8) hx hb dX4_keep_85 rfl ?_
      refine lv_irem hx hb dX4_keep_87 (by decide) ?_
      refine m_p18 F hw dX4_keep_88 (fun H locs hw => ?_)
      refine lv_aload_n hx hb dX4_keep_91 rfl (lv_at hl 0 rfl) ?_
      refine lv_aload_n hx hb dX4_keep_92 rfl (lv_at hl 0 rfl) ?_
      refine m_g19 F hw dX4_keep_93 ?_
      refine lv_bipush (v := 8) hx hb dX4_keep_96 rfl ?_
      refine lv_icmp_ge (tgt := 110) hx hb dX4_keep_98 rfl (fun c5 => ?_) (fun c5 => ?_)
      · replace h := itT h c5
        refine lv_bipush (v := 8) hx hb dX4_keep_110 rfl ?_
        refine m_p19 F hw dX4_keep_112 (fun H locs hw => ?_)
        cases h
        exact retW_v F hw dX4_keep_115
      · replace h := itF h c5
        refine lv_aload_n hx hb dX4_keep_101 rfl (lv_at hl 0 rfl) ?_
        refine m_g19 F hw dX4_keep_102 ?_
        refine lv_iconst (v := 1) hx hb dX4_keep_105 rfl ?_
        refine lv_iadd hx hb dX4_keep_106 ?_
        refine lv_goto (tgt := 112) hx hb dX4_keep_107 rfl ?_
        refine m_p19 F hw dX4_keep_112 (fun H locs hw => ?_)
        cases h
        exact retW_v F hw dX4_keep_115
    · replace h := itF h c4
      refine lv_aload_n hx hb dX4_keep_48 rfl (lv_at hl 0 rfl) ?_
      refine m_g17 F hw dX4_keep_49 ?_
      refine lv_sipush (v := 5400) hx hb dX4_keep_52 rfl ?_
      refine lv_aload_n hx hb dX4_keep_55 rfl (lv_at hl 0 rfl) ?_
      refine m_g18 F hw dX4_keep_56 ?_
      refine lv_imul hx hb dX4_keep_59 ?_
      refine lv_iload_n hx hb dX4_keep_60 rfl (lv_at hl 1 rfl) ?_
      refine lv_iadd hx hb dX4_keep_61 ?_
      refine lv_aload_n hx hb dX4_keep_62 rfl (lv_at hl 0 rfl) ?_
      refine m_g17 F hw dX4_keep_63 ?_
      refine lv_ldc (own := RX4) (v := 43200) hx hb hown (F.tb (tw 619 (by decide +kernel) rfl)) dX4_keep_66 ?_
      refine lv_iload_n hx hb dX4_keep_68 rfl (lv_at hl 1 rfl) ?_
      refine lv_iadd hx hb dX4_keep_69 ?_
      obtain ⟨g6, h⟩ := gd h
      refine m_l17 F hw g6 dX4_keep_70 ?_
      obtain ⟨g7, h⟩ := gd h
      refine m_s17 F hw g7 dX4_keep_71 (fun H locs hw => ?_)
      refine lv_iinc (v := (x1 + 1)) (lv' := [(1, .int (x1 + 1)), (0, .ref (ad 0))]) hx hb dX4_keep_72 hl (k := 1) rfl rfl (by decide) rfl (fun ls hl => ?_)
      refine lv_goto (tgt := 41) hx hb dX4_keep_75 rfl ?_
      exact ih _ _ _ _ _ hw (lv_sub hl [1, 0] rfl) h
set_option maxHeartbeats 4000000 in
set_option maxRecDepth 100000 in
theorem w_X4_keep_2 (F : FX p m c cX4_keep 2 s args yX4_keep none RX4 meth) {z : MS} : ∀ (n : Nat) (x1 : Int32) (u : MS) (H : Heap) (locs : List Loc) (ls : Array Slot), WD G A s (mw G ad u) H locs → lv_has ls 2 [(0, .ref (ad 0)), (1, .int x1)] → f_X4_keep_2 n x1 u = some z → W p l e rmX4_keep s m args below meth c H locs 0 0 (MQ below (QW G (mw G ad z) A none) args s 0 0 A) (F0 m 2 ls []) := by
  obtain ⟨⟨hx, hb, hml, hown, hts⟩, hr, hlocks⟩ := id F
  intro n
  induction n with
  | zero =>
    intro x1 u H locs ls hw hl h
    rw [f_X4_keep_2] at h
    cases h
  | succ n ih =>
    intro x1 u H locs ls hw hl h
    rw [f_X4_keep_2] at h
    refine lv_iload_n hx hb dX4_keep_2 rfl (lv_at hl 1 rfl) ?_
    refine lv_sipush (v := 10940) hx hb dX4_keep_3 rfl ?_
    refine lv_icmp_ge (tgt := 39) hx hb dX4_keep_6 rfl (fun c1 => ?_) (fun c1 => ?_)
    · replace h := itT h c1
      refine lv_iconst (v := 0) hx hb dX4_keep_39 rfl ?_
      refine lv_istore_n (lv' := [(1, .int 0), (0, .ref (ad 0))]) hx hb dX4_keep_40 rfl hl (by decide) rfl (fun ls hl => ?_)
      exact w_X4_keep_41 F NF _ _ _ _ _ hw (lv_sub hl [1, 0] rfl) h
    · replace h := itF h c1
      refine lv_aload_n hx hb dX4_keep_9 rfl (lv_at hl 0 rfl) ?_
      refine m_g16 F hw dX4_keep_10 ?_
      refine lv_sipush (v := 10940) hx hb dX4_keep_13 rfl ?_
      refine lv_aload_n hx hb dX4_keep_16 rfl (lv_at hl 0 rfl) ?_
      refine m_g18 F hw dX4_keep_17 ?_
      refine lv_imul hx hb dX4_keep_20 ?_
      refine lv_iload_n hx hb dX4_keep_21 rfl (lv_at hl 1 rfl) ?_
      refine lv_iadd hx hb dX4_keep_22 ?_
      refine lv_aload_n hx hb dX4_keep_23 rfl (lv_at hl 0 rfl) ?_
      refine m_g16 F hw dX4_keep_24 ?_
      refine lv_ldc (own := RX4) (v := 87520) hx hb hown (F.tb (tw 618 (by decide +kernel) rfl)) dX4_keep_27 ?_
      refine lv_iload_n hx hb dX4_keep_29 rfl (lv_at hl 1 rfl) ?_
      refine lv_iadd hx hb dX4_keep_30 ?_
      obtain ⟨g2, h⟩ := gd h
      refine m_l16 F hw g2 dX4_keep_31 ?_
      obtain ⟨g3, h⟩ := gd h
      refine m_s16 F hw g3 dX4_keep_32 (fun H locs hw => ?_)
      refine lv_iinc (v := (x1 + 1)) (lv' := [(1, .int (x1 + 1)), (0, .ref (ad 0))]) hx hb dX4_keep_33 hl (k := 1) rfl rfl (by decide) rfl (fun ls hl => ?_)
      refine lv_goto (tgt := 2) hx hb dX4_keep_36 rfl ?_
      exact ih _ _ _ _ _ hw (lv_sub hl [1, 0] rfl) h
set_option maxHeartbeats 4000000 in
set_option maxRecDepth 100000 in
theorem w_X4_keep_0 (F : FX p m c cX4_keep 2 s args yX4_keep none RX4 meth) {z : MS} : ∀ (u : MS) (H : Heap) (locs : List Loc) (ls : Array Slot), WD G A s (mw G ad u) H locs → lv_has ls 2 [(0, .ref (ad 0))] → f_X4_keep u = some z → W p l e rmX4_keep s m args below meth c H locs 0 0 (MQ below (QW G (mw G ad z) A none) args s 0 0 A) (F0 m 0 ls []) := by
  obtain ⟨⟨hx, hb, hml, hown, hts⟩, hr, hlocks⟩ := id F
  intro u H locs ls hw hl h
  unfold f_X4_keep at h
  refine lv_iconst (v := 0) hx hb dX4_keep_0 rfl ?_
  refine lv_istore_n (lv' := [(1, .int 0), (0, .ref (ad 0))]) hx hb dX4_keep_1 rfl hl (by decide) rfl (fun ls hl => ?_)
  exact w_X4_keep_2 F NF _ _ _ _ _ hw (lv_sub hl [1, 0] rfl) h
end
theorem c_X4_keep {l : Launch} {G : GX} {ad : Nat → Nat} {u : MS} {z : MS} (h : f_X4_keep u = some z) : MW l yX4_keep cX4_keep 2 none rmX4_keep G (mw G ad u) (mw G ad z) [.ref (ad 0)] none := MW.of (by decide) (Nat.le_of_ble_eq_true rfl) (fun p e s m below meth c ls F hw hl => w_X4_keep_0 F  _ _ _ _ hw hl h)
theorem yv_X4_keep : YV RX4 107 yX4_keep cX4_keep 2 none 0 := ⟨(tw 617 (by decide +kernel) rfl), (tw 6 (by decide +kernel) rfl), (tw 614 (by decide +kernel) rfl), (tw 616 (by decide +kernel) rfl), (tp 15 (by decide +kernel) rfl), by decide +kernel⟩
theorem k_X4_keep {p : Program} {l : Launch} {e : Env} {R : Room} {s : State} {m : MethodId} {args : Array Value} {below : List Frame} {meth : Method} {c : Code} {H : Heap} {locs : List Loc} {cells slots : Nat} {Q : State → Prop} {G : GX} {A : Nat → Prop} {ad : Nat → Nat} {cc : ByteArray} {nL pc : Nat} {y0 : MethodName} {ret0 : Option FieldType} {ls : Array Slot} {rest : List Value} {u : MS} {z : MS} (F : FX p m c cc nL s args y0 ret0 RX4 meth) (hw : WD G A s (mw G ad u) H locs) (h : f_X4_keep u = some z) (hR : rmX4_keep.frames + 1 ≤ R.frames ∧ 8 + (2 + 11) + rmX4_keep.locals ≤ R.locals) (hcs : cells ≤ R.cells ∧ slots ≤ R.slots) (hsz : ls.size = nL) (hW : (rest.map fun v => v.category).sum ≤ 8) (hdg : decode cc pc = .ok (.invokevirtual 107, 3)) (kk : ∀ (H : Heap) (locs : List Loc), WD G A s (mw G ad z) H locs → W p l e R s m args below meth c H locs cells slots Q (F0 m (pc + 3) ls (rest))) : W p l e R s m args below meth c H locs cells slots Q (F0 m pc ls (.ref (ad 0) :: rest)) := callW (runV F yv_X4_keep (c_X4_keep h) hw.1 hw.2.1 hw.2.2.1 rfl rfl rfl ⟨rfl, rfl⟩ hR hcs rfl hsz rfl hW hdg) hw.2.2.2 hw.2.2.1.own_in (fun H1 l1 hP _ hS => kk H1 l1 ⟨hw.1, hP, hw.2.2.1.addr rfl, hS⟩)
/-! ===== X4_isRow ===== -/
theorem dX4_isRow_0 : decode cX4_isRow 0 = .ok (.iload_n 1, 1) := by decide +kernel
theorem dX4_isRow_1 : decode cX4_isRow 1 = .ok (.iconst 0, 1) := by decide +kernel
theorem dX4_isRow_2 : decode cX4_isRow 2 = .ok (.bipush 7, 2) := by decide +kernel
theorem dX4_isRow_4 : decode cX4_isRow 4 = .ok (.invokestatic 93, 3) := by decide +kernel
theorem dX4_isRow_7 : decode cX4_isRow 7 = .ok (.ifCond .eq 17, 3) := by decide +kernel
theorem dX4_isRow_10 : decode cX4_isRow 10 = .ok (.aload_n 0, 1) := by decide +kernel
theorem dX4_isRow_11 : decode cX4_isRow 11 = .ok (.getfield 7, 3) := by decide +kernel
theorem dX4_isRow_14 : decode cX4_isRow 14 = .ok (.iload_n 1, 1) := by decide +kernel
theorem dX4_isRow_15 : decode cX4_isRow 15 = .ok (.iaload, 1) := by decide +kernel
theorem dX4_isRow_16 : decode cX4_isRow 16 = .ok (.iconst (-1), 1) := by decide +kernel
theorem dX4_isRow_17 : decode cX4_isRow 17 = .ok (.if_icmp .eq 7, 3) := by decide +kernel
theorem dX4_isRow_20 : decode cX4_isRow 20 = .ok (.iconst 1, 1) := by decide +kernel
theorem dX4_isRow_21 : decode cX4_isRow 21 = .ok (.goto 4, 3) := by decide +kernel
theorem dX4_isRow_24 : decode cX4_isRow 24 = .ok (.iconst 0, 1) := by decide +kernel
theorem dX4_isRow_25 : decode cX4_isRow 25 = .ok (.ireturn, 1) := by decide +kernel
def rmX4_isRow : Room := { frames := 1, cells := 0, slots := 0, locals := 22 }
noncomputable def f_X4_isRow (x1 : Int32) (u : MS) : Option (Int32) := (f_X4_in x1 0 7).bind (fun z1 => (if z1 = 0 then some 0 else (if ix x1 8 = true then (if (u.2.1 2 (Int32.toNatClampNeg x1)) = (-1) then some 0 else some 1) else none)))
section
variable {p : Program} {l : Launch} {e : Env} {s : State} {m : MethodId} {args : Array Value} {below : List Frame} {meth : Method} {c : Code}
variable {G : GX} {A : Nat → Prop} {ad : Nat → Nat}
set_option maxHeartbeats 4000000 in
set_option maxRecDepth 100000 in
theorem w_X4_isRow_0 (F : FX p m c cX4_isRow 2 s args yX4_isRow (some .boolean) RX4 meth) {z : Int32} : ∀ (x1 : Int32) (u : MS) (ls : Array Slot), WD G A s (mw G ad u) s.heap [] → lv_has ls 2 [(0, .ref (ad 0)), (1, .int x1)] → f_X4_isRow x1 u = some z → W p l e rmX4_isRow s m args below meth c s.heap [] 0 0 (MQ below (QO (some (.int z))) args s 0 0 (fun _ => False)) (F0 m 0 ls []) := by
  obtain ⟨⟨hx, hb, hml, hown, hts⟩, hr, hlocks⟩ := id F
  intro x1 u ls hw hl h
  unfold f_X4_isRow at h
  refine lv_iload_n hx hb dX4_isRow_0 rfl (lv_at hl 1 rfl) ?_
  refine lv_iconst (v := 0) hx hb dX4_isRow_1 rfl ?_
  refine lv_bipush (v := 7) hx hb dX4_isRow_2 rfl ?_
  obtain ⟨z1, e2, h⟩ := bnd h
  refine k_X4_in F hw e2 ⟨Nat.le_of_ble_eq_true rfl, Nat.le_of_ble_eq_true rfl⟩ ⟨Nat.zero_le _, Nat.zero_le _⟩ hl.1 (Nat.le_of_ble_eq_true rfl) dX4_isRow_4 ?_
  refine lv_if_eq (tgt := 24) hx hb dX4_isRow_7 rfl (fun c3 => ?_) (fun c3 => ?_)
  · replace h := itT h c3
    refine lv_iconst (v := 0) hx hb dX4_isRow_24 rfl ?_
    cases h
    exact retO_z F rfl dX4_isRow_25
  · replace h := itF h c3
    refine lv_aload_n hx hb dX4_isRow_10 rfl (lv_at hl 0 rfl) ?_
    refine m_g2 F hw dX4_isRow_11 ?_
    refine lv_iload_n hx hb dX4_isRow_14 rfl (lv_at hl 1 rfl) ?_
    obtain ⟨g4, h⟩ := gd h
    refine m_l2 F hw g4 dX4_isRow_15 ?_
    refine lv_iconst (v := (-1)) hx hb dX4_isRow_16 rfl ?_
    refine lv_icmp_eq (tgt := 24) hx hb dX4_isRow_17 rfl (fun c5 => ?_) (fun c5 => ?_)
    · replace h := itT h c5
      refine lv_iconst (v := 0) hx hb dX4_isRow_24 rfl ?_
      cases h
      exact retO_z F rfl dX4_isRow_25
    · replace h := itF h c5
      refine lv_iconst (v := 1) hx hb dX4_isRow_20 rfl ?_
      refine lv_goto (tgt := 25) hx hb dX4_isRow_21 rfl ?_
      cases h
      exact retO_z F rfl dX4_isRow_25
end
theorem c_X4_isRow {l : Launch} {G : GX} {ad : Nat → Nat} {x1 : Int32} {u : MS} {z : Int32} (h : f_X4_isRow x1 u = some z) : MO l yX4_isRow cX4_isRow 2 (some .boolean) rmX4_isRow G (mw G ad u) [.ref (ad 0), .int x1] (some (.int z)) := MO.of (by decide) (Nat.le_of_ble_eq_true rfl) (fun p e s m below meth c ls F hw hl => w_X4_isRow_0 F _ _ _ hw hl h)
theorem yv_X4_isRow : YV RX4 186 yX4_isRow cX4_isRow 2 (some .boolean) 1 := ⟨(tw 627 (by decide +kernel) rfl), (tw 6 (by decide +kernel) rfl), (tw 624 (by decide +kernel) rfl), (tw 626 (by decide +kernel) rfl), (tp 16 (by decide +kernel) rfl), by decide +kernel⟩
theorem k_X4_isRow {p : Program} {l : Launch} {e : Env} {R : Room} {s : State} {m : MethodId} {args : Array Value} {below : List Frame} {meth : Method} {c : Code} {H : Heap} {locs : List Loc} {cells slots : Nat} {Q : State → Prop} {G : GX} {A : Nat → Prop} {ad : Nat → Nat} {cc : ByteArray} {nL pc : Nat} {y0 : MethodName} {ret0 : Option FieldType} {ls : Array Slot} {rest : List Value} {u : MS} {x1 : Int32} {z : Int32} (F : FX p m c cc nL s args y0 ret0 RX4 meth) (hw : WD G A s (mw G ad u) H locs) (h : f_X4_isRow x1 u = some z) (hR : rmX4_isRow.frames + 1 ≤ R.frames ∧ 8 + (2 + 11) + rmX4_isRow.locals ≤ R.locals) (hcs : cells ≤ R.cells ∧ slots ≤ R.slots) (hsz : ls.size = nL) (hW : (rest.map fun v => v.category).sum ≤ 8) (hdg : decode cc pc = .ok (.invokevirtual 186, 3)) (kk : W p l e R s m args below meth c H locs cells slots Q (F0 m (pc + 3) ls (.int z :: rest))) : W p l e R s m args below meth c H locs cells slots Q (F0 m pc ls (.int x1 :: .ref (ad 0) :: rest)) := callO (runV F yv_X4_isRow (c_X4_isRow h) hw.1 hw.2.1 hw.2.2.1 rfl rfl rfl ⟨rfl, rfl⟩ hR hcs rfl hsz rfl hW hdg) kk
/-! ===== X4_rowWith ===== -/
theorem dX4_rowWith_0 : decode cX4_rowWith 0 = .ok (.iconst 0, 1) := by decide +kernel
theorem dX4_rowWith_1 : decode cX4_rowWith 1 = .ok (.istore_n 2, 1) := by decide +kernel
theorem dX4_rowWith_2 : decode cX4_rowWith 2 = .ok (.iload_n 2, 1) := by decide +kernel
theorem dX4_rowWith_3 : decode cX4_rowWith 3 = .ok (.bipush 8, 2) := by decide +kernel
theorem dX4_rowWith_5 : decode cX4_rowWith 5 = .ok (.if_icmp .ge 55, 3) := by decide +kernel
theorem dX4_rowWith_8 : decode cX4_rowWith 8 = .ok (.iconst 0, 1) := by decide +kernel
theorem dX4_rowWith_9 : decode cX4_rowWith 9 = .ok (.istore_n 3, 1) := by decide +kernel
theorem dX4_rowWith_10 : decode cX4_rowWith 10 = .ok (.iload_n 3, 1) := by decide +kernel
theorem dX4_rowWith_11 : decode cX4_rowWith 11 = .ok (.aload_n 0, 1) := by decide +kernel
theorem dX4_rowWith_12 : decode cX4_rowWith 12 = .ok (.getfield 16, 3) := by decide +kernel
theorem dX4_rowWith_15 : decode cX4_rowWith 15 = .ok (.iload_n 2, 1) := by decide +kernel
theorem dX4_rowWith_16 : decode cX4_rowWith 16 = .ok (.iaload, 1) := by decide +kernel
theorem dX4_rowWith_17 : decode cX4_rowWith 17 = .ok (.if_icmp .ge 37, 3) := by decide +kernel
theorem dX4_rowWith_20 : decode cX4_rowWith 20 = .ok (.aload_n 0, 1) := by decide +kernel
theorem dX4_rowWith_21 : decode cX4_rowWith 21 = .ok (.getfield 7, 3) := by decide +kernel
theorem dX4_rowWith_24 : decode cX4_rowWith 24 = .ok (.iload_n 2, 1) := by decide +kernel
theorem dX4_rowWith_25 : decode cX4_rowWith 25 = .ok (.iaload, 1) := by decide +kernel
theorem dX4_rowWith_26 : decode cX4_rowWith 26 = .ok (.iconst (-1), 1) := by decide +kernel
theorem dX4_rowWith_27 : decode cX4_rowWith 27 = .ok (.if_icmp .eq 27, 3) := by decide +kernel
theorem dX4_rowWith_30 : decode cX4_rowWith 30 = .ok (.aload_n 0, 1) := by decide +kernel
theorem dX4_rowWith_31 : decode cX4_rowWith 31 = .ok (.getfield 25, 3) := by decide +kernel
theorem dX4_rowWith_34 : decode cX4_rowWith 34 = .ok (.sipush 600, 3) := by decide +kernel
theorem dX4_rowWith_37 : decode cX4_rowWith 37 = .ok (.iload_n 2, 1) := by decide +kernel
theorem dX4_rowWith_38 : decode cX4_rowWith 38 = .ok (.imul, 1) := by decide +kernel
theorem dX4_rowWith_39 : decode cX4_rowWith 39 = .ok (.iload_n 3, 1) := by decide +kernel
theorem dX4_rowWith_40 : decode cX4_rowWith 40 = .ok (.iadd, 1) := by decide +kernel
theorem dX4_rowWith_41 : decode cX4_rowWith 41 = .ok (.iaload, 1) := by decide +kernel
theorem dX4_rowWith_42 : decode cX4_rowWith 42 = .ok (.iload_n 1, 1) := by decide +kernel
theorem dX4_rowWith_43 : decode cX4_rowWith 43 = .ok (.if_icmp .ne 5, 3) := by decide +kernel
theorem dX4_rowWith_46 : decode cX4_rowWith 46 = .ok (.iload_n 2, 1) := by decide +kernel
theorem dX4_rowWith_47 : decode cX4_rowWith 47 = .ok (.ireturn, 1) := by decide +kernel
theorem dX4_rowWith_48 : decode cX4_rowWith 48 = .ok (.iinc 3 1, 3) := by decide +kernel
theorem dX4_rowWith_51 : decode cX4_rowWith 51 = .ok (.goto (-41), 3) := by decide +kernel
theorem dX4_rowWith_54 : decode cX4_rowWith 54 = .ok (.iinc 2 1, 3) := by decide +kernel
theorem dX4_rowWith_57 : decode cX4_rowWith 57 = .ok (.goto (-55), 3) := by decide +kernel
theorem dX4_rowWith_60 : decode cX4_rowWith 60 = .ok (.iconst (-1), 1) := by decide +kernel
theorem dX4_rowWith_61 : decode cX4_rowWith 61 = .ok (.ireturn, 1) := by decide +kernel
def rmX4_rowWith : Room := { frames := 0, cells := 0, slots := 0, locals := 0 }
noncomputable def f_X4_rowWith_10 (k_2 : Int32 → Int32 → MS → Option (Int32)) : Nat → Int32 → Int32 → Int32 → MS → Option (Int32)
  | 0, _, _, _, _ => none
  | n + 1, x1, x2, x3, u => (if ix x2 8 = true then (if (u.2.1 4 (Int32.toNatClampNeg x2)) ≤ x3 then k_2 x1 (x2 + 1) u else (if ix x2 8 = true then (if (u.2.1 2 (Int32.toNatClampNeg x2)) = (-1) then k_2 x1 (x2 + 1) u else (if ix ((600 * x2) + x3) 4800 = true then (if (u.2.1 7 (Int32.toNatClampNeg ((600 * x2) + x3))) = x1 then some x2 else f_X4_rowWith_10 k_2 n x1 x2 (x3 + 1) u) else none)) else none)) else none)
noncomputable def f_X4_rowWith_2 : Nat → Int32 → Int32 → MS → Option (Int32)
  | 0, _, _, _ => none
  | n + 1, x1, x2, u => (if 8 ≤ x2 then some (-1) else f_X4_rowWith_10 (f_X4_rowWith_2 n) NF x1 x2 0 u)
noncomputable def f_X4_rowWith (x1 : Int32) (u : MS) : Option (Int32) := f_X4_rowWith_2 NF x1 0 u
section
variable {p : Program} {l : Launch} {e : Env} {s : State} {m : MethodId} {args : Array Value} {below : List Frame} {meth : Method} {c : Code}
variable {G : GX} {A : Nat → Prop} {ad : Nat → Nat}
set_option maxHeartbeats 4000000 in
set_option maxRecDepth 100000 in
theorem w_X4_rowWith_10 (F : FX p m c cX4_rowWith 4 s args yX4_rowWith (some .int) RX4 meth) {z : Int32} (k_2 : Int32 → Int32 → MS → Option (Int32)) (hk_2 : ∀ (x1 : Int32) (x2 : Int32) (u : MS) (ls : Array Slot), WD G A s (mw G ad u) s.heap [] → lv_has ls 4 [(0, .ref (ad 0)), (1, .int x1), (2, .int x2)] → k_2 x1 x2 u = some z → W p l e rmX4_rowWith s m args below meth c s.heap [] 0 0 (MQ below (QO (some (.int z))) args s 0 0 (fun _ => False)) (F0 m 2 ls [])) : ∀ (n : Nat) (x1 : Int32) (x2 : Int32) (x3 : Int32) (u : MS) (ls : Array Slot), WD G A s (mw G ad u) s.heap [] → lv_has ls 4 [(0, .ref (ad 0)), (1, .int x1), (2, .int x2), (3, .int x3)] → f_X4_rowWith_10 k_2 n x1 x2 x3 u = some z → W p l e rmX4_rowWith s m args below meth c s.heap [] 0 0 (MQ below (QO (some (.int z))) args s 0 0 (fun _ => False)) (F0 m 10 ls []) := by
  obtain ⟨⟨hx, hb, hml, hown, hts⟩, hr, hlocks⟩ := id F
  intro n
  induction n with
  | zero =>
    intro x1 x2 x3 u ls hw hl h
    rw [f_X4_rowWith_10] at h
    cases h
  | succ n ih =>
    intro x1 x2 x3 u ls hw hl h
    rw [f_X4_rowWith_10] at h
    refine lv_iload_n hx hb dX4_rowWith_10 rfl (lv_at hl 3 rfl) ?_
    refine lv_aload_n hx hb dX4_rowWith_11 rfl (lv_at hl 0 rfl) ?_
    refine m_g4 F hw dX4_rowWith_12 ?_
    refine lv_iload_n hx hb dX4_rowWith_15 rfl (lv_at hl 2 rfl) ?_
    obtain ⟨g2, h⟩ := gd h
    refine m_l4 F hw g2 dX4_rowWith_16 ?_
    refine lv_icmp_ge (tgt := 54) hx hb dX4_rowWith_17 rfl (fun c3 => ?_) (fun c3 => ?_)
    · replace h := itT h c3
      refine lv_iinc (v := (x2 + 1)) (lv' := [(2, .int (x2 + 1)), (0, .ref (ad 0)), (1, .int x1), (3, .int x3)]) hx hb dX4_rowWith_54 hl (k := 2) rfl rfl (by decide) rfl (fun ls hl => ?_)
      refine lv_goto (tgt := 2) hx hb dX4_rowWith_57 rfl ?_
      exact hk_2 _ _ _ _ hw (lv_sub hl [1, 2, 0] rfl) h
    · replace h := itF h c3
      refine lv_aload_n hx hb dX4_rowWith_20 rfl (lv_at hl 0 rfl) ?_
      refine m_g2 F hw dX4_rowWith_21 ?_
      refine lv_iload_n hx hb dX4_rowWith_24 rfl (lv_at hl 2 rfl) ?_
      obtain ⟨g4, h⟩ := gd h
      refine m_l2 F hw g4 dX4_rowWith_25 ?_
      refine lv_iconst (v := (-1)) hx hb dX4_rowWith_26 rfl ?_
      refine lv_icmp_eq (tgt := 54) hx hb dX4_rowWith_27 rfl (fun c5 => ?_) (fun c5 => ?_)
      · replace h := itT h c5
        refine lv_iinc (v := (x2 + 1)) (lv' := [(2, .int (x2 + 1)), (0, .ref (ad 0)), (1, .int x1), (3, .int x3)]) hx hb dX4_rowWith_54 hl (k := 2) rfl rfl (by decide) rfl (fun ls hl => ?_)
        refine lv_goto (tgt := 2) hx hb dX4_rowWith_57 rfl ?_
        exact hk_2 _ _ _ _ hw (lv_sub hl [1, 2, 0] rfl) h
      · replace h := itF h c5
        refine lv_aload_n hx hb dX4_rowWith_30 rfl (lv_at hl 0 rfl) ?_
        refine m_g7 F hw dX4_rowWith_31 ?_
        refine lv_sipush (v := 600) hx hb dX4_rowWith_34 rfl ?_
        refine lv_iload_n hx hb dX4_rowWith_37 rfl (lv_at hl 2 rfl) ?_
        refine lv_imul hx hb dX4_rowWith_38 ?_
        refine lv_iload_n hx hb dX4_rowWith_39 rfl (lv_at hl 3 rfl) ?_
        refine lv_iadd hx hb dX4_rowWith_40 ?_
        obtain ⟨g6, h⟩ := gd h
        refine m_l7 F hw g6 dX4_rowWith_41 ?_
        refine lv_iload_n hx hb dX4_rowWith_42 rfl (lv_at hl 1 rfl) ?_
        refine lv_icmp_ne (tgt := 48) hx hb dX4_rowWith_43 rfl (fun c7 => ?_) (fun c7 => ?_)
        · replace h := itF h c7
          refine lv_iinc (v := (x3 + 1)) (lv' := [(3, .int (x3 + 1)), (0, .ref (ad 0)), (1, .int x1), (2, .int x2)]) hx hb dX4_rowWith_48 hl (k := 3) rfl rfl (by decide) rfl (fun ls hl => ?_)
          refine lv_goto (tgt := 10) hx hb dX4_rowWith_51 rfl ?_
          exact ih _ _ _ _ _ hw (lv_sub hl [1, 2, 3, 0] rfl) h
        · replace h := itT h c7
          refine lv_iload_n hx hb dX4_rowWith_46 rfl (lv_at hl 2 rfl) ?_
          cases h
          exact retO_i F dX4_rowWith_47
set_option maxHeartbeats 4000000 in
set_option maxRecDepth 100000 in
theorem w_X4_rowWith_2 (F : FX p m c cX4_rowWith 4 s args yX4_rowWith (some .int) RX4 meth) {z : Int32} : ∀ (n : Nat) (x1 : Int32) (x2 : Int32) (u : MS) (ls : Array Slot), WD G A s (mw G ad u) s.heap [] → lv_has ls 4 [(0, .ref (ad 0)), (1, .int x1), (2, .int x2)] → f_X4_rowWith_2 n x1 x2 u = some z → W p l e rmX4_rowWith s m args below meth c s.heap [] 0 0 (MQ below (QO (some (.int z))) args s 0 0 (fun _ => False)) (F0 m 2 ls []) := by
  obtain ⟨⟨hx, hb, hml, hown, hts⟩, hr, hlocks⟩ := id F
  intro n
  induction n with
  | zero =>
    intro x1 x2 u ls hw hl h
    rw [f_X4_rowWith_2] at h
    cases h
  | succ n ih =>
    intro x1 x2 u ls hw hl h
    rw [f_X4_rowWith_2] at h
    refine lv_iload_n hx hb dX4_rowWith_2 rfl (lv_at hl 2 rfl) ?_
    refine lv_bipush (v := 8) hx hb dX4_rowWith_3 rfl ?_
    refine lv_icmp_ge (tgt := 60) hx hb dX4_rowWith_5 rfl (fun c1 => ?_) (fun c1 => ?_)
    · replace h := itT h c1
      refine lv_iconst (v := (-1)) hx hb dX4_rowWith_60 rfl ?_
      cases h
      exact retO_i F dX4_rowWith_61
    · replace h := itF h c1
      refine lv_iconst (v := 0) hx hb dX4_rowWith_8 rfl ?_
      refine lv_istore_n (lv' := [(3, .int 0), (0, .ref (ad 0)), (1, .int x1), (2, .int x2)]) hx hb dX4_rowWith_9 rfl hl (by decide) rfl (fun ls hl => ?_)
      exact w_X4_rowWith_10 F (f_X4_rowWith_2 n) (fun x1 x2 u ls hw hl h => ih x1 x2 u ls hw hl h) NF _ _ _ _ _ hw (lv_sub hl [1, 2, 3, 0] rfl) h
set_option maxHeartbeats 4000000 in
set_option maxRecDepth 100000 in
theorem w_X4_rowWith_0 (F : FX p m c cX4_rowWith 4 s args yX4_rowWith (some .int) RX4 meth) {z : Int32} : ∀ (x1 : Int32) (u : MS) (ls : Array Slot), WD G A s (mw G ad u) s.heap [] → lv_has ls 4 [(0, .ref (ad 0)), (1, .int x1)] → f_X4_rowWith x1 u = some z → W p l e rmX4_rowWith s m args below meth c s.heap [] 0 0 (MQ below (QO (some (.int z))) args s 0 0 (fun _ => False)) (F0 m 0 ls []) := by
  obtain ⟨⟨hx, hb, hml, hown, hts⟩, hr, hlocks⟩ := id F
  intro x1 u ls hw hl h
  unfold f_X4_rowWith at h
  refine lv_iconst (v := 0) hx hb dX4_rowWith_0 rfl ?_
  refine lv_istore_n (lv' := [(2, .int 0), (0, .ref (ad 0)), (1, .int x1)]) hx hb dX4_rowWith_1 rfl hl (by decide) rfl (fun ls hl => ?_)
  exact w_X4_rowWith_2 F NF _ _ _ _ hw (lv_sub hl [1, 2, 0] rfl) h
end
theorem c_X4_rowWith {l : Launch} {G : GX} {ad : Nat → Nat} {x1 : Int32} {u : MS} {z : Int32} (h : f_X4_rowWith x1 u = some z) : MO l yX4_rowWith cX4_rowWith 4 (some .int) rmX4_rowWith G (mw G ad u) [.ref (ad 0), .int x1] (some (.int z)) := MO.of (by decide) (Nat.le_of_ble_eq_true rfl) (fun p e s m below meth c ls F hw hl => w_X4_rowWith_0 F _ _ _ hw hl h)
theorem yv_X4_rowWith : YV RX4 100 yX4_rowWith cX4_rowWith 4 (some .int) 1 := ⟨(tw 639 (by decide +kernel) rfl), (tw 6 (by decide +kernel) rfl), (tw 636 (by decide +kernel) rfl), (tw 638 (by decide +kernel) rfl), (tp 19 (by decide +kernel) rfl), by decide +kernel⟩
theorem k_X4_rowWith {p : Program} {l : Launch} {e : Env} {R : Room} {s : State} {m : MethodId} {args : Array Value} {below : List Frame} {meth : Method} {c : Code} {H : Heap} {locs : List Loc} {cells slots : Nat} {Q : State → Prop} {G : GX} {A : Nat → Prop} {ad : Nat → Nat} {cc : ByteArray} {nL pc : Nat} {y0 : MethodName} {ret0 : Option FieldType} {ls : Array Slot} {rest : List Value} {u : MS} {x1 : Int32} {z : Int32} (F : FX p m c cc nL s args y0 ret0 RX4 meth) (hw : WD G A s (mw G ad u) H locs) (h : f_X4_rowWith x1 u = some z) (hR : rmX4_rowWith.frames + 1 ≤ R.frames ∧ 8 + (4 + 11) + rmX4_rowWith.locals ≤ R.locals) (hcs : cells ≤ R.cells ∧ slots ≤ R.slots) (hsz : ls.size = nL) (hW : (rest.map fun v => v.category).sum ≤ 8) (hdg : decode cc pc = .ok (.invokevirtual 100, 3)) (kk : W p l e R s m args below meth c H locs cells slots Q (F0 m (pc + 3) ls (.int z :: rest))) : W p l e R s m args below meth c H locs cells slots Q (F0 m pc ls (.int x1 :: .ref (ad 0) :: rest)) := callO (runV F yv_X4_rowWith (c_X4_rowWith h) hw.1 hw.2.1 hw.2.2.1 rfl rfl rfl ⟨rfl, rfl⟩ hR hcs rfl hsz rfl hW hdg) kk
/-! ===== X4_placeOf ===== -/
theorem dX4_placeOf_0 : decode cX4_placeOf 0 = .ok (.iconst 0, 1) := by decide +kernel
theorem dX4_placeOf_1 : decode cX4_placeOf 1 = .ok (.istore_n 3, 1) := by decide +kernel
theorem dX4_placeOf_2 : decode cX4_placeOf 2 = .ok (.aload_n 0, 1) := by decide +kernel
theorem dX4_placeOf_3 : decode cX4_placeOf 3 = .ok (.getfield 25, 3) := by decide +kernel
theorem dX4_placeOf_6 : decode cX4_placeOf 6 = .ok (.sipush 600, 3) := by decide +kernel
theorem dX4_placeOf_9 : decode cX4_placeOf 9 = .ok (.iload_n 1, 1) := by decide +kernel
theorem dX4_placeOf_10 : decode cX4_placeOf 10 = .ok (.imul, 1) := by decide +kernel
theorem dX4_placeOf_11 : decode cX4_placeOf 11 = .ok (.iload_n 3, 1) := by decide +kernel
theorem dX4_placeOf_12 : decode cX4_placeOf 12 = .ok (.iadd, 1) := by decide +kernel
theorem dX4_placeOf_13 : decode cX4_placeOf 13 = .ok (.iaload, 1) := by decide +kernel
theorem dX4_placeOf_14 : decode cX4_placeOf 14 = .ok (.iload_n 2, 1) := by decide +kernel
theorem dX4_placeOf_15 : decode cX4_placeOf 15 = .ok (.if_icmp .eq 9, 3) := by decide +kernel
theorem dX4_placeOf_18 : decode cX4_placeOf 18 = .ok (.iinc 3 1, 3) := by decide +kernel
theorem dX4_placeOf_21 : decode cX4_placeOf 21 = .ok (.goto (-19), 3) := by decide +kernel
theorem dX4_placeOf_24 : decode cX4_placeOf 24 = .ok (.iload_n 3, 1) := by decide +kernel
theorem dX4_placeOf_25 : decode cX4_placeOf 25 = .ok (.ireturn, 1) := by decide +kernel
def rmX4_placeOf : Room := { frames := 0, cells := 0, slots := 0, locals := 0 }
noncomputable def f_X4_placeOf_2 : Nat → Int32 → Int32 → Int32 → MS → Option (Int32)
  | 0, _, _, _, _ => none
  | n + 1, x1, x2, x3, u => (if ix ((600 * x1) + x3) 4800 = true then (if (u.2.1 7 (Int32.toNatClampNeg ((600 * x1) + x3))) = x2 then some x3 else f_X4_placeOf_2 n x1 x2 (x3 + 1) u) else none)
noncomputable def f_X4_placeOf (x1 : Int32) (x2 : Int32) (u : MS) : Option (Int32) := f_X4_placeOf_2 NF x1 x2 0 u
section
variable {p : Program} {l : Launch} {e : Env} {s : State} {m : MethodId} {args : Array Value} {below : List Frame} {meth : Method} {c : Code}
variable {G : GX} {A : Nat → Prop} {ad : Nat → Nat}
set_option maxHeartbeats 4000000 in
set_option maxRecDepth 100000 in
theorem w_X4_placeOf_2 (F : FX p m c cX4_placeOf 4 s args yX4_placeOf (some .int) RX4 meth) {z : Int32} : ∀ (n : Nat) (x1 : Int32) (x2 : Int32) (x3 : Int32) (u : MS) (ls : Array Slot), WD G A s (mw G ad u) s.heap [] → lv_has ls 4 [(0, .ref (ad 0)), (1, .int x1), (2, .int x2), (3, .int x3)] → f_X4_placeOf_2 n x1 x2 x3 u = some z → W p l e rmX4_placeOf s m args below meth c s.heap [] 0 0 (MQ below (QO (some (.int z))) args s 0 0 (fun _ => False)) (F0 m 2 ls []) := by
  obtain ⟨⟨hx, hb, hml, hown, hts⟩, hr, hlocks⟩ := id F
  intro n
  induction n with
  | zero =>
    intro x1 x2 x3 u ls hw hl h
    rw [f_X4_placeOf_2] at h
    cases h
  | succ n ih =>
    intro x1 x2 x3 u ls hw hl h
    rw [f_X4_placeOf_2] at h
    refine lv_aload_n hx hb dX4_placeOf_2 rfl (lv_at hl 0 rfl) ?_
    refine m_g7 F hw dX4_placeOf_3 ?_
    refine lv_sipush (v := 600) hx hb dX4_placeOf_6 rfl ?_
    refine lv_iload_n hx hb dX4_placeOf_9 rfl (lv_at hl 1 rfl) ?_
    refine lv_imul hx hb dX4_placeOf_10 ?_
    refine lv_iload_n hx hb dX4_placeOf_11 rfl (lv_at hl 3 rfl) ?_
    refine lv_iadd hx hb dX4_placeOf_12 ?_
    obtain ⟨g1, h⟩ := gd h
    refine m_l7 F hw g1 dX4_placeOf_13 ?_
    refine lv_iload_n hx hb dX4_placeOf_14 rfl (lv_at hl 2 rfl) ?_
    refine lv_icmp_eq (tgt := 24) hx hb dX4_placeOf_15 rfl (fun c2 => ?_) (fun c2 => ?_)
    · replace h := itT h c2
      refine lv_iload_n hx hb dX4_placeOf_24 rfl (lv_at hl 3 rfl) ?_
      cases h
      exact retO_i F dX4_placeOf_25
    · replace h := itF h c2
      refine lv_iinc (v := (x3 + 1)) (lv' := [(3, .int (x3 + 1)), (0, .ref (ad 0)), (1, .int x1), (2, .int x2)]) hx hb dX4_placeOf_18 hl (k := 3) rfl rfl (by decide) rfl (fun ls hl => ?_)
      refine lv_goto (tgt := 2) hx hb dX4_placeOf_21 rfl ?_
      exact ih _ _ _ _ _ hw (lv_sub hl [1, 2, 3, 0] rfl) h
set_option maxHeartbeats 4000000 in
set_option maxRecDepth 100000 in
theorem w_X4_placeOf_0 (F : FX p m c cX4_placeOf 4 s args yX4_placeOf (some .int) RX4 meth) {z : Int32} : ∀ (x1 : Int32) (x2 : Int32) (u : MS) (ls : Array Slot), WD G A s (mw G ad u) s.heap [] → lv_has ls 4 [(0, .ref (ad 0)), (1, .int x1), (2, .int x2)] → f_X4_placeOf x1 x2 u = some z → W p l e rmX4_placeOf s m args below meth c s.heap [] 0 0 (MQ below (QO (some (.int z))) args s 0 0 (fun _ => False)) (F0 m 0 ls []) := by
  obtain ⟨⟨hx, hb, hml, hown, hts⟩, hr, hlocks⟩ := id F
  intro x1 x2 u ls hw hl h
  unfold f_X4_placeOf at h
  refine lv_iconst (v := 0) hx hb dX4_placeOf_0 rfl ?_
  refine lv_istore_n (lv' := [(3, .int 0), (0, .ref (ad 0)), (1, .int x1), (2, .int x2)]) hx hb dX4_placeOf_1 rfl hl (by decide) rfl (fun ls hl => ?_)
  exact w_X4_placeOf_2 F NF _ _ _ _ _ hw (lv_sub hl [1, 2, 3, 0] rfl) h
end
theorem c_X4_placeOf {l : Launch} {G : GX} {ad : Nat → Nat} {x1 : Int32} {x2 : Int32} {u : MS} {z : Int32} (h : f_X4_placeOf x1 x2 u = some z) : MO l yX4_placeOf cX4_placeOf 4 (some .int) rmX4_placeOf G (mw G ad u) [.ref (ad 0), .int x1, .int x2] (some (.int z)) := MO.of (by decide) (Nat.le_of_ble_eq_true rfl) (fun p e s m below meth c ls F hw hl => w_X4_placeOf_0 F _ _ _ _ hw hl h)
theorem yv_X4_placeOf : YV RX4 171 yX4_placeOf cX4_placeOf 4 (some .int) 2 := ⟨(tw 643 (by decide +kernel) rfl), (tw 6 (by decide +kernel) rfl), (tw 640 (by decide +kernel) rfl), (tw 642 (by decide +kernel) rfl), (tp 20 (by decide +kernel) rfl), by decide +kernel⟩
theorem k_X4_placeOf {p : Program} {l : Launch} {e : Env} {R : Room} {s : State} {m : MethodId} {args : Array Value} {below : List Frame} {meth : Method} {c : Code} {H : Heap} {locs : List Loc} {cells slots : Nat} {Q : State → Prop} {G : GX} {A : Nat → Prop} {ad : Nat → Nat} {cc : ByteArray} {nL pc : Nat} {y0 : MethodName} {ret0 : Option FieldType} {ls : Array Slot} {rest : List Value} {u : MS} {x1 : Int32} {x2 : Int32} {z : Int32} (F : FX p m c cc nL s args y0 ret0 RX4 meth) (hw : WD G A s (mw G ad u) H locs) (h : f_X4_placeOf x1 x2 u = some z) (hR : rmX4_placeOf.frames + 1 ≤ R.frames ∧ 8 + (4 + 11) + rmX4_placeOf.locals ≤ R.locals) (hcs : cells ≤ R.cells ∧ slots ≤ R.slots) (hsz : ls.size = nL) (hW : (rest.map fun v => v.category).sum ≤ 8) (hdg : decode cc pc = .ok (.invokevirtual 171, 3)) (kk : W p l e R s m args below meth c H locs cells slots Q (F0 m (pc + 3) ls (.int z :: rest))) : W p l e R s m args below meth c H locs cells slots Q (F0 m pc ls (.int x2 :: .int x1 :: .ref (ad 0) :: rest)) := callO (runV F yv_X4_placeOf (c_X4_placeOf h) hw.1 hw.2.1 hw.2.2.1 rfl rfl rfl ⟨rfl, rfl⟩ hR hcs rfl hsz rfl hW hdg) kk
/-! ===== X4_isThing ===== -/
theorem dX4_isThing_0 : decode cX4_isThing 0 = .ok (.iload_n 1, 1) := by decide +kernel
theorem dX4_isThing_1 : decode cX4_isThing 1 = .ok (.iconst 0, 1) := by decide +kernel
theorem dX4_isThing_2 : decode cX4_isThing 2 = .ok (.aload_n 0, 1) := by decide +kernel
theorem dX4_isThing_3 : decode cX4_isThing 3 = .ok (.getfield 97, 3) := by decide +kernel
theorem dX4_isThing_6 : decode cX4_isThing 6 = .ok (.iconst 1, 1) := by decide +kernel
theorem dX4_isThing_7 : decode cX4_isThing 7 = .ok (.isub, 1) := by decide +kernel
theorem dX4_isThing_8 : decode cX4_isThing 8 = .ok (.invokestatic 93, 3) := by decide +kernel
theorem dX4_isThing_11 : decode cX4_isThing 11 = .ok (.ifCond .eq 18, 3) := by decide +kernel
theorem dX4_isThing_14 : decode cX4_isThing 14 = .ok (.aload_n 0, 1) := by decide +kernel
theorem dX4_isThing_15 : decode cX4_isThing 15 = .ok (.iconst 2, 1) := by decide +kernel
theorem dX4_isThing_16 : decode cX4_isThing 16 = .ok (.iload_n 1, 1) := by decide +kernel
theorem dX4_isThing_17 : decode cX4_isThing 17 = .ok (.imul, 1) := by decide +kernel
theorem dX4_isThing_18 : decode cX4_isThing 18 = .ok (.invokevirtual 100, 3) := by decide +kernel
theorem dX4_isThing_21 : decode cX4_isThing 21 = .ok (.iconst (-1), 1) := by decide +kernel
theorem dX4_isThing_22 : decode cX4_isThing 22 = .ok (.if_icmp .eq 7, 3) := by decide +kernel
theorem dX4_isThing_25 : decode cX4_isThing 25 = .ok (.iconst 1, 1) := by decide +kernel
theorem dX4_isThing_26 : decode cX4_isThing 26 = .ok (.goto 4, 3) := by decide +kernel
theorem dX4_isThing_29 : decode cX4_isThing 29 = .ok (.iconst 0, 1) := by decide +kernel
theorem dX4_isThing_30 : decode cX4_isThing 30 = .ok (.ireturn, 1) := by decide +kernel
def rmX4_isThing : Room := { frames := 1, cells := 0, slots := 0, locals := 23 }
noncomputable def f_X4_isThing (x1 : Int32) (u : MS) : Option (Int32) := (f_X4_in x1 0 ((u.1 1) - 1)).bind (fun z1 => (if z1 = 0 then some 0 else (f_X4_rowWith (2 * x1) u).bind (fun z4 => (if z4 = (-1) then some 0 else some 1))))
section
variable {p : Program} {l : Launch} {e : Env} {s : State} {m : MethodId} {args : Array Value} {below : List Frame} {meth : Method} {c : Code}
variable {G : GX} {A : Nat → Prop} {ad : Nat → Nat}
set_option maxHeartbeats 4000000 in
set_option maxRecDepth 100000 in
theorem w_X4_isThing_0 (F : FX p m c cX4_isThing 2 s args yX4_isThing (some .boolean) RX4 meth) {z : Int32} : ∀ (x1 : Int32) (u : MS) (ls : Array Slot), WD G A s (mw G ad u) s.heap [] → lv_has ls 2 [(0, .ref (ad 0)), (1, .int x1)] → f_X4_isThing x1 u = some z → W p l e rmX4_isThing s m args below meth c s.heap [] 0 0 (MQ below (QO (some (.int z))) args s 0 0 (fun _ => False)) (F0 m 0 ls []) := by
  obtain ⟨⟨hx, hb, hml, hown, hts⟩, hr, hlocks⟩ := id F
  intro x1 u ls hw hl h
  unfold f_X4_isThing at h
  refine lv_iload_n hx hb dX4_isThing_0 rfl (lv_at hl 1 rfl) ?_
  refine lv_iconst (v := 0) hx hb dX4_isThing_1 rfl ?_
  refine lv_aload_n hx hb dX4_isThing_2 rfl (lv_at hl 0 rfl) ?_
  refine m_g1 F hw dX4_isThing_3 ?_
  refine lv_iconst (v := 1) hx hb dX4_isThing_6 rfl ?_
  refine lv_isub hx hb dX4_isThing_7 ?_
  obtain ⟨z1, e2, h⟩ := bnd h
  refine k_X4_in F hw e2 ⟨Nat.le_of_ble_eq_true rfl, Nat.le_of_ble_eq_true rfl⟩ ⟨Nat.zero_le _, Nat.zero_le _⟩ hl.1 (Nat.le_of_ble_eq_true rfl) dX4_isThing_8 ?_
  refine lv_if_eq (tgt := 29) hx hb dX4_isThing_11 rfl (fun c3 => ?_) (fun c3 => ?_)
  · replace h := itT h c3
    refine lv_iconst (v := 0) hx hb dX4_isThing_29 rfl ?_
    cases h
    exact retO_z F rfl dX4_isThing_30
  · replace h := itF h c3
    refine lv_aload_n hx hb dX4_isThing_14 rfl (lv_at hl 0 rfl) ?_
    refine lv_iconst (v := 2) hx hb dX4_isThing_15 rfl ?_
    refine lv_iload_n hx hb dX4_isThing_16 rfl (lv_at hl 1 rfl) ?_
    refine lv_imul hx hb dX4_isThing_17 ?_
    obtain ⟨z4, e5, h⟩ := bnd h
    refine k_X4_rowWith F hw e5 ⟨Nat.le_of_ble_eq_true rfl, Nat.le_of_ble_eq_true rfl⟩ ⟨Nat.zero_le _, Nat.zero_le _⟩ hl.1 (Nat.le_of_ble_eq_true rfl) dX4_isThing_18 ?_
    refine lv_iconst (v := (-1)) hx hb dX4_isThing_21 rfl ?_
    refine lv_icmp_eq (tgt := 29) hx hb dX4_isThing_22 rfl (fun c6 => ?_) (fun c6 => ?_)
    · replace h := itT h c6
      refine lv_iconst (v := 0) hx hb dX4_isThing_29 rfl ?_
      cases h
      exact retO_z F rfl dX4_isThing_30
    · replace h := itF h c6
      refine lv_iconst (v := 1) hx hb dX4_isThing_25 rfl ?_
      refine lv_goto (tgt := 30) hx hb dX4_isThing_26 rfl ?_
      cases h
      exact retO_z F rfl dX4_isThing_30
end
theorem c_X4_isThing {l : Launch} {G : GX} {ad : Nat → Nat} {x1 : Int32} {u : MS} {z : Int32} (h : f_X4_isThing x1 u = some z) : MO l yX4_isThing cX4_isThing 2 (some .boolean) rmX4_isThing G (mw G ad u) [.ref (ad 0), .int x1] (some (.int z)) := MO.of (by decide) (Nat.le_of_ble_eq_true rfl) (fun p e s m below meth c ls F hw hl => w_X4_isThing_0 F _ _ _ hw hl h)
theorem yv_X4_isThing : YV RX4 183 yX4_isThing cX4_isThing 2 (some .boolean) 1 := ⟨(tw 635 (by decide +kernel) rfl), (tw 6 (by decide +kernel) rfl), (tw 632 (by decide +kernel) rfl), (tw 634 (by decide +kernel) rfl), (tp 18 (by decide +kernel) rfl), by decide +kernel⟩
theorem k_X4_isThing {p : Program} {l : Launch} {e : Env} {R : Room} {s : State} {m : MethodId} {args : Array Value} {below : List Frame} {meth : Method} {c : Code} {H : Heap} {locs : List Loc} {cells slots : Nat} {Q : State → Prop} {G : GX} {A : Nat → Prop} {ad : Nat → Nat} {cc : ByteArray} {nL pc : Nat} {y0 : MethodName} {ret0 : Option FieldType} {ls : Array Slot} {rest : List Value} {u : MS} {x1 : Int32} {z : Int32} (F : FX p m c cc nL s args y0 ret0 RX4 meth) (hw : WD G A s (mw G ad u) H locs) (h : f_X4_isThing x1 u = some z) (hR : rmX4_isThing.frames + 1 ≤ R.frames ∧ 8 + (2 + 11) + rmX4_isThing.locals ≤ R.locals) (hcs : cells ≤ R.cells ∧ slots ≤ R.slots) (hsz : ls.size = nL) (hW : (rest.map fun v => v.category).sum ≤ 8) (hdg : decode cc pc = .ok (.invokevirtual 183, 3)) (kk : W p l e R s m args below meth c H locs cells slots Q (F0 m (pc + 3) ls (.int z :: rest))) : W p l e R s m args below meth c H locs cells slots Q (F0 m pc ls (.int x1 :: .ref (ad 0) :: rest)) := callO (runV F yv_X4_isThing (c_X4_isThing h) hw.1 hw.2.1 hw.2.2.1 rfl rfl rfl ⟨rfl, rfl⟩ hR hcs rfl hsz rfl hW hdg) kk
/-! ===== X4_hasBlocks ===== -/
theorem dX4_hasBlocks_0 : decode cX4_hasBlocks 0 = .ok (.aload_n 0, 1) := by decide +kernel
theorem dX4_hasBlocks_1 : decode cX4_hasBlocks 1 = .ok (.getfield 7, 3) := by decide +kernel
theorem dX4_hasBlocks_4 : decode cX4_hasBlocks 4 = .ok (.iload_n 1, 1) := by decide +kernel
theorem dX4_hasBlocks_5 : decode cX4_hasBlocks 5 = .ok (.iaload, 1) := by decide +kernel
theorem dX4_hasBlocks_6 : decode cX4_hasBlocks 6 = .ok (.iconst 2, 1) := by decide +kernel
theorem dX4_hasBlocks_7 : decode cX4_hasBlocks 7 = .ok (.if_icmp .lt 7, 3) := by decide +kernel
theorem dX4_hasBlocks_10 : decode cX4_hasBlocks 10 = .ok (.iconst 1, 1) := by decide +kernel
theorem dX4_hasBlocks_11 : decode cX4_hasBlocks 11 = .ok (.goto 4, 3) := by decide +kernel
theorem dX4_hasBlocks_14 : decode cX4_hasBlocks 14 = .ok (.iconst 0, 1) := by decide +kernel
theorem dX4_hasBlocks_15 : decode cX4_hasBlocks 15 = .ok (.ireturn, 1) := by decide +kernel
def rmX4_hasBlocks : Room := { frames := 0, cells := 0, slots := 0, locals := 0 }
noncomputable def f_X4_hasBlocks (x1 : Int32) (u : MS) : Option (Int32) := (if ix x1 8 = true then (if (u.2.1 2 (Int32.toNatClampNeg x1)) < 2 then some 0 else some 1) else none)
section
variable {p : Program} {l : Launch} {e : Env} {s : State} {m : MethodId} {args : Array Value} {below : List Frame} {meth : Method} {c : Code}
variable {G : GX} {A : Nat → Prop} {ad : Nat → Nat}
set_option maxHeartbeats 4000000 in
set_option maxRecDepth 100000 in
theorem w_X4_hasBlocks_0 (F : FX p m c cX4_hasBlocks 2 s args yX4_hasBlocks (some .boolean) RX4 meth) {z : Int32} : ∀ (x1 : Int32) (u : MS) (ls : Array Slot), WD G A s (mw G ad u) s.heap [] → lv_has ls 2 [(0, .ref (ad 0)), (1, .int x1)] → f_X4_hasBlocks x1 u = some z → W p l e rmX4_hasBlocks s m args below meth c s.heap [] 0 0 (MQ below (QO (some (.int z))) args s 0 0 (fun _ => False)) (F0 m 0 ls []) := by
  obtain ⟨⟨hx, hb, hml, hown, hts⟩, hr, hlocks⟩ := id F
  intro x1 u ls hw hl h
  unfold f_X4_hasBlocks at h
  refine lv_aload_n hx hb dX4_hasBlocks_0 rfl (lv_at hl 0 rfl) ?_
  refine m_g2 F hw dX4_hasBlocks_1 ?_
  refine lv_iload_n hx hb dX4_hasBlocks_4 rfl (lv_at hl 1 rfl) ?_
  obtain ⟨g1, h⟩ := gd h
  refine m_l2 F hw g1 dX4_hasBlocks_5 ?_
  refine lv_iconst (v := 2) hx hb dX4_hasBlocks_6 rfl ?_
  refine lv_icmp_lt (tgt := 14) hx hb dX4_hasBlocks_7 rfl (fun c2 => ?_) (fun c2 => ?_)
  · replace h := itT h c2
    refine lv_iconst (v := 0) hx hb dX4_hasBlocks_14 rfl ?_
    cases h
    exact retO_z F rfl dX4_hasBlocks_15
  · replace h := itF h c2
    refine lv_iconst (v := 1) hx hb dX4_hasBlocks_10 rfl ?_
    refine lv_goto (tgt := 15) hx hb dX4_hasBlocks_11 rfl ?_
    cases h
    exact retO_z F rfl dX4_hasBlocks_15
end
theorem c_X4_hasBlocks {l : Launch} {G : GX} {ad : Nat → Nat} {x1 : Int32} {u : MS} {z : Int32} (h : f_X4_hasBlocks x1 u = some z) : MO l yX4_hasBlocks cX4_hasBlocks 2 (some .boolean) rmX4_hasBlocks G (mw G ad u) [.ref (ad 0), .int x1] (some (.int z)) := MO.of (by decide) (Nat.le_of_ble_eq_true rfl) (fun p e s m below meth c ls F hw hl => w_X4_hasBlocks_0 F _ _ _ hw hl h)
theorem yv_X4_hasBlocks : YV RX4 161 yX4_hasBlocks cX4_hasBlocks 2 (some .boolean) 1 := ⟨(tw 655 (by decide +kernel) rfl), (tw 6 (by decide +kernel) rfl), (tw 652 (by decide +kernel) rfl), (tw 654 (by decide +kernel) rfl), (tp 23 (by decide +kernel) rfl), by decide +kernel⟩
theorem k_X4_hasBlocks {p : Program} {l : Launch} {e : Env} {R : Room} {s : State} {m : MethodId} {args : Array Value} {below : List Frame} {meth : Method} {c : Code} {H : Heap} {locs : List Loc} {cells slots : Nat} {Q : State → Prop} {G : GX} {A : Nat → Prop} {ad : Nat → Nat} {cc : ByteArray} {nL pc : Nat} {y0 : MethodName} {ret0 : Option FieldType} {ls : Array Slot} {rest : List Value} {u : MS} {x1 : Int32} {z : Int32} (F : FX p m c cc nL s args y0 ret0 RX4 meth) (hw : WD G A s (mw G ad u) H locs) (h : f_X4_hasBlocks x1 u = some z) (hR : rmX4_hasBlocks.frames + 1 ≤ R.frames ∧ 8 + (2 + 11) + rmX4_hasBlocks.locals ≤ R.locals) (hcs : cells ≤ R.cells ∧ slots ≤ R.slots) (hsz : ls.size = nL) (hW : (rest.map fun v => v.category).sum ≤ 8) (hdg : decode cc pc = .ok (.invokevirtual 161, 3)) (kk : W p l e R s m args below meth c H locs cells slots Q (F0 m (pc + 3) ls (.int z :: rest))) : W p l e R s m args below meth c H locs cells slots Q (F0 m pc ls (.int x1 :: .ref (ad 0) :: rest)) := callO (runV F yv_X4_hasBlocks (c_X4_hasBlocks h) hw.1 hw.2.1 hw.2.2.1 rfl rfl rfl ⟨rfl, rfl⟩ hR hcs rfl hsz rfl hW hdg) kk
end
