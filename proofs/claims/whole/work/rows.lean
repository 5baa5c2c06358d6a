section
-- ===== PART A: goes FIRST, ahead of the names: the tables' words, and 'selects' of the private methods out of them =====
/-- a private method of a class that the tables say can be made, by its rows of tables_1 -/
def lw_okq (q : MethodName × Nat) : Prop := (q.1.cls ≠ "java/lang/invoke/MethodHandle" ∧ q.1.cls ≠ "java/lang/invoke/VarHandle") ∧ Cond.instantiable q.1.cls q.2 ∈ tables_1 ∧ Cond.privateMethod q.1 ∈ tables_1 ∧ Cond.instanceMethod q.1 ∈ tables_1
theorem lw_p0 : lw_okq (⟨"LabelHall", "beginChange", "()V"⟩, 6) := ⟨⟨by decide +kernel, by decide +kernel⟩, List.mem_of_getElem? (i := 10) (by decide +kernel), List.mem_of_getElem? (i := 132) (by decide +kernel), List.mem_of_getElem? (i := 133) (by decide +kernel)⟩
theorem lw_p1 : lw_okq (⟨"LabelHall", "spareSlot", "()I"⟩, 6) := ⟨⟨by decide +kernel, by decide +kernel⟩, List.mem_of_getElem? (i := 10) (by decide +kernel), List.mem_of_getElem? (i := 136) (by decide +kernel), List.mem_of_getElem? (i := 137) (by decide +kernel)⟩
theorem lw_p2 : lw_okq (⟨"LabelHall", "endChange", "(Z)V"⟩, 6) := ⟨⟨by decide +kernel, by decide +kernel⟩, List.mem_of_getElem? (i := 10) (by decide +kernel), List.mem_of_getElem? (i := 157) (by decide +kernel), List.mem_of_getElem? (i := 158) (by decide +kernel)⟩
theorem lw_p3 : lw_okq (⟨"LabelHall", "exchangeWith", "(I)V"⟩, 6) := ⟨⟨by decide +kernel, by decide +kernel⟩, List.mem_of_getElem? (i := 10) (by decide +kernel), List.mem_of_getElem? (i := 164) (by decide +kernel), List.mem_of_getElem? (i := 165) (by decide +kernel)⟩
theorem lw_p4 : lw_okq (⟨"LabelHall", "isPlace", "(IIZ)Z"⟩, 6) := ⟨⟨by decide +kernel, by decide +kernel⟩, List.mem_of_getElem? (i := 10) (by decide +kernel), List.mem_of_getElem? (i := 172) (by decide +kernel), List.mem_of_getElem? (i := 173) (by decide +kernel)⟩
theorem lw_p5 : lw_okq (⟨"LabelHall", "hasStand", "(IZ)Z"⟩, 6) := ⟨⟨by decide +kernel, by decide +kernel⟩, List.mem_of_getElem? (i := 10) (by decide +kernel), List.mem_of_getElem? (i := 176) (by decide +kernel), List.mem_of_getElem? (i := 177) (by decide +kernel)⟩
theorem lw_p6 : lw_okq (⟨"LabelHall", "isStanding", "(I)Z"⟩, 6) := ⟨⟨by decide +kernel, by decide +kernel⟩, List.mem_of_getElem? (i := 10) (by decide +kernel), List.mem_of_getElem? (i := 180) (by decide +kernel), List.mem_of_getElem? (i := 181) (by decide +kernel)⟩
theorem lw_p7 : lw_okq (⟨"LabelHall", "admit", "(II)I"⟩, 6) := ⟨⟨by decide +kernel, by decide +kernel⟩, List.mem_of_getElem? (i := 10) (by decide +kernel), List.mem_of_getElem? (i := 196) (by decide +kernel), List.mem_of_getElem? (i := 197) (by decide +kernel)⟩
theorem lw_p8 : lw_okq (⟨"LabelHall", "thingsInPassage", "(I)I"⟩, 6) := ⟨⟨by decide +kernel, by decide +kernel⟩, List.mem_of_getElem? (i := 10) (by decide +kernel), List.mem_of_getElem? (i := 319) (by decide +kernel), List.mem_of_getElem? (i := 320) (by decide +kernel)⟩
theorem lw_p9 : lw_okq (⟨"LabelHall", "carry", "(IIIII)I"⟩, 6) := ⟨⟨by decide +kernel, by decide +kernel⟩, List.mem_of_getElem? (i := 10) (by decide +kernel), List.mem_of_getElem? (i := 342) (by decide +kernel), List.mem_of_getElem? (i := 343) (by decide +kernel)⟩
theorem lw_p10 : lw_okq (⟨"LabelHall", "faultOfPair", "(II)I"⟩, 6) := ⟨⟨by decide +kernel, by decide +kernel⟩, List.mem_of_getElem? (i := 10) (by decide +kernel), List.mem_of_getElem? (i := 373) (by decide +kernel), List.mem_of_getElem? (i := 374) (by decide +kernel)⟩
theorem lw_p11 : lw_okq (⟨"LabelHallModel", "load", "(I)V"⟩, 25) := ⟨⟨by decide +kernel, by decide +kernel⟩, List.mem_of_getElem? (i := 504) (by decide +kernel), List.mem_of_getElem? (i := 592) (by decide +kernel), List.mem_of_getElem? (i := 593) (by decide +kernel)⟩
theorem lw_p12 : lw_okq (⟨"LabelHallModel", "read", "([II)V"⟩, 25) := ⟨⟨by decide +kernel, by decide +kernel⟩, List.mem_of_getElem? (i := 504) (by decide +kernel), List.mem_of_getElem? (i := 596) (by decide +kernel), List.mem_of_getElem? (i := 597) (by decide +kernel)⟩
theorem lw_p13 : lw_okq (⟨"LabelHallModel", "save", "(I)V"⟩, 25) := ⟨⟨by decide +kernel, by decide +kernel⟩, List.mem_of_getElem? (i := 504) (by decide +kernel), List.mem_of_getElem? (i := 607) (by decide +kernel), List.mem_of_getElem? (i := 608) (by decide +kernel)⟩
theorem lw_p14 : lw_okq (⟨"LabelHallModel", "write", "([II)V"⟩, 25) := ⟨⟨by decide +kernel, by decide +kernel⟩, List.mem_of_getElem? (i := 504) (by decide +kernel), List.mem_of_getElem? (i := 611) (by decide +kernel), List.mem_of_getElem? (i := 612) (by decide +kernel)⟩
theorem lw_p15 : lw_okq (⟨"LabelHallModel", "keep", "()V"⟩, 25) := ⟨⟨by decide +kernel, by decide +kernel⟩, List.mem_of_getElem? (i := 504) (by decide +kernel), List.mem_of_getElem? (i := 615) (by decide +kernel), List.mem_of_getElem? (i := 616) (by decide +kernel)⟩
def lw_privs_1 : List (MethodName × Nat) := [(⟨"LabelHall", "beginChange", "()V"⟩, 6), (⟨"LabelHall", "spareSlot", "()I"⟩, 6), (⟨"LabelHall", "endChange", "(Z)V"⟩, 6), (⟨"LabelHall", "exchangeWith", "(I)V"⟩, 6), (⟨"LabelHall", "isPlace", "(IIZ)Z"⟩, 6), (⟨"LabelHall", "hasStand", "(IZ)Z"⟩, 6), (⟨"LabelHall", "isStanding", "(I)Z"⟩, 6), (⟨"LabelHall", "admit", "(II)I"⟩, 6), (⟨"LabelHall", "thingsInPassage", "(I)I"⟩, 6), (⟨"LabelHall", "carry", "(IIIII)I"⟩, 6), (⟨"LabelHall", "faultOfPair", "(II)I"⟩, 6), (⟨"LabelHallModel", "load", "(I)V"⟩, 25), (⟨"LabelHallModel", "read", "([II)V"⟩, 25), (⟨"LabelHallModel", "save", "(I)V"⟩, 25), (⟨"LabelHallModel", "write", "([II)V"⟩, 25), (⟨"LabelHallModel", "keep", "()V"⟩, 25)]
theorem lw_r1 : ∀ q ∈ lw_privs_1, lw_okq q := List.forall_mem_cons.mpr ⟨lw_p0, List.forall_mem_cons.mpr ⟨lw_p1, List.forall_mem_cons.mpr ⟨lw_p2, List.forall_mem_cons.mpr ⟨lw_p3, List.forall_mem_cons.mpr ⟨lw_p4, List.forall_mem_cons.mpr ⟨lw_p5, List.forall_mem_cons.mpr ⟨lw_p6, List.forall_mem_cons.mpr ⟨lw_p7, List.forall_mem_cons.mpr ⟨lw_p8, List.forall_mem_cons.mpr ⟨lw_p9, List.forall_mem_cons.mpr ⟨lw_p10, List.forall_mem_cons.mpr ⟨lw_p11, List.forall_mem_cons.mpr ⟨lw_p12, List.forall_mem_cons.mpr ⟨lw_p13, List.forall_mem_cons.mpr ⟨lw_p14, List.forall_mem_cons.mpr ⟨lw_p15, fun _ h => absurd h List.not_mem_nil⟩⟩⟩⟩⟩⟩⟩⟩⟩⟩⟩⟩⟩⟩⟩⟩
theorem lw_p16 : lw_okq (⟨"LabelHallModel", "isRow", "(I)Z"⟩, 25) := ⟨⟨by decide +kernel, by decide +kernel⟩, List.mem_of_getElem? (i := 504) (by decide +kernel), List.mem_of_getElem? (i := 625) (by decide +kernel), List.mem_of_getElem? (i := 626) (by decide +kernel)⟩
theorem lw_p17 : lw_okq (⟨"LabelHallModel", "placeBehind", "(IIZ)I"⟩, 25) := ⟨⟨by decide +kernel, by decide +kernel⟩, List.mem_of_getElem? (i := 504) (by decide +kernel), List.mem_of_getElem? (i := 629) (by decide +kernel), List.mem_of_getElem? (i := 630) (by decide +kernel)⟩
theorem lw_p18 : lw_okq (⟨"LabelHallModel", "isThing", "(I)Z"⟩, 25) := ⟨⟨by decide +kernel, by decide +kernel⟩, List.mem_of_getElem? (i := 504) (by decide +kernel), List.mem_of_getElem? (i := 633) (by decide +kernel), List.mem_of_getElem? (i := 634) (by decide +kernel)⟩
theorem lw_p19 : lw_okq (⟨"LabelHallModel", "rowWith", "(I)I"⟩, 25) := ⟨⟨by decide +kernel, by decide +kernel⟩, List.mem_of_getElem? (i := 504) (by decide +kernel), List.mem_of_getElem? (i := 637) (by decide +kernel), List.mem_of_getElem? (i := 638) (by decide +kernel)⟩
theorem lw_p20 : lw_okq (⟨"LabelHallModel", "placeOf", "(II)I"⟩, 25) := ⟨⟨by decide +kernel, by decide +kernel⟩, List.mem_of_getElem? (i := 504) (by decide +kernel), List.mem_of_getElem? (i := 641) (by decide +kernel), List.mem_of_getElem? (i := 642) (by decide +kernel)⟩
theorem lw_p21 : lw_okq (⟨"LabelHallModel", "putNew", "(II)I"⟩, 25) := ⟨⟨by decide +kernel, by decide +kernel⟩, List.mem_of_getElem? (i := 504) (by decide +kernel), List.mem_of_getElem? (i := 645) (by decide +kernel), List.mem_of_getElem? (i := 646) (by decide +kernel)⟩
theorem lw_p22 : lw_okq (⟨"LabelHallModel", "come", "(III)Z"⟩, 25) := ⟨⟨by decide +kernel, by decide +kernel⟩, List.mem_of_getElem? (i := 504) (by decide +kernel), List.mem_of_getElem? (i := 649) (by decide +kernel), List.mem_of_getElem? (i := 650) (by decide +kernel)⟩
theorem lw_p23 : lw_okq (⟨"LabelHallModel", "hasBlocks", "(I)Z"⟩, 25) := ⟨⟨by decide +kernel, by decide +kernel⟩, List.mem_of_getElem? (i := 504) (by decide +kernel), List.mem_of_getElem? (i := 653) (by decide +kernel), List.mem_of_getElem? (i := 654) (by decide +kernel)⟩
theorem lw_p24 : lw_okq (⟨"LabelHallModel", "comeToBlock", "(III)Z"⟩, 25) := ⟨⟨by decide +kernel, by decide +kernel⟩, List.mem_of_getElem? (i := 504) (by decide +kernel), List.mem_of_getElem? (i := 657) (by decide +kernel), List.mem_of_getElem? (i := 658) (by decide +kernel)⟩
theorem lw_p25 : lw_okq (⟨"LabelHallModel", "newBlock", "(III)Z"⟩, 25) := ⟨⟨by decide +kernel, by decide +kernel⟩, List.mem_of_getElem? (i := 504) (by decide +kernel), List.mem_of_getElem? (i := 661) (by decide +kernel), List.mem_of_getElem? (i := 662) (by decide +kernel)⟩
theorem lw_p26 : lw_okq (⟨"LabelHallModel", "spread", "(II)Z"⟩, 25) := ⟨⟨by decide +kernel, by decide +kernel⟩, List.mem_of_getElem? (i := 504) (by decide +kernel), List.mem_of_getElem? (i := 665) (by decide +kernel), List.mem_of_getElem? (i := 666) (by decide +kernel)⟩
theorem lw_p27 : lw_okq (⟨"LabelHallModel", "between", "(IJ)Z"⟩, 25) := ⟨⟨by decide +kernel, by decide +kernel⟩, List.mem_of_getElem? (i := 504) (by decide +kernel), List.mem_of_getElem? (i := 669) (by decide +kernel), List.mem_of_getElem? (i := 670) (by decide +kernel)⟩
theorem lw_p28 : lw_okq (⟨"LabelHallModel", "open", "(I)V"⟩, 25) := ⟨⟨by decide +kernel, by decide +kernel⟩, List.mem_of_getElem? (i := 504) (by decide +kernel), List.mem_of_getElem? (i := 675) (by decide +kernel), List.mem_of_getElem? (i := 676) (by decide +kernel)⟩
theorem lw_p29 : lw_okq (⟨"LabelHallModel", "dealt", "(IIIJII)V"⟩, 25) := ⟨⟨by decide +kernel, by decide +kernel⟩, List.mem_of_getElem? (i := 504) (by decide +kernel), List.mem_of_getElem? (i := 679) (by decide +kernel), List.mem_of_getElem? (i := 680) (by decide +kernel)⟩
theorem lw_p30 : lw_okq (⟨"LabelHallModel", "shift", "(III)V"⟩, 25) := ⟨⟨by decide +kernel, by decide +kernel⟩, List.mem_of_getElem? (i := 504) (by decide +kernel), List.mem_of_getElem? (i := 683) (by decide +kernel), List.mem_of_getElem? (i := 684) (by decide +kernel)⟩
theorem lw_p31 : lw_okq (⟨"LabelHallModel", "blockAt", "(II)I"⟩, 25) := ⟨⟨by decide +kernel, by decide +kernel⟩, List.mem_of_getElem? (i := 504) (by decide +kernel), List.mem_of_getElem? (i := 687) (by decide +kernel), List.mem_of_getElem? (i := 688) (by decide +kernel)⟩
def lw_privs_2 : List (MethodName × Nat) := [(⟨"LabelHallModel", "isRow", "(I)Z"⟩, 25), (⟨"LabelHallModel", "placeBehind", "(IIZ)I"⟩, 25), (⟨"LabelHallModel", "isThing", "(I)Z"⟩, 25), (⟨"LabelHallModel", "rowWith", "(I)I"⟩, 25), (⟨"LabelHallModel", "placeOf", "(II)I"⟩, 25), (⟨"LabelHallModel", "putNew", "(II)I"⟩, 25), (⟨"LabelHallModel", "come", "(III)Z"⟩, 25), (⟨"LabelHallModel", "hasBlocks", "(I)Z"⟩, 25), (⟨"LabelHallModel", "comeToBlock", "(III)Z"⟩, 25), (⟨"LabelHallModel", "newBlock", "(III)Z"⟩, 25), (⟨"LabelHallModel", "spread", "(II)Z"⟩, 25), (⟨"LabelHallModel", "between", "(IJ)Z"⟩, 25), (⟨"LabelHallModel", "open", "(I)V"⟩, 25), (⟨"LabelHallModel", "dealt", "(IIIJII)V"⟩, 25), (⟨"LabelHallModel", "shift", "(III)V"⟩, 25), (⟨"LabelHallModel", "blockAt", "(II)I"⟩, 25)]
theorem lw_r2 : ∀ q ∈ lw_privs_2, lw_okq q := List.forall_mem_cons.mpr ⟨lw_p16, List.forall_mem_cons.mpr ⟨lw_p17, List.forall_mem_cons.mpr ⟨lw_p18, List.forall_mem_cons.mpr ⟨lw_p19, List.forall_mem_cons.mpr ⟨lw_p20, List.forall_mem_cons.mpr ⟨lw_p21, List.forall_mem_cons.mpr ⟨lw_p22, List.forall_mem_cons.mpr ⟨lw_p23, List.forall_mem_cons.mpr ⟨lw_p24, List.forall_mem_cons.mpr ⟨lw_p25, List.forall_mem_cons.mpr ⟨lw_p26, List.forall_mem_cons.mpr ⟨lw_p27, List.forall_mem_cons.mpr ⟨lw_p28, List.forall_mem_cons.mpr ⟨lw_p29, List.forall_mem_cons.mpr ⟨lw_p30, List.forall_mem_cons.mpr ⟨lw_p31, fun _ h => absurd h List.not_mem_nil⟩⟩⟩⟩⟩⟩⟩⟩⟩⟩⟩⟩⟩⟩⟩⟩
theorem lw_p32 : lw_okq (⟨"LabelHallModel", "beginOf", "(II)I"⟩, 25) := ⟨⟨by decide +kernel, by decide +kernel⟩, List.mem_of_getElem? (i := 504) (by decide +kernel), List.mem_of_getElem? (i := 691) (by decide +kernel), List.mem_of_getElem? (i := 692) (by decide +kernel)⟩
theorem lw_p33 : lw_okq (⟨"LabelHallModel", "takeInner", "(III)V"⟩, 25) := ⟨⟨by decide +kernel, by decide +kernel⟩, List.mem_of_getElem? (i := 504) (by decide +kernel), List.mem_of_getElem? (i := 695) (by decide +kernel), List.mem_of_getElem? (i := 696) (by decide +kernel)⟩
theorem lw_p34 : lw_okq (⟨"LabelHallModel", "giveInner", "(II)V"⟩, 25) := ⟨⟨by decide +kernel, by decide +kernel⟩, List.mem_of_getElem? (i := 504) (by decide +kernel), List.mem_of_getElem? (i := 700) (by decide +kernel), List.mem_of_getElem? (i := 701) (by decide +kernel)⟩
theorem lw_p35 : lw_okq (⟨"LabelHallModel", "dealInner", "(III)V"⟩, 25) := ⟨⟨by decide +kernel, by decide +kernel⟩, List.mem_of_getElem? (i := 504) (by decide +kernel), List.mem_of_getElem? (i := 704) (by decide +kernel), List.mem_of_getElem? (i := 705) (by decide +kernel)⟩
theorem lw_p36 : lw_okq (⟨"LabelHallModel", "comeByLabel", "(III)Z"⟩, 25) := ⟨⟨by decide +kernel, by decide +kernel⟩, List.mem_of_getElem? (i := 504) (by decide +kernel), List.mem_of_getElem? (i := 708) (by decide +kernel), List.mem_of_getElem? (i := 709) (by decide +kernel)⟩
theorem lw_p37 : lw_okq (⟨"LabelHallModel", "tight", "(II)Z"⟩, 25) := ⟨⟨by decide +kernel, by decide +kernel⟩, List.mem_of_getElem? (i := 504) (by decide +kernel), List.mem_of_getElem? (i := 712) (by decide +kernel), List.mem_of_getElem? (i := 713) (by decide +kernel)⟩
theorem lw_p38 : lw_okq (⟨"LabelHallModel", "span", "(II)I"⟩, 25) := ⟨⟨by decide +kernel, by decide +kernel⟩, List.mem_of_getElem? (i := 504) (by decide +kernel), List.mem_of_getElem? (i := 720) (by decide +kernel), List.mem_of_getElem? (i := 721) (by decide +kernel)⟩
theorem lw_p39 : lw_okq (⟨"LabelHallModel", "takeOut", "(III)I"⟩, 25) := ⟨⟨by decide +kernel, by decide +kernel⟩, List.mem_of_getElem? (i := 504) (by decide +kernel), List.mem_of_getElem? (i := 724) (by decide +kernel), List.mem_of_getElem? (i := 725) (by decide +kernel)⟩
theorem lw_p40 : lw_okq (⟨"LabelHallModel", "leave", "(II)V"⟩, 25) := ⟨⟨by decide +kernel, by decide +kernel⟩, List.mem_of_getElem? (i := 504) (by decide +kernel), List.mem_of_getElem? (i := 728) (by decide +kernel), List.mem_of_getElem? (i := 729) (by decide +kernel)⟩
theorem lw_p41 : lw_okq (⟨"LabelHallModel", "bring", "(II)Z"⟩, 25) := ⟨⟨by decide +kernel, by decide +kernel⟩, List.mem_of_getElem? (i := 504) (by decide +kernel), List.mem_of_getElem? (i := 736) (by decide +kernel), List.mem_of_getElem? (i := 737) (by decide +kernel)⟩
theorem lw_p42 : lw_okq (⟨"LabelHallModel", "depthOf", "(II)I"⟩, 25) := ⟨⟨by decide +kernel, by decide +kernel⟩, List.mem_of_getElem? (i := 504) (by decide +kernel), List.mem_of_getElem? (i := 748) (by decide +kernel), List.mem_of_getElem? (i := 749) (by decide +kernel)⟩
theorem lw_p43 : lw_okq (⟨"LabelHallModel", "outerOf", "(II)I"⟩, 25) := ⟨⟨by decide +kernel, by decide +kernel⟩, List.mem_of_getElem? (i := 504) (by decide +kernel), List.mem_of_getElem? (i := 752) (by decide +kernel), List.mem_of_getElem? (i := 753) (by decide +kernel)⟩
theorem lw_p44 : lw_okq (⟨"LabelHallModel", "isWithin", "(III)Z"⟩, 25) := ⟨⟨by decide +kernel, by decide +kernel⟩, List.mem_of_getElem? (i := 504) (by decide +kernel), List.mem_of_getElem? (i := 756) (by decide +kernel), List.mem_of_getElem? (i := 757) (by decide +kernel)⟩
theorem lw_p45 : lw_okq (⟨"LabelHallModel", "areApart", "(II)Z"⟩, 25) := ⟨⟨by decide +kernel, by decide +kernel⟩, List.mem_of_getElem? (i := 504) (by decide +kernel), List.mem_of_getElem? (i := 764) (by decide +kernel), List.mem_of_getElem? (i := 765) (by decide +kernel)⟩
theorem lw_p46 : lw_okq (⟨"LabelHallModel", "thingFrom", "(III)I"⟩, 25) := ⟨⟨by decide +kernel, by decide +kernel⟩, List.mem_of_getElem? (i := 504) (by decide +kernel), List.mem_of_getElem? (i := 781) (by decide +kernel), List.mem_of_getElem? (i := 782) (by decide +kernel)⟩
theorem lw_p47 : lw_okq (⟨"LabelHallModel", "indexOf", "(II)I"⟩, 25) := ⟨⟨by decide +kernel, by decide +kernel⟩, List.mem_of_getElem? (i := 504) (by decide +kernel), List.mem_of_getElem? (i := 789) (by decide +kernel), List.mem_of_getElem? (i := 790) (by decide +kernel)⟩
def lw_privs_3 : List (MethodName × Nat) := [(⟨"LabelHallModel", "beginOf", "(II)I"⟩, 25), (⟨"LabelHallModel", "takeInner", "(III)V"⟩, 25), (⟨"LabelHallModel", "giveInner", "(II)V"⟩, 25), (⟨"LabelHallModel", "dealInner", "(III)V"⟩, 25), (⟨"LabelHallModel", "comeByLabel", "(III)Z"⟩, 25), (⟨"LabelHallModel", "tight", "(II)Z"⟩, 25), (⟨"LabelHallModel", "span", "(II)I"⟩, 25), (⟨"LabelHallModel", "takeOut", "(III)I"⟩, 25), (⟨"LabelHallModel", "leave", "(II)V"⟩, 25), (⟨"LabelHallModel", "bring", "(II)Z"⟩, 25), (⟨"LabelHallModel", "depthOf", "(II)I"⟩, 25), (⟨"LabelHallModel", "outerOf", "(II)I"⟩, 25), (⟨"LabelHallModel", "isWithin", "(III)Z"⟩, 25), (⟨"LabelHallModel", "areApart", "(II)Z"⟩, 25), (⟨"LabelHallModel", "thingFrom", "(III)I"⟩, 25), (⟨"LabelHallModel", "indexOf", "(II)I"⟩, 25)]
theorem lw_r3 : ∀ q ∈ lw_privs_3, lw_okq q := List.forall_mem_cons.mpr ⟨lw_p32, List.forall_mem_cons.mpr ⟨lw_p33, List.forall_mem_cons.mpr ⟨lw_p34, List.forall_mem_cons.mpr ⟨lw_p35, List.forall_mem_cons.mpr ⟨lw_p36, List.forall_mem_cons.mpr ⟨lw_p37, List.forall_mem_cons.mpr ⟨lw_p38, List.forall_mem_cons.mpr ⟨lw_p39, List.forall_mem_cons.mpr ⟨lw_p40, List.forall_mem_cons.mpr ⟨lw_p41, List.forall_mem_cons.mpr ⟨lw_p42, List.forall_mem_cons.mpr ⟨lw_p43, List.forall_mem_cons.mpr ⟨lw_p44, List.forall_mem_cons.mpr ⟨lw_p45, List.forall_mem_cons.mpr ⟨lw_p46, List.forall_mem_cons.mpr ⟨lw_p47, fun _ h => absurd h List.not_mem_nil⟩⟩⟩⟩⟩⟩⟩⟩⟩⟩⟩⟩⟩⟩⟩⟩
theorem lw_p48 : lw_okq (⟨"LabelHallModel", "isMark", "(I)Z"⟩, 25) := ⟨⟨by decide +kernel, by decide +kernel⟩, List.mem_of_getElem? (i := 504) (by decide +kernel), List.mem_of_getElem? (i := 825) (by decide +kernel), List.mem_of_getElem? (i := 826) (by decide +kernel)⟩
theorem lw_p49 : lw_okq (⟨"LabelHallModel", "thingsIn", "(I)I"⟩, 25) := ⟨⟨by decide +kernel, by decide +kernel⟩, List.mem_of_getElem? (i := 504) (by decide +kernel), List.mem_of_getElem? (i := 837) (by decide +kernel), List.mem_of_getElem? (i := 838) (by decide +kernel)⟩
def lw_privs_4 : List (MethodName × Nat) := [(⟨"LabelHallModel", "isMark", "(I)Z"⟩, 25), (⟨"LabelHallModel", "thingsIn", "(I)I"⟩, 25)]
theorem lw_r4 : ∀ q ∈ lw_privs_4, lw_okq q := List.forall_mem_cons.mpr ⟨lw_p48, List.forall_mem_cons.mpr ⟨lw_p49, fun _ h => absurd h List.not_mem_nil⟩⟩
def lw_privs : List (MethodName × Nat) := lw_privs_1 ++ (lw_privs_2 ++ (lw_privs_3 ++ (lw_privs_4)))
def lw_tbl : List Cond := k2_sels lw_privs ++ tables_1
theorem lw_privs_ok : ∀ q ∈ lw_privs, lw_okq q := by
  show ∀ q ∈ lw_privs_1 ++ (lw_privs_2 ++ (lw_privs_3 ++ (lw_privs_4))), lw_okq q
  exact List.forall_mem_append.mpr ⟨lw_r1, List.forall_mem_append.mpr ⟨lw_r2, List.forall_mem_append.mpr ⟨lw_r3, lw_r4⟩⟩⟩
end
section
/-! ===== BEGIN printed: names, fields, word lists, decode rows ===== -/
def RX0 : String := "LabelHall$Marks"
def TX0 : u_T := fun k => match k with
  | 0 => ("LabelHall$Marks", "rows", "[I", true)
  | 1 => ("LabelHall$Marks", "behinds", "[I", true)
  | _ => ("LabelHall$Marks", "leans", "[I", true)
def tyX0 : Nat → FieldType := fun k => match k with
  | 0 => .array .int
  | 1 => .array .int
  | _ => .array .int
theorem nmX0 : ∀ a, a < 3 → ∀ b, b < 3 → a ≠ b → (TX0 a).2.1 ≠ (TX0 b).2.1 := by decide +kernel
theorem tyX0_ok : ∀ k, k < 3 → parseFieldDescriptor (TX0 k).2.2.1 = some (tyX0 k) := by decide +kernel
abbrev cX0_init : ByteArray := prog_2_method_1_code
def yX0_init : MethodName := ⟨RX0, "<init>", "()V"⟩
abbrev cX0_copyFrom : ByteArray := prog_2_method_2_code
def yX0_copyFrom : MethodName := ⟨RX0, "copyFrom", "(LLabelHall$Marks;)V"⟩
abbrev cX0_isSet : ByteArray := prog_2_method_3_code
def yX0_isSet : MethodName := ⟨RX0, "isSet", "(I)Z"⟩
abbrev cX0_setCount : ByteArray := prog_2_method_4_code
def yX0_setCount : MethodName := ⟨RX0, "setCount", "()I"⟩
abbrev cX0_set : ByteArray := prog_2_method_5_code
def yX0_set : MethodName := ⟨RX0, "set", "(IIII)V"⟩
abbrev cX0_follow : ByteArray := prog_2_method_6_code
def yX0_follow : MethodName := ⟨RX0, "follow", "(III)V"⟩
def RX1 : String := "LabelHall$Order"
def TX1 : u_T := fun k => match k with
  | 0 => ("LabelHall$Order", "line", "[I", true)
  | 1 => ("LabelHall$Order", "begins", "[I", true)
  | _ => ("LabelHall$Order", "rows", "[I", true)
def tyX1 : Nat → FieldType := fun k => match k with
  | 0 => .array .int
  | 1 => .array .int
  | _ => .array .int
theorem nmX1 : ∀ a, a < 3 → ∀ b, b < 3 → a ≠ b → (TX1 a).2.1 ≠ (TX1 b).2.1 := by decide +kernel
theorem tyX1_ok : ∀ k, k < 3 → parseFieldDescriptor (TX1 k).2.2.1 = some (tyX1 k) := by decide +kernel
abbrev cX1_init : ByteArray := prog_3_method_1_code
def yX1_init : MethodName := ⟨RX1, "<init>", "()V"⟩
abbrev cX1_copyFrom : ByteArray := prog_3_method_2_code
def yX1_copyFrom : MethodName := ⟨RX1, "copyFrom", "(LLabelHall$Order;)V"⟩
abbrev cX1_first : ByteArray := prog_3_method_3_code
def yX1_first : MethodName := ⟨RX1, "first", "(I)I"⟩
abbrev cX1_end : ByteArray := prog_3_method_4_code
def yX1_end : MethodName := ⟨RX1, "end", "(I)I"⟩
abbrev cX1_length : ByteArray := prog_3_method_5_code
def yX1_length : MethodName := ⟨RX1, "length", "(I)I"⟩
abbrev cX1_rowOfThing : ByteArray := prog_3_method_6_code
def yX1_rowOfThing : MethodName := ⟨RX1, "rowOfThing", "(I)I"⟩
abbrev cX1_standAt : ByteArray := prog_3_method_7_code
def yX1_standAt : MethodName := ⟨RX1, "standAt", "(I)I"⟩
abbrev cX1_lastStand : ByteArray := prog_3_method_8_code
def yX1_lastStand : MethodName := ⟨RX1, "lastStand", "(I)I"⟩
abbrev cX1_placeOf : ByteArray := prog_3_method_9_code
def yX1_placeOf : MethodName := ⟨RX1, "placeOf", "(I)I"⟩
abbrev cX1_insert : ByteArray := prog_3_method_10_code
def yX1_insert : MethodName := ⟨RX1, "insert", "(III)V"⟩
abbrev cX1_remove : ByteArray := prog_3_method_11_code
def yX1_remove : MethodName := ⟨RX1, "remove", "(III)V"⟩
def RX2 : String := "LabelHall$State"
def TX2 : u_T := fun k => match k with
  | 0 => ("LabelHall$State", "order", "LLabelHall$Order;", true)
  | 1 => ("LabelHall$State", "marks", "LLabelHall$Marks;", true)
  | 2 => ("LabelHall$State", "kinds", "[I", true)
  | 3 => ("LabelHall$State", "widths", "[I", true)
  | 4 => ("LabelHall$State", "greatest", "[I", true)
  | 5 => ("LabelHall$State", "labels", "[J", true)
  | 6 => ("LabelHall$State", "inners", "[I", true)
  | _ => ("LabelHall$State", "renamed", "I", false)
def tyX2 : Nat → FieldType := fun k => match k with
  | 0 => .object "LabelHall$Order"
  | 1 => .object "LabelHall$Marks"
  | 2 => .array .int
  | 3 => .array .int
  | 4 => .array .int
  | 5 => .array .long
  | 6 => .array .int
  | _ => .int
theorem nmX2 : ∀ a, a < 8 → ∀ b, b < 8 → a ≠ b → (TX2 a).2.1 ≠ (TX2 b).2.1 := by decide +kernel
theorem tyX2_ok : ∀ k, k < 8 → parseFieldDescriptor (TX2 k).2.2.1 = some (tyX2 k) := by decide +kernel
abbrev cX2_init : ByteArray := prog_4_method_1_code
def yX2_init : MethodName := ⟨RX2, "<init>", "()V"⟩
abbrev cX2_copyFrom : ByteArray := prog_4_method_2_code
def yX2_copyFrom : MethodName := ⟨RX2, "copyFrom", "(LLabelHall$State;)V"⟩
abbrev cX2_isRow : ByteArray := prog_4_method_3_code
def yX2_isRow : MethodName := ⟨RX2, "isRow", "(I)Z"⟩
abbrev cX2_hasBlocks : ByteArray := prog_4_method_4_code
def yX2_hasBlocks : MethodName := ⟨RX2, "hasBlocks", "(I)Z"⟩
abbrev cX2_rowCount : ByteArray := prog_4_method_5_code
def yX2_rowCount : MethodName := ⟨RX2, "rowCount", "()I"⟩
abbrev cX2_thingsIn : ByteArray := prog_4_method_6_code
def yX2_thingsIn : MethodName := ⟨RX2, "thingsIn", "(I)I"⟩
abbrev cX2_thingsInAll : ByteArray := prog_4_method_7_code
def yX2_thingsInAll : MethodName := ⟨RX2, "thingsInAll", "()I"⟩
abbrev cX2_blocksIn : ByteArray := prog_4_method_8_code
def yX2_blocksIn : MethodName := ⟨RX2, "blocksIn", "(I)I"⟩
abbrev cX2_firstPlace : ByteArray := prog_4_method_9_code
def yX2_firstPlace : MethodName := ⟨RX2, "firstPlace", "(I)I"⟩
abbrev cX2_lastPlace : ByteArray := prog_4_method_10_code
def yX2_lastPlace : MethodName := ⟨RX2, "lastPlace", "(I)I"⟩
abbrev cX2_placeBehind : ByteArray := prog_4_method_11_code
def yX2_placeBehind : MethodName := ⟨RX2, "placeBehind", "(II)I"⟩
abbrev cX2_isNested : ByteArray := prog_4_method_12_code
def yX2_isNested : MethodName := ⟨RX2, "isNested", "(I)Z"⟩
abbrev cX2_labelAt : ByteArray := prog_4_method_13_code
def yX2_labelAt : MethodName := ⟨RX2, "labelAt", "(I)J"⟩
abbrev cX2_setLabel : ByteArray := prog_4_method_14_code
def yX2_setLabel : MethodName := ⟨RX2, "setLabel", "(IJ)V"⟩
abbrev cX2_innerAt : ByteArray := prog_4_method_15_code
def yX2_innerAt : MethodName := ⟨RX2, "innerAt", "(I)I"⟩
abbrev cX2_setInner : ByteArray := prog_4_method_16_code
def yX2_setInner : MethodName := ⟨RX2, "setInner", "(II)V"⟩
abbrev cX2_inOneRow : ByteArray := prog_4_method_17_code
def yX2_inOneRow : MethodName := ⟨RX2, "inOneRow", "(II)Z"⟩
abbrev cX2_isAhead : ByteArray := prog_4_method_18_code
def yX2_isAhead : MethodName := ⟨RX2, "isAhead", "(II)Z"⟩
abbrev cX2_encloses : ByteArray := prog_4_method_19_code
def yX2_encloses : MethodName := ⟨RX2, "encloses", "(II)Z"⟩
abbrev cX2_innermost : ByteArray := prog_4_method_20_code
def yX2_innermost : MethodName := ⟨RX2, "innermost", "(II)I"⟩
abbrev cX2_enclosingCount : ByteArray := prog_4_method_21_code
def yX2_enclosingCount : MethodName := ⟨RX2, "enclosingCount", "(I)I"⟩
abbrev cX2_firstWithin : ByteArray := prog_4_method_22_code
def yX2_firstWithin : MethodName := ⟨RX2, "firstWithin", "(I)I"⟩
abbrev cX2_neighbour : ByteArray := prog_4_method_23_code
def yX2_neighbour : MethodName := ⟨RX2, "neighbour", "(II)I"⟩
abbrev cX2_thingsAhead : ByteArray := prog_4_method_24_code
def yX2_thingsAhead : MethodName := ⟨RX2, "thingsAhead", "(I)I"⟩
abbrev cX2_thingNumber : ByteArray := prog_4_method_25_code
def yX2_thingNumber : MethodName := ⟨RX2, "thingNumber", "(II)I"⟩
abbrev cX2_takeOut : ByteArray := prog_4_method_26_code
def yX2_takeOut : MethodName := ⟨RX2, "takeOut", "(III[I)I"⟩
abbrev cX2_bring : ByteArray := prog_4_method_27_code
def yX2_bring : MethodName := ⟨RX2, "bring", "(III)Z"⟩
abbrev cX2_labelWithin : ByteArray := prog_4_method_28_code
def yX2_labelWithin : MethodName := ⟨RX2, "labelWithin", "(IIII)V"⟩
abbrev cX2_partBlock : ByteArray := prog_4_method_29_code
def yX2_partBlock : MethodName := ⟨RX2, "partBlock", "(III)Z"⟩
abbrev cX2_dealInners : ByteArray := prog_4_method_30_code
def yX2_dealInners : MethodName := ⟨RX2, "dealInners", "(III)V"⟩
abbrev cX2_labelRun : ByteArray := prog_4_method_31_code
def yX2_labelRun : MethodName := ⟨RX2, "labelRun", "(III)Z"⟩
abbrev cX2_spreadRuns : ByteArray := prog_4_method_32_code
def yX2_spreadRuns : MethodName := ⟨RX2, "spreadRuns", "(III)Z"⟩
abbrev cX2_dealLabels : ByteArray := prog_4_method_33_code
def yX2_dealLabels : MethodName := ⟨RX2, "dealLabels", "(IIIJII)V"⟩
def RX3 : String := "LabelHall"
def TX3 : u_T := fun k => match k with
  | 0 => ("LabelHall", "kept", "[LLabelHall$State;", true)
  | 1 => ("LabelHall", "passage", "[I", true)
  | 2 => ("LabelHall", "now", "LLabelHall$State;", false)
  | 3 => ("LabelHall", "newestSlot", "I", false)
  | 4 => ("LabelHall", "keptCount", "I", false)
  | _ => ("LabelHall", "thingCount", "I", false)
def tyX3 : Nat → FieldType := fun k => match k with
  | 0 => .array (.object "LabelHall$State")
  | 1 => .array .int
  | 2 => .object "LabelHall$State"
  | 3 => .int
  | 4 => .int
  | _ => .int
theorem nmX3 : ∀ a, a < 6 → ∀ b, b < 6 → a ≠ b → (TX3 a).2.1 ≠ (TX3 b).2.1 := by decide +kernel
theorem tyX3_ok : ∀ k, k < 6 → parseFieldDescriptor (TX3 k).2.2.1 = some (tyX3 k) := by decide +kernel
abbrev cX3_init : ByteArray := prog_1_method_1_code
def yX3_init : MethodName := ⟨RX3, "<init>", "()V"⟩
abbrev cX3_row : ByteArray := prog_1_method_2_code
def yX3_row : MethodName := ⟨RX3, "row", "(III)I"⟩
abbrev cX3_put : ByteArray := prog_1_method_3_code
def yX3_put : MethodName := ⟨RX3, "put", "(IIZ)I"⟩
abbrev cX3_drop : ByteArray := prog_1_method_4_code
def yX3_drop : MethodName := ⟨RX3, "drop", "(I)I"⟩
abbrev cX3_move : ByteArray := prog_1_method_5_code
def yX3_move : MethodName := ⟨RX3, "move", "(IIZ)I"⟩
abbrev cX3_join : ByteArray := prog_1_method_6_code
def yX3_join : MethodName := ⟨RX3, "join", "(II)I"⟩
abbrev cX3_split : ByteArray := prog_1_method_7_code
def yX3_split : MethodName := ⟨RX3, "split", "(II)I"⟩
abbrev cX3_less : ByteArray := prog_1_method_8_code
def yX3_less : MethodName := ⟨RX3, "less", "(II)I"⟩
abbrev cX3_label : ByteArray := prog_1_method_9_code
def yX3_label : MethodName := ⟨RX3, "label", "(IZ)J"⟩
abbrev cX3_inner : ByteArray := prog_1_method_10_code
def yX3_inner : MethodName := ⟨RX3, "inner", "(IZ)I"⟩
abbrev cX3_near : ByteArray := prog_1_method_11_code
def yX3_near : MethodName := ⟨RX3, "near", "(II)I"⟩
abbrev cX3_index : ByteArray := prog_1_method_12_code
def yX3_index : MethodName := ⟨RX3, "index", "(I)I"⟩
abbrev cX3_at : ByteArray := prog_1_method_13_code
def yX3_at : MethodName := ⟨RX3, "at", "(II)I"⟩
abbrev cX3_between : ByteArray := prog_1_method_14_code
def yX3_between : MethodName := ⟨RX3, "between", "(II)I"⟩
abbrev cX3_holds : ByteArray := prog_1_method_15_code
def yX3_holds : MethodName := ⟨RX3, "holds", "(II)I"⟩
abbrev cX3_meet : ByteArray := prog_1_method_16_code
def yX3_meet : MethodName := ⟨RX3, "meet", "(II)I"⟩
abbrev cX3_depth : ByteArray := prog_1_method_17_code
def yX3_depth : MethodName := ⟨RX3, "depth", "(I)I"⟩
abbrev cX3_rowOf : ByteArray := prog_1_method_18_code
def yX3_rowOf : MethodName := ⟨RX3, "rowOf", "(I)I"⟩
abbrev cX3_mark : ByteArray := prog_1_method_19_code
def yX3_mark : MethodName := ⟨RX3, "mark", "(IIII)I"⟩
abbrev cX3_marked : ByteArray := prog_1_method_20_code
def yX3_marked : MethodName := ⟨RX3, "marked", "(I)I"⟩
abbrev cX3_putAt : ByteArray := prog_1_method_21_code
def yX3_putAt : MethodName := ⟨RX3, "putAt", "(I)I"⟩
abbrev cX3_undo : ByteArray := prog_1_method_22_code
def yX3_undo : MethodName := ⟨RX3, "undo", "()I"⟩
abbrev cX3_about : ByteArray := prog_1_method_23_code
def yX3_about : MethodName := ⟨RX3, "about", "(II)I"⟩
abbrev cX3_isOf : ByteArray := prog_1_method_24_code
def yX3_isOf : MethodName := ⟨RX3, "isOf", "(II)I"⟩
abbrev cX3_count : ByteArray := prog_1_method_25_code
def yX3_count : MethodName := ⟨RX3, "count", "(I)I"⟩
abbrev cX3_isKind : ByteArray := prog_1_method_26_code
def yX3_isKind : MethodName := ⟨RX3, "isKind", "(I)Z"⟩
abbrev cX3_isEnd : ByteArray := prog_1_method_27_code
def yX3_isEnd : MethodName := ⟨RX3, "isEnd", "(I)Z"⟩
abbrev cX3_thingOf : ByteArray := prog_1_method_28_code
def yX3_thingOf : MethodName := ⟨RX3, "thingOf", "(I)I"⟩
abbrev cX3_standOf : ByteArray := prog_1_method_29_code
def yX3_standOf : MethodName := ⟨RX3, "standOf", "(IZ)I"⟩
abbrev cX3_dealt : ByteArray := prog_1_method_30_code
def yX3_dealt : MethodName := ⟨RX3, "dealt", "(JIII)J"⟩
abbrev cX3_isStanding : ByteArray := prog_1_method_31_code
def yX3_isStanding : MethodName := ⟨RX3, "isStanding", "(I)Z"⟩
abbrev cX3_faultOfPair : ByteArray := prog_1_method_32_code
def yX3_faultOfPair : MethodName := ⟨RX3, "faultOfPair", "(II)I"⟩
abbrev cX3_hasStand : ByteArray := prog_1_method_33_code
def yX3_hasStand : MethodName := ⟨RX3, "hasStand", "(IZ)Z"⟩
abbrev cX3_isPlace : ByteArray := prog_1_method_34_code
def yX3_isPlace : MethodName := ⟨RX3, "isPlace", "(IIZ)Z"⟩
abbrev cX3_admit : ByteArray := prog_1_method_35_code
def yX3_admit : MethodName := ⟨RX3, "admit", "(II)I"⟩
abbrev cX3_carry : ByteArray := prog_1_method_36_code
def yX3_carry : MethodName := ⟨RX3, "carry", "(IIIII)I"⟩
abbrev cX3_thingsInPassage : ByteArray := prog_1_method_37_code
def yX3_thingsInPassage : MethodName := ⟨RX3, "thingsInPassage", "(I)I"⟩
abbrev cX3_spareSlot : ByteArray := prog_1_method_38_code
def yX3_spareSlot : MethodName := ⟨RX3, "spareSlot", "()I"⟩
abbrev cX3_beginChange : ByteArray := prog_1_method_39_code
def yX3_beginChange : MethodName := ⟨RX3, "beginChange", "()V"⟩
abbrev cX3_endChange : ByteArray := prog_1_method_40_code
def yX3_endChange : MethodName := ⟨RX3, "endChange", "(Z)V"⟩
abbrev cX3_exchangeWith : ByteArray := prog_1_method_41_code
def yX3_exchangeWith : MethodName := ⟨RX3, "exchangeWith", "(I)V"⟩
def RX4 : String := "LabelHallModel"
def TX4 : u_T := fun k => match k with
  | 0 => ("LabelHallModel", "thrown", "I", false)
  | 1 => ("LabelHallModel", "things", "I", false)
  | 2 => ("LabelHallModel", "kind", "[I", true)
  | 3 => ("LabelHallModel", "width", "[I", true)
  | 4 => ("LabelHallModel", "many", "[I", true)
  | 5 => ("LabelHallModel", "greatest", "[I", true)
  | 6 => ("LabelHallModel", "blocks", "[I", true)
  | 7 => ("LabelHallModel", "list", "[I", true)
  | 8 => ("LabelHallModel", "blockLong", "[I", true)
  | 9 => ("LabelHallModel", "blockLabel", "[J", true)
  | 10 => ("LabelHallModel", "label", "[J", true)
  | 11 => ("LabelHallModel", "inner", "[I", true)
  | 12 => ("LabelHallModel", "markRow", "[I", true)
  | 13 => ("LabelHallModel", "markAt", "[I", true)
  | 14 => ("LabelHallModel", "markLean", "[I", true)
  | 15 => ("LabelHallModel", "renamed", "I", false)
  | 16 => ("LabelHallModel", "oldInts", "[I", true)
  | 17 => ("LabelHallModel", "oldLongs", "[J", true)
  | 18 => ("LabelHallModel", "keptEnd", "I", false)
  | 19 => ("LabelHallModel", "kept", "I", false)
  | 20 => ("LabelHallModel", "pen", "I", false)
  | 21 => ("LabelHallModel", "hand", "[J", true)
  | 22 => ("LabelHallModel", "handMany", "I", false)
  | 23 => ("LabelHallModel", "gone", "[I", true)
  | _ => ("LabelHallModel", "goneMany", "I", false)
def tyX4 : Nat → FieldType := fun k => match k with
  | 0 => .int
  | 1 => .int
  | 2 => .array .int
  | 3 => .array .int
  | 4 => .array .int
  | 5 => .array .int
  | 6 => .array .int
  | 7 => .array .int
  | 8 => .array .int
  | 9 => .array .long
  | 10 => .array .long
  | 11 => .array .int
  | 12 => .array .int
  | 13 => .array .int
  | 14 => .array .int
  | 15 => .int
  | 16 => .array .int
  | 17 => .array .long
  | 18 => .int
  | 19 => .int
  | 20 => .int
  | 21 => .array .long
  | 22 => .int
  | 23 => .array .int
  | _ => .int
theorem nmX4 : ∀ a, a < 25 → ∀ b, b < 25 → a ≠ b → (TX4 a).2.1 ≠ (TX4 b).2.1 := by decide +kernel
theorem tyX4_ok : ∀ k, k < 25 → parseFieldDescriptor (TX4 k).2.2.1 = some (tyX4 k) := by decide +kernel
abbrev cX4_init : ByteArray := prog_6_method_1_code
def yX4_init : MethodName := ⟨RX4, "<init>", "()V"⟩
abbrev cX4_in : ByteArray := prog_6_method_3_code
def yX4_in : MethodName := ⟨RX4, "in", "(III)Z"⟩
abbrev cX4_write : ByteArray := prog_6_method_4_code
def yX4_write : MethodName := ⟨RX4, "write", "([II)V"⟩
abbrev cX4_read : ByteArray := prog_6_method_5_code
def yX4_read : MethodName := ⟨RX4, "read", "([II)V"⟩
abbrev cX4_save : ByteArray := prog_6_method_6_code
def yX4_save : MethodName := ⟨RX4, "save", "(I)V"⟩
abbrev cX4_load : ByteArray := prog_6_method_7_code
def yX4_load : MethodName := ⟨RX4, "load", "(I)V"⟩
abbrev cX4_keep : ByteArray := prog_6_method_8_code
def yX4_keep : MethodName := ⟨RX4, "keep", "()V"⟩
abbrev cX4_undo : ByteArray := prog_6_method_9_code
def yX4_undo : MethodName := ⟨RX4, "undo", "()I"⟩
abbrev cX4_isRow : ByteArray := prog_6_method_10_code
def yX4_isRow : MethodName := ⟨RX4, "isRow", "(I)Z"⟩
abbrev cX4_rowWith : ByteArray := prog_6_method_11_code
def yX4_rowWith : MethodName := ⟨RX4, "rowWith", "(I)I"⟩
abbrev cX4_placeOf : ByteArray := prog_6_method_12_code
def yX4_placeOf : MethodName := ⟨RX4, "placeOf", "(II)I"⟩
abbrev cX4_isThing : ByteArray := prog_6_method_13_code
def yX4_isThing : MethodName := ⟨RX4, "isThing", "(I)Z"⟩
abbrev cX4_hasBlocks : ByteArray := prog_6_method_14_code
def yX4_hasBlocks : MethodName := ⟨RX4, "hasBlocks", "(I)Z"⟩
abbrev cX4_row : ByteArray := prog_6_method_15_code
def yX4_row : MethodName := ⟨RX4, "row", "(III)I"⟩
abbrev cX4_dealt : ByteArray := prog_6_method_16_code
def yX4_dealt : MethodName := ⟨RX4, "dealt", "(IIIJII)V"⟩
abbrev cX4_open : ByteArray := prog_6_method_17_code
def yX4_open : MethodName := ⟨RX4, "open", "(I)V"⟩
abbrev cX4_between : ByteArray := prog_6_method_18_code
def yX4_between : MethodName := ⟨RX4, "between", "(IJ)Z"⟩
abbrev cX4_tight : ByteArray := prog_6_method_19_code
def yX4_tight : MethodName := ⟨RX4, "tight", "(II)Z"⟩
abbrev cX4_spread : ByteArray := prog_6_method_20_code
def yX4_spread : MethodName := ⟨RX4, "spread", "(II)Z"⟩
abbrev cX4_shift : ByteArray := prog_6_method_21_code
def yX4_shift : MethodName := ⟨RX4, "shift", "(III)V"⟩
abbrev cX4_comeByLabel : ByteArray := prog_6_method_22_code
def yX4_comeByLabel : MethodName := ⟨RX4, "comeByLabel", "(III)Z"⟩
abbrev cX4_newBlock : ByteArray := prog_6_method_23_code
def yX4_newBlock : MethodName := ⟨RX4, "newBlock", "(III)Z"⟩
abbrev cX4_blockAt : ByteArray := prog_6_method_24_code
def yX4_blockAt : MethodName := ⟨RX4, "blockAt", "(II)I"⟩
abbrev cX4_beginOf : ByteArray := prog_6_method_25_code
def yX4_beginOf : MethodName := ⟨RX4, "beginOf", "(II)I"⟩
abbrev cX4_takeInner : ByteArray := prog_6_method_26_code
def yX4_takeInner : MethodName := ⟨RX4, "takeInner", "(III)V"⟩
abbrev cX4_giveInner : ByteArray := prog_6_method_27_code
def yX4_giveInner : MethodName := ⟨RX4, "giveInner", "(II)V"⟩
abbrev cX4_dealInner : ByteArray := prog_6_method_28_code
def yX4_dealInner : MethodName := ⟨RX4, "dealInner", "(III)V"⟩
abbrev cX4_comeToBlock : ByteArray := prog_6_method_29_code
def yX4_comeToBlock : MethodName := ⟨RX4, "comeToBlock", "(III)Z"⟩
abbrev cX4_come : ByteArray := prog_6_method_30_code
def yX4_come : MethodName := ⟨RX4, "come", "(III)Z"⟩
abbrev cX4_leave : ByteArray := prog_6_method_31_code
def yX4_leave : MethodName := ⟨RX4, "leave", "(II)V"⟩
abbrev cX4_span : ByteArray := prog_6_method_32_code
def yX4_span : MethodName := ⟨RX4, "span", "(II)I"⟩
abbrev cX4_takeOut : ByteArray := prog_6_method_33_code
def yX4_takeOut : MethodName := ⟨RX4, "takeOut", "(III)I"⟩
abbrev cX4_bring : ByteArray := prog_6_method_34_code
def yX4_bring : MethodName := ⟨RX4, "bring", "(II)Z"⟩
abbrev cX4_placeBehind : ByteArray := prog_6_method_35_code
def yX4_placeBehind : MethodName := ⟨RX4, "placeBehind", "(IIZ)I"⟩
abbrev cX4_putNew : ByteArray := prog_6_method_36_code
def yX4_putNew : MethodName := ⟨RX4, "putNew", "(II)I"⟩
abbrev cX4_put : ByteArray := prog_6_method_37_code
def yX4_put : MethodName := ⟨RX4, "put", "(IIZ)I"⟩
abbrev cX4_drop : ByteArray := prog_6_method_38_code
def yX4_drop : MethodName := ⟨RX4, "drop", "(I)I"⟩
abbrev cX4_move : ByteArray := prog_6_method_39_code
def yX4_move : MethodName := ⟨RX4, "move", "(IIZ)I"⟩
abbrev cX4_join : ByteArray := prog_6_method_40_code
def yX4_join : MethodName := ⟨RX4, "join", "(II)I"⟩
abbrev cX4_split : ByteArray := prog_6_method_41_code
def yX4_split : MethodName := ⟨RX4, "split", "(II)I"⟩
abbrev cX4_areApart : ByteArray := prog_6_method_42_code
def yX4_areApart : MethodName := ⟨RX4, "areApart", "(II)Z"⟩
abbrev cX4_less : ByteArray := prog_6_method_43_code
def yX4_less : MethodName := ⟨RX4, "less", "(II)I"⟩
abbrev cX4_label : ByteArray := prog_6_method_44_code
def yX4_label : MethodName := ⟨RX4, "label", "(IZ)J"⟩
abbrev cX4_inner : ByteArray := prog_6_method_45_code
def yX4_inner : MethodName := ⟨RX4, "inner", "(IZ)I"⟩
abbrev cX4_thingFrom : ByteArray := prog_6_method_46_code
def yX4_thingFrom : MethodName := ⟨RX4, "thingFrom", "(III)I"⟩
abbrev cX4_isWithin : ByteArray := prog_6_method_47_code
def yX4_isWithin : MethodName := ⟨RX4, "isWithin", "(III)Z"⟩
abbrev cX4_outerOf : ByteArray := prog_6_method_48_code
def yX4_outerOf : MethodName := ⟨RX4, "outerOf", "(II)I"⟩
abbrev cX4_depthOf : ByteArray := prog_6_method_49_code
def yX4_depthOf : MethodName := ⟨RX4, "depthOf", "(II)I"⟩
abbrev cX4_near : ByteArray := prog_6_method_50_code
def yX4_near : MethodName := ⟨RX4, "near", "(II)I"⟩
abbrev cX4_indexOf : ByteArray := prog_6_method_51_code
def yX4_indexOf : MethodName := ⟨RX4, "indexOf", "(II)I"⟩
abbrev cX4_index : ByteArray := prog_6_method_52_code
def yX4_index : MethodName := ⟨RX4, "index", "(I)I"⟩
abbrev cX4_at : ByteArray := prog_6_method_53_code
def yX4_at : MethodName := ⟨RX4, "at", "(II)I"⟩
abbrev cX4_between_ : ByteArray := prog_6_method_54_code
def yX4_between_ : MethodName := ⟨RX4, "between", "(II)I"⟩
abbrev cX4_holds : ByteArray := prog_6_method_55_code
def yX4_holds : MethodName := ⟨RX4, "holds", "(II)I"⟩
abbrev cX4_meet : ByteArray := prog_6_method_56_code
def yX4_meet : MethodName := ⟨RX4, "meet", "(II)I"⟩
abbrev cX4_depth : ByteArray := prog_6_method_57_code
def yX4_depth : MethodName := ⟨RX4, "depth", "(I)I"⟩
abbrev cX4_rowOf : ByteArray := prog_6_method_58_code
def yX4_rowOf : MethodName := ⟨RX4, "rowOf", "(I)I"⟩
abbrev cX4_mark : ByteArray := prog_6_method_59_code
def yX4_mark : MethodName := ⟨RX4, "mark", "(IIII)I"⟩
abbrev cX4_isMark : ByteArray := prog_6_method_60_code
def yX4_isMark : MethodName := ⟨RX4, "isMark", "(I)Z"⟩
abbrev cX4_marked : ByteArray := prog_6_method_61_code
def yX4_marked : MethodName := ⟨RX4, "marked", "(I)I"⟩
abbrev cX4_putAt : ByteArray := prog_6_method_62_code
def yX4_putAt : MethodName := ⟨RX4, "putAt", "(I)I"⟩
abbrev cX4_thingsIn : ByteArray := prog_6_method_63_code
def yX4_thingsIn : MethodName := ⟨RX4, "thingsIn", "(I)I"⟩
abbrev cX4_about : ByteArray := prog_6_method_64_code
def yX4_about : MethodName := ⟨RX4, "about", "(II)I"⟩
abbrev cX4_isOf : ByteArray := prog_6_method_65_code
def yX4_isOf : MethodName := ⟨RX4, "isOf", "(II)I"⟩
abbrev cX4_count : ByteArray := prog_6_method_66_code
def yX4_count : MethodName := ⟨RX4, "count", "(I)I"⟩
def RJ9 : String := "java/lang/Math"
def TJ9 : u_T := fun k => match k with
  | _ => ("", "", "", false)
def tyJ9 : Nat → FieldType := fun k => match k with
  | _ => .int
theorem nmJ9 : ∀ a, a < 0 → ∀ b, b < 0 → a ≠ b → (TJ9 a).2.1 ≠ (TJ9 b).2.1 := by decide +kernel
theorem tyJ9_ok : ∀ k, k < 0 → parseFieldDescriptor (TJ9 k).2.2.1 = some (tyJ9 k) := by decide +kernel
abbrev cJ9_abs_0f7a4 : ByteArray := prog_7_method_59_code
def yJ9_abs_0f7a4 : MethodName := ⟨RJ9, "abs", "(I)I"⟩
abbrev cJ9_max_7cf53 : ByteArray := prog_7_method_65_code
def yJ9_max_7cf53 : MethodName := ⟨RJ9, "max", "(II)I"⟩
abbrev cJ9_min_7cf53 : ByteArray := prog_7_method_69_code
def yJ9_min_7cf53 : MethodName := ⟨RJ9, "min", "(II)I"⟩
def RJ10 : String := "java/lang/System"
def TJ10 : u_T := fun k => match k with
  | _ => ("", "", "", false)
def tyJ10 : Nat → FieldType := fun k => match k with
  | _ => .int
theorem nmJ10 : ∀ a, a < 0 → ∀ b, b < 0 → a ≠ b → (TJ10 a).2.1 ≠ (TJ10 b).2.1 := by decide +kernel
theorem tyJ10_ok : ∀ k, k < 0 → parseFieldDescriptor (TJ10 k).2.2.1 = some (tyJ10 k) := by decide +kernel
def RJ7 : String := "java/util/Arrays"
def TJ7 : u_T := fun k => match k with
  | _ => ("", "", "", false)
def tyJ7 : Nat → FieldType := fun k => match k with
  | _ => .int
theorem nmJ7 : ∀ a, a < 0 → ∀ b, b < 0 → a ≠ b → (TJ7 a).2.1 ≠ (TJ7 b).2.1 := by decide +kernel
theorem tyJ7_ok : ∀ k, k < 0 → parseFieldDescriptor (TJ7 k).2.2.1 = some (tyJ7 k) := by decide +kernel
abbrev cJ7_fill_53178 : ByteArray := prog_9_method_103_code
def yJ7_fill_53178 : MethodName := ⟨RJ7, "fill", "([II)V"⟩
def RL : String := "LabelHallLaw"
abbrev cL_law : ByteArray := code
def yL_law : MethodName := ⟨RL, "law", "([I)Z"⟩
end
section
/-! ===== the frame of this proof: words, worlds, contracts ===== -/
abbrev vcl : List vw_C := [(RX0, TX0, 3), (RX1, TX1, 3), (RX2, TX2, 8), (RX3, TX3, 6), (RX4, TX4, 25)]
/-- the tables' words that hold at every state of the run -/
def lw_gt : List Cond := lw_tbl.filter goodWord
theorem lw_good : ∀ w ∈ lw_gt, goodWord w = true := fun _ h => (List.mem_filter.mp h).2
theorem lw_sub : ∀ w ∈ lw_gt, w ∈ lw_tbl := fun _ h => (List.mem_filter.mp h).1
theorem tw {w : Cond} (i : Nat) (h : tables_1[i]? = some w) (hg : goodWord w = true) : w ∈ lw_gt := List.mem_filter.mpr ⟨List.mem_append_right _ (List.mem_of_getElem? h), hg⟩
theorem tp {w : Cond} (i : Nat) (h : (k2_sels lw_privs)[i]? = some w) (hg : goodWord w = true) : w ∈ lw_gt := List.mem_filter.mpr ⟨List.mem_append_left _ (List.mem_of_getElem? h), hg⟩
def wM (y : MethodName) (cc : ByteArray) (n : Nat) (ret : Option FieldType) : List Cond := Cond.code y cc n ret :: lw_gt
theorem wM_good {y y0 : MethodName} {cc c0 : ByteArray} {n n0 : Nat} {ret r0 : Option FieldType} (h : Cond.code y cc n ret ∈ lw_gt) : GoodIn (wM y0 c0 n0 r0) (wM y cc n ret) := by
  intro w hw
  rcases List.mem_cons.mp hw with rfl | hw
  · exact ⟨List.mem_cons_of_mem _ h, good_of_word (lw_good _ h)⟩
  · exact ⟨List.mem_cons_of_mem _ hw, good_of_word (lw_good _ hw)⟩
abbrev GX : Type := va_G × ClassId × ClassId × ClassId
def tyL (G : GX) : List (ClassId × FieldType) := [(G.2.1, .int), (G.2.2.1, .long), (G.2.2.2, .object RX2)]
/-- the links between nest mates -/
def NW (U : State) : Prop := va_Nw (.methodLinkNest RX1 46 yX3_thingOf RX3) U ∧ va_Nw (.methodLinkNest RX2 174 yX3_dealt RX3) U ∧ va_Nw (.methodLinkNest RX2 97 yX3_standOf RX3) U ∧ va_Nw (.methodLinkNest RX2 120 yX3_thingOf RX3) U ∧ va_Nw (.methodLinkNest RX2 126 yX3_isEnd RX3) U
theorem NW.warm {s U : State} (hW : s.WarmedH U.vm) (h : NW s) : NW U := ⟨va_Nw.warmM hW h.1, va_Nw.warmM hW h.2.1, va_Nw.warmM hW h.2.2.1, va_Nw.warmM hW h.2.2.2.1, va_Nw.warmM hW h.2.2.2.2⟩
theorem NW.same {u U : State} (e : u.vm = U.vm) (h : NW u) : NW U := ⟨va_Nw.same rfl e h.1, va_Nw.same rfl e h.2.1, va_Nw.same rfl e h.2.2.1, va_Nw.same rfl e h.2.2.2.1, va_Nw.same rfl e h.2.2.2.2⟩
def KK (G : GX) (U : State) : Prop := va_K G.1 vcl (tyL G) U ∧ NW U
theorem KK.warm {G : GX} {s U : State} (hW : s.WarmedH U.vm) (h : KK G s) : KK G U := ⟨va_K.moved hW.alike h.1, h.2.warm hW⟩
def PW (G : GX) (ws : va_W) (U : State) : Prop := va_P G.1 vcl ws U.heap ∧ KK G U ∧ va_D (fun _ => True) ws
theorem PW.blind {av : List Value} {G : GX} {ws : va_W} : FrameBlind (va_Pc av (PW G ws)) := fun a U g mk q => ⟨q.1, q.2.1, ⟨va_K.moved (u := U) (U := U.calling g mk a) (Vm.Alike.refl U.vm) q.2.2.1.1, q.2.2.1.2.same (U := U.calling g mk a) rfl⟩, q.2.2.2⟩
def WD (G : GX) (A : Nat → Prop) (s : State) (ws : va_W) (H : Heap) (locs : List Loc) : Prop := KK G s ∧ va_P G.1 vcl ws H ∧ va_D A ws ∧ va_S A s.heap H locs
def aw (ws : va_W) : Nat → Prop := fun q => ∃ (k : Nat) (e : va_E), ws[k]? = some (q, e)
def QO (v : Option Value) : Array Value → State → Outcome → State → Prop := fun _ st o t => o = .returned v ∧ t.heap = st.heap
def QW (G : GX) (ws' : va_W) (A : Nat → Prop) (v : Option Value) : Array Value → State → Outcome → State → Prop := fun _ st o t => o = .returned v ∧ va_P G.1 vcl ws' t.heap ∧ va_F A st t
def FX (p : Program) (m : MethodId) (c : Code) (cc : ByteArray) (nL : Nat) (s : State) (args : Array Value) (y : MethodName) (ret : Option FieldType) (own : String) (meth : Method) : Prop := CallFix p m c cc nL s args (wM y cc nL ret) own ∧ meth.sig.returnType = ret ∧ meth.locks = false
def MO (l : Launch) (y : MethodName) (cc : ByteArray) (n : Nat) (ret : Option FieldType) (rm : Room) (G : GX) (ws : va_W) (av : List Value) (v : Option Value) : Prop := Met l y (wM y cc n ret) rm (va_Pc av (PW G ws)) (QO v) 0 0 (fun _ => False)
def MW (l : Launch) (y : MethodName) (cc : ByteArray) (n : Nat) (ret : Option FieldType) (rm : Room) (G : GX) (ws ws' : va_W) (av : List Value) (v : Option Value) : Prop := Met l y (wM y cc n ret) rm (va_Pc av (PW G ws)) (QW G ws' (aw ws) v) 0 0 (aw ws)
theorem aw_of {ws : va_W} {k : Nat} {q : Nat × va_E} (h : ws[k]? = some q) : aw ws q.1 := ⟨k, q.2, h⟩
theorem va_D.own {A : Nat → Prop} {ws : va_W} (h : va_D A ws) : va_D (aw ws) ws := ⟨h.1, fun _ _ hk => aw_of hk⟩
theorem va_D.any {A : Nat → Prop} {ws : va_W} (h : va_D A ws) : va_D (fun _ => True) ws := ⟨h.1, fun _ _ _ => trivial⟩
theorem va_D.own_in {A : Nat → Prop} {ws : va_W} (h : va_D A ws) : ∀ q, aw ws q → A q := fun q ⟨k, e, hk⟩ => h.2 k (q, e) hk
theorem aw_va {ws : va_W} {n q : Nat} (h : aw ws q) : va_A ws n q := Or.inl h
/-- the same addresses: apart as before -/
theorem va_D.addr {A : Nat → Prop} {ws ws' : va_W} (h : va_D A ws) (he : ws'.map (fun q => q.1) = ws.map (fun q => q.1)) : va_D A ws' := by
  have key : ∀ (i : Nat) (q : Nat × va_E), ws'[i]? = some q → ∃ e, ws[i]? = some (q.1, e) := by
    intro i q hq
    have h1 : (ws'.map (fun q => q.1))[i]? = some q.1 := by rw [List.getElem?_map, hq]; rfl
    rw [he, List.getElem?_map] at h1
    cases hi : ws[i]? with
    | none => rw [hi] at h1; cases h1
    | some z => rw [hi] at h1; exact ⟨z.2, by rw [← (Option.some.inj h1 : z.1 = q.1)]⟩
  refine ⟨fun i j p q hp hq hpq => ?_, fun k q hq => ?_⟩
  · obtain ⟨e1, h1⟩ := key i p hp
    obtain ⟨e2, h2⟩ := key j q hq
    exact h.1 i j _ _ h1 h2 hpq
  · obtain ⟨e1, h1⟩ := key k q hq
    exact h.2 k (q.1, e1) h1
theorem aw_addr {ws ws' : va_W} (he : ws'.map (fun q => q.1) = ws.map (fun q => q.1)) {q : Nat} (h : aw ws' q) : aw ws q := by
  obtain ⟨k, e, hk⟩ := h
  have h1 : (ws'.map (fun q => q.1))[k]? = some q := by rw [List.getElem?_map, hk]; rfl
  rw [he, List.getElem?_map] at h1
  cases hi : ws[k]? with
  | none => rw [hi] at h1; cases h1
  | some z =>
    rw [hi] at h1
    have e1 : z.1 = q := Option.some.inj h1
    exact ⟨k, z.2, by rw [← e1]; exact hi⟩
-- pure words
theorem gd {α : Type} {c : Prop} {inst : Decidable c} {x : Option α} {y : α} (h : @ite (Option α) c inst x none = some y) : c ∧ x = some y := by
  by_cases hc : c
  · rw [if_pos hc] at h; exact ⟨hc, h⟩
  · rw [if_neg hc] at h; cases h
theorem itT {α : Type} {c : Prop} {inst : Decidable c} {x z : Option α} {y : α} (h : @ite (Option α) c inst x z = some y) (hc : c) : x = some y := by rw [if_pos hc] at h; exact h
theorem itF {α : Type} {c : Prop} {inst : Decidable c} {x z : Option α} {y : α} (h : @ite (Option α) c inst x z = some y) (hc : ¬ c) : z = some y := by rw [if_neg hc] at h; exact h
/-- of a branch that is taken where its word is false -/
theorem itN {α : Type} {c : Prop} {inst : Decidable c} {x z : Option α} {y : α} (h : @ite (Option α) c inst x z = some y) (hc : ¬ ¬ c) : x = some y := itT h (Decidable.not_not.mp hc)
theorem bnd {α β : Type} {o : Option α} {k : α → Option β} {y : β} (h : o.bind k = some y) : ∃ x, o = some x ∧ k x = some y := by
  cases o with
  | none => cases h
  | some x => exact ⟨x, rfl, h⟩
/-- an index within -/
def ix (i : Int32) (n : Nat) : Bool := !(decide (i < 0)) && decide (i.toNatClampNeg < n)
theorem ix_in {i : Int32} {n : Nat} (h : ix i n = true) : vp_in i n := by
  unfold ix at h
  simp only [Bool.and_eq_true, Bool.not_eq_true', decide_eq_false_iff_not, decide_eq_true_eq] at h
  rintro (q | q)
  · exact h.1 q
  · omega
/-- a truth value -/
def zb (v : Int32) : Bool := v == 0 || v == 1
theorem zb_ok {v : Int32} (h : zb v = true) : narrow .boolean (.int v) = .int v := by
  unfold zb at h
  simp only [Bool.or_eq_true, beq_iff_eq] at h
  rcases h with rfl | rfl <;> rfl
noncomputable def NF : Nat := Classical.choose (⟨20000, rfl⟩ : ∃ n : Nat, n = 20000)
theorem NF_eq : NF = 20000 := Classical.choose_spec (⟨20000, rfl⟩ : ∃ n : Nat, n = 20000)
section BASE
variable {p : Program} {l : Launch} {e : Env} {R : Room} {s : State} {m : MethodId} {args : Array Value} {below : List Frame} {meth : Method} {c : Code} {H : Heap} {locs : List Loc} {cells slots : Nat} {Q : State → Prop}
variable {G : GX} {A : Nat → Prop} {ws ws' : va_W} {cc : ByteArray} {nL pc : Nat} {y : MethodName} {ret : Option FieldType} {own : String} {ls : Array Slot} {rest : List Value}
theorem retO_i {r : Int32} (F : FX p m c cc nL s args y (some .int) own meth) (hdg : decode cc pc = .ok (.ireturn, 1)) : W p l e R s m args below meth c s.heap [] 0 0 (MQ below (QO (some (.int r))) args s 0 0 (fun _ => False)) (F0 m pc ls [.int r]) :=
  W.iret F.1.1 F.1.2.1 F.2.1 (fun t ht _ => ⟨rfl, ht⟩) (fun q h => by cases h) hdg F.2.2
theorem retO_z {r : Int32} (F : FX p m c cc nL s args y (some .boolean) own meth) (hn : narrow .boolean (.int r) = .int r) (hdg : decode cc pc = .ok (.ireturn, 1)) : W p l e R s m args below meth c s.heap [] 0 0 (MQ below (QO (some (.int r))) args s 0 0 (fun _ => False)) (F0 m pc ls [.int r]) :=
  W.zret F.1.1 F.1.2.1 F.2.1 hn (fun t ht _ => ⟨rfl, ht⟩) (fun q h => by cases h) hdg F.2.2
theorem retO_l {r : Int64} (F : FX p m c cc nL s args y (some .long) own meth) (hdg : decode cc pc = .ok (.lreturn, 1)) : W p l e R s m args below meth c s.heap [] 0 0 (MQ below (QO (some (.long r))) args s 0 0 (fun _ => False)) (F0 m pc ls [.long r]) :=
  W.lret F.1.1 F.1.2.1 F.2.1 (fun t ht _ => ⟨rfl, ht⟩) (fun q h => by cases h) hdg F.2.2
theorem retW_i {r : Int32} (F : FX p m c cc nL s args y (some .int) own meth) (hw : WD G A s ws H locs) (hdg : decode cc pc = .ok (.ireturn, 1)) : W p l e R s m args below meth c H locs 0 0 (MQ below (QW G ws A (some (.int r))) args s 0 0 A) (F0 m pc ls [.int r]) :=
  W.iret F.1.1 F.1.2.1 F.2.1 (fun t ht _ => ⟨rfl, by rw [ht]; exact hw.2.1, hw.2.2.2.F ht⟩) hw.2.2.2.2.2 hdg F.2.2
theorem retW_z {r : Int32} (F : FX p m c cc nL s args y (some .boolean) own meth) (hw : WD G A s ws H locs) (hn : narrow .boolean (.int r) = .int r) (hdg : decode cc pc = .ok (.ireturn, 1)) : W p l e R s m args below meth c H locs 0 0 (MQ below (QW G ws A (some (.int r))) args s 0 0 A) (F0 m pc ls [.int r]) :=
  W.zret F.1.1 F.1.2.1 F.2.1 hn (fun t ht _ => ⟨rfl, by rw [ht]; exact hw.2.1, hw.2.2.2.F ht⟩) hw.2.2.2.2.2 hdg F.2.2
theorem retW_l {r : Int64} (F : FX p m c cc nL s args y (some .long) own meth) (hw : WD G A s ws H locs) (hdg : decode cc pc = .ok (.lreturn, 1)) : W p l e R s m args below meth c H locs 0 0 (MQ below (QW G ws A (some (.long r))) args s 0 0 A) (F0 m pc ls [.long r]) :=
  W.lret F.1.1 F.1.2.1 F.2.1 (fun t ht _ => ⟨rfl, by rw [ht]; exact hw.2.1, hw.2.2.2.F ht⟩) hw.2.2.2.2.2 hdg F.2.2
theorem retW_v (F : FX p m c cc nL s args y none own meth) (hw : WD G A s ws H locs) (hdg : decode cc pc = .ok (.return_, 1)) : W p l e R s m args below meth c H locs 0 0 (MQ below (QW G ws A none) args s 0 0 A) (F0 m pc ls []) :=
  W.vret F.1.1 F.1.2.1 F.2.1 (fun t ht _ => ⟨rfl, by rw [ht]; exact hw.2.1, hw.2.2.2.F ht⟩) hw.2.2.2.2.2 hdg F.2.2
/-- a call that changes nothing -/
theorem callO {v : Option Value} {a : Array Value} {g : JFrame} (hr : va_Run p l e R s m args below meth c H locs cells slots 0 0 g rest (QO v a) (fun _ => False)) (kk : W p l e R s m args below meth c H locs cells slots Q { g with pc := g.pc + 3, stack := v.toList ++ rest }) : W p l e R s m args below meth c H locs cells slots Q g := by
  intro T hT X
  obtain ⟨v', st₀, t, T', L, h0, X', hL, e1, -, ⟨hv, hh⟩, st⟩ := hr T hT X
  cases hv
  obtain ⟨t2, a1, b1⟩ := kk T' (by rw [e1, hh, h0]) (Stand.forget X' (fun q h => (hL q h).elim))
  exact ⟨t2, st t2 a1, b1⟩
/-- a call that changes its world -/
theorem callW {v : Option Value} {a : Array Value} {g : JFrame} {A1 : Nat → Prop} {H0 : Heap} (hr : va_Run p l e R s m args below meth c H locs cells slots 0 0 g rest (QW G ws' A1 v a) A1) (hS : va_S A H0 H locs) (hA : ∀ q, A1 q → A q)
    (kk : ∀ (H1 : Heap) (locs1 : List Loc), va_P G.1 vcl ws' H1 → (∀ q : Nat, q < H.size → ¬ A1 q → H1[q]? = H[q]?) → va_S A H0 H1 locs1 → W p l e R s m args below meth c H1 locs1 cells slots Q { g with pc := g.pc + 3, stack := v.toList ++ rest }) : W p l e R s m args below meth c H locs cells slots Q g := by
  intro T hT X
  obtain ⟨v', st₀, t, T', L, h0, X', hL, e1, -, ⟨hv, hP, hz, hk⟩, st⟩ := hr T hT X
  cases hv
  rw [h0] at hz hk
  obtain ⟨t2, a1, b1⟩ := kk T'.heap (locs ++ L) (by rw [e1]; exact hP) (fun q h1 h2 => by rw [e1]; exact hk q h1 h2)
    ⟨Nat.le_trans hS.1 (by rw [e1]; exact hz), fun q h1 h2 => by rw [e1, hk q (Nat.lt_of_lt_of_le h1 hS.1) (fun z => h2 (hA q z))]; exact hS.2.1 q h1 h2, fun q hq => by
      rcases List.mem_append.mp hq with h | h
      · exact hS.2.2 q h
      · exact hA _ (hL q h)⟩ T' rfl X'
  exact ⟨t2, st t2 a1, b1⟩
theorem MO.of {n : Nat} {rm : Room} {av : List Value} {v : Option Value} (hy : plainName y.cls = true) (hn : (lg_sl av).length ≤ n)
    (body : ∀ (p : Program) (e : Env) (s : State) (m : MethodId) (below : List Frame) (meth : Method) (c : Code) (ls : Array Slot), FX p m c cc n s av.toArray y ret y.cls meth → WD G (fun _ => True) s ws s.heap [] → lv_has ls n (lv_args 0 av) →
      W p l e rm s m av.toArray below meth c s.heap [] 0 0 (MQ below (QO v) av.toArray s 0 0 (fun _ => False)) (F0 m 0 ls [])) : MO l y cc n ret rm G ws av v := by
  refine Met.ofW (cc := cc) (maxL := n) (ret := ret) hy rfl ?_
  intro p e s m args below meth c s₁ B hml hv
  obtain ⟨rfl, hP, hK, hD⟩ := hv
  rw [lg_entry_eq]
  exact body p e s m below meth c _ ⟨⟨B.exec, B.bytes, hml, findClass_of_methodNamed B.named, atoms_spec (ws := wM y cc n ret) B.pre⟩, B.returns, B.notSynchronized⟩ ⟨hK, hP, hD, va_S.rf⟩ (lv_entry av hn)
theorem MW.of {n : Nat} {rm : Room} {av : List Value} {v : Option Value} (hy : plainName y.cls = true) (hn : (lg_sl av).length ≤ n)
    (body : ∀ (p : Program) (e : Env) (s : State) (m : MethodId) (below : List Frame) (meth : Method) (c : Code) (ls : Array Slot), FX p m c cc n s av.toArray y ret y.cls meth → WD G (aw ws) s ws s.heap [] → lv_has ls n (lv_args 0 av) →
      W p l e rm s m av.toArray below meth c s.heap [] 0 0 (MQ below (QW G ws' (aw ws) v) av.toArray s 0 0 (aw ws)) (F0 m 0 ls [])) : MW l y cc n ret rm G ws ws' av v := by
  refine Met.ofW (cc := cc) (maxL := n) (ret := ret) hy rfl ?_
  intro p e s m args below meth c s₁ B hml hv
  obtain ⟨rfl, hP, hK, hD⟩ := hv
  rw [lg_entry_eq]
  exact body p e s m below meth c _ ⟨⟨B.exec, B.bytes, hml, findClass_of_methodNamed B.named, atoms_spec (ws := wM y cc n ret) B.pre⟩, B.returns, B.notSynchronized⟩ ⟨hK, hP, hD.own, va_S.rf⟩ (lv_entry av hn)
/-- what the tables say of a method that is called on an object -/
def YV (own : String) (idx : Nat) (y : MethodName) (cy : ByteArray) (n : Nat) (ret : Option FieldType) (k : Nat) : Prop := Cond.code y cy n ret ∈ lw_gt ∧ Cond.initialized y.cls ∈ lw_gt ∧ Cond.methodLink own idx y ∈ lw_gt ∧ Cond.instanceMethod y ∈ lw_gt ∧ Cond.selects y.cls y y ∈ lw_gt ∧ (y.cls ≠ "java/lang/invoke/MethodHandle" ∧ y.cls ≠ "java/lang/invoke/VarHandle" ∧ (parseMethodDescriptor y.desc).map (fun d => d.parameters.length) = some k)
def YS (own : String) (idx : Nat) (y : MethodName) (cy : ByteArray) (n : Nat) (ret : Option FieldType) (k : Nat) : Prop := Cond.code y cy n ret ∈ lw_gt ∧ Cond.initialized y.cls ∈ lw_gt ∧ Cond.methodLink own idx y ∈ lw_gt ∧ Cond.static y ∈ lw_gt ∧ (y.cls ≠ "java/lang/invoke/MethodHandle" ∧ y.cls ≠ "java/lang/invoke/VarHandle" ∧ (parseMethodDescriptor y.desc).map (fun d => d.parameters.length) = some k)
/-- a static method of a nest mate -/
def YN (own : String) (idx : Nat) (y : MethodName) (host : String) (cy : ByteArray) (n : Nat) (ret : Option FieldType) (k : Nat) : Prop := Cond.code y cy n ret ∈ lw_gt ∧ Cond.initialized y.cls ∈ lw_gt ∧ (∀ U : State, NW U → va_Nw (.methodLinkNest own idx y host) U) ∧ Cond.static y ∈ lw_gt ∧ (y.cls ≠ "java/lang/invoke/MethodHandle" ∧ y.cls ≠ "java/lang/invoke/VarHandle" ∧ (parseMethodDescriptor y.desc).map (fun d => d.parameters.length) = some k)
variable {y2 : MethodName} {cy : ByteArray} {n2 k idx ci : Nat} {ret2 : Option FieldType} {rm : Room} {wc wc' : va_W} {b : Nat} {As st0 : List Value} {v : Option Value} {fs : List Value} {host : String}
theorem FX.tb (F : FX p m c cc nL s args y ret own meth) {w : Cond} (h : w ∈ lw_gt) : w.before args s = true := F.1.2.2.2.2 w (List.mem_cons_of_mem _ h)
theorem runV {Qc : Array Value → State → Outcome → State → Prop} {free : Addr → Prop} {q : vw_C} (F : FX p m c cc nL s args y ret own meth) (Y : YV own idx y2 cy n2 ret2 k) (hM : Met l y2 (wM y2 cy n2 ret2) rm (va_Pc (.ref b :: As) (PW G wc)) Qc 0 0 free) (hK : KK G s) (hP : va_P G.1 vcl wc H) (hD : va_D A wc)
    (he : wc[0]? = some (b, .inr (ci, fs))) (hc : vcl[ci]? = some q) (hq : q.1 = y2.cls) (hrc : rm.cells = 0 ∧ rm.slots = 0) (hR : rm.frames + 1 ≤ R.frames ∧ 8 + (n2 + 11) + rm.locals ≤ R.locals) (hcs : cells ≤ R.cells ∧ slots ≤ R.slots) (hn : As.length = k) (hsz : ls.size = nL) (hst : st0 = As.reverse ++ .ref b :: rest) (hW : (rest.map fun v => v.category).sum ≤ 8) (hdg : decode cc pc = .ok (.invokevirtual idx, 3)) :
    va_Run p l e R s m args below meth c H locs cells slots 0 0 (F0 m pc ls st0) rest (Qc (Value.ref b :: As).toArray) free := by
  have h1 := F.tb Y.2.1
  refine va_runV F.1 hM ⟨callB_of k F.1.2.2.2.2 (wM_good Y.1) rfl hrc.1 hrc.2 h1 (F.tb Y.2.2.1) Y.2.2.2.2.2 hR, F.tb Y.2.2.2.1, F.tb Y.2.2.2.2.1⟩ ⟨PW.blind, ?_, fun U hU hW => ⟨rfl, by rw [hU]; exact hP, hK.warm hW, hD.any⟩⟩ rfl hn hsz hst (lv_room hW) hdg hcs
  have := va_recv hK.1 hP hc he
  rw [hq] at this
  exact this
theorem runS {Qc : Array Value → State → Outcome → State → Prop} {free : Addr → Prop} (F : FX p m c cc nL s args y ret own meth) (Y : YS own idx y2 cy n2 ret2 k) (hM : Met l y2 (wM y2 cy n2 ret2) rm (va_Pc As (PW G wc)) Qc 0 0 free) (hK : KK G s) (hP : va_P G.1 vcl wc H) (hD : va_D A wc)
    (hrc : rm.cells = 0 ∧ rm.slots = 0) (hR : rm.frames + 1 ≤ R.frames ∧ 8 + (n2 + 11) + rm.locals ≤ R.locals) (hcs : cells ≤ R.cells ∧ slots ≤ R.slots) (hn : As.length = k) (hsz : ls.size = nL) (hst : st0 = As.reverse ++ rest) (hW : (rest.map fun v => v.category).sum ≤ 8) (hdg : decode cc pc = .ok (.invokestatic idx, 3)) :
    va_Run p l e R s m args below meth c H locs cells slots 0 0 (F0 m pc ls st0) rest (Qc As.toArray) free :=
  va_runS F.1 hM ⟨callB_of k F.1.2.2.2.2 (wM_good Y.1) rfl hrc.1 hrc.2 (F.tb Y.2.1) (F.tb Y.2.2.1) Y.2.2.2.2 hR, F.tb Y.2.2.2.1⟩ ⟨PW.blind, fun U hU hW => ⟨rfl, by rw [hU]; exact hP, hK.warm hW, hD.any⟩⟩ rfl hn hsz hst (lv_room hW) hdg hcs
theorem runN {Qc : Array Value → State → Outcome → State → Prop} {free : Addr → Prop} (F : FX p m c cc nL s args y ret own meth) (Y : YN own idx y2 host cy n2 ret2 k) (hM : Met l y2 (wM y2 cy n2 ret2) rm (va_Pc As (PW G wc)) Qc 0 0 free) (hK : KK G s) (hP : va_P G.1 vcl wc H) (hD : va_D A wc)
    (hrc : rm.cells = 0 ∧ rm.slots = 0) (hR : rm.frames + 1 ≤ R.frames ∧ 8 + (n2 + 11) + rm.locals ≤ R.locals) (hcs : cells ≤ R.cells ∧ slots ≤ R.slots) (hn : As.length = k) (hsz : ls.size = nL) (hst : st0 = As.reverse ++ rest) (hW : (rest.map fun v => v.category).sum ≤ 8) (hdg : decode cc pc = .ok (.invokestatic idx, 3)) :
    va_Run p l e R s m args below meth c H locs cells slots 0 0 (F0 m pc ls st0) rest (Qc As.toArray) free :=
  va_runSN F.1 hM ⟨va_cnB k F.1.2.2.2.2 (wM_good Y.1) rfl hrc.1 hrc.2 (Y.2.2.1 s hK.2) (F.tb Y.2.1) Y.2.2.2.2 hR, F.tb Y.2.2.2.1, trivial⟩ ⟨PW.blind, fun U hU hW => ⟨rfl, by rw [hU]; exact hP, hK.warm hW, hD.any⟩⟩ rfl hn hsz hst (lv_room hW) hdg hcs
end BASE
end
section
/-! ===== the world of LabelHallModel ===== -/
abbrev MS : Type := (Nat → Int32) × (Nat → Nat → Int32) × (Nat → Nat → Int64)
def mF (u : MS) (k : Nat) (x : Int32) : MS := (va_up u.1 k x, u.2)
def mA (u : MS) (k i : Nat) (x : Int32) : MS := (u.1, va_up u.2.1 k (upd (u.2.1 k) i x), u.2.2)
def mB (u : MS) (k i : Nat) (x : Int64) : MS := (u.1, u.2.1, va_up u.2.2 k (vp_updL (u.2.2 k) i x))
def mw (G : GX) (ad : Nat → Nat) (u : MS) : va_W := [(ad 0, .inr (4, [.int (u.1 0), .int (u.1 1), .ref (ad 2), .ref (ad 3), .ref (ad 4), .ref (ad 5), .ref (ad 6), .ref (ad 7), .ref (ad 8), .ref (ad 9), .ref (ad 10), .ref (ad 11), .ref (ad 12), .ref (ad 13), .ref (ad 14), .int (u.1 15), .ref (ad 16), .ref (ad 17), .int (u.1 18), .int (u.1 19), .int (u.1 20), .ref (ad 21), .int (u.1 22), .ref (ad 23), .int (u.1 24)])), (ad 2, .inl (G.2.1, 8, .inl (u.2.1 2))), (ad 3, .inl (G.2.1, 8, .inl (u.2.1 3))), (ad 4, .inl (G.2.1, 8, .inl (u.2.1 4))), (ad 5, .inl (G.2.1, 8, .inl (u.2.1 5))), (ad 6, .inl (G.2.1, 8, .inl (u.2.1 6))), (ad 7, .inl (G.2.1, 4800, .inl (u.2.1 7))), (ad 8, .inl (G.2.1, 4800, .inl (u.2.1 8))), (ad 9, .inl (G.2.2.1, 4800, .inr (.inl (u.2.2 9)))), (ad 10, .inl (G.2.2.1, 600, .inr (.inl (u.2.2 10)))), (ad 11, .inl (G.2.1, 600, .inl (u.2.1 11))), (ad 12, .inl (G.2.1, 20, .inl (u.2.1 12))), (ad 13, .inl (G.2.1, 20, .inl (u.2.1 13))), (ad 14, .inl (G.2.1, 20, .inl (u.2.1 14))), (ad 16, .inl (G.2.1, 98460, .inl (u.2.1 16))), (ad 17, .inl (G.2.2.1, 48600, .inr (.inl (u.2.2 17)))), (ad 21, .inl (G.2.2.1, 601, .inr (.inl (u.2.2 21)))), (ad 23, .inl (G.2.1, 600, .inl (u.2.1 23)))]
theorem inX4 : ∀ w ∈ u_ws RX4 TX4 25, w ∈ lw_gt := by decide +kernel
section WM
variable {p : Program} {l : Launch} {e : Env} {R : Room} {s : State} {m : MethodId} {args : Array Value} {below : List Frame} {meth : Method} {c : Code} {H : Heap} {locs : List Loc} {cells slots : Nat} {Q : State → Prop}
variable {G : GX} {A : Nat → Prop} {ad : Nat → Nat} {u : MS} {cc : ByteArray} {nL pc : Nat} {y : MethodName} {ret : Option FieldType} {ls : Array Slot} {rest : List Value}
theorem m_g0 (F : FX p m c cc nL s args y ret RX4 meth) (hw : WD G A s (mw G ad u) H locs) (hdg : decode cc pc = .ok (.getfield 64, 3)) (kk : W p l e R s m args below meth c H locs cells slots Q (F0 m (pc + 3) ls (.int (u.1 0) :: rest))) : W p l e R s m args below meth c H locs cells slots Q (F0 m pc ls (.ref (ad 0) :: rest)) := va_get (D := G.1) (ci := 4) (C := RX4) (T := TX4) (N := 25) (Ts := lw_gt) F.1.1 F.1.2.1 (fun _ h => F.tb h) inX4 F.1.2.2.2.1 hw.1.1 hw.2.1 0 rfl rfl 0 (by decide) (F.tb (tw 511 (by decide +kernel) rfl)) (fun _ h9 => h9) rfl hdg kk
theorem m_p0 {x : Int32} (F : FX p m c cc nL s args y ret RX4 meth) (hw : WD G A s (mw G ad u) H locs) (hdg : decode cc pc = .ok (.putfield 64, 3)) (kk : ∀ (H : Heap) (locs : List Loc), WD G A s (mw G ad (mF u 0 x)) H locs → W p l e R s m args below meth c H locs cells slots Q (F0 m (pc + 3) ls (rest))) : W p l e R s m args below meth c H locs cells slots Q (F0 m pc ls (.int x :: .ref (ad 0) :: rest)) := va_put (D := G.1) (ci := 4) (ty := .int) (C := RX4) (T := TX4) (N := 25) (Ts := lw_gt) F.1.1 F.1.2.1 (fun _ h => F.tb h) inX4 tyX4 tyX4_ok nmX4 F.1.2.2.2.1 hw.1.1 hw.2.1 hw.2.2.1 hw.2.2.2 0 rfl rfl 0 (by decide) (F.tb (tw 511 (by decide +kernel) rfl)) (fun _ h9 => h9) rfl (by decide +kernel) rfl rfl (Nat.le_of_ble_eq_true rfl) hdg (fun H1 l1 hP hD hS => kk H1 l1 ⟨hw.1, hP, hD, hS⟩)
theorem m_g1 (F : FX p m c cc nL s args y ret RX4 meth) (hw : WD G A s (mw G ad u) H locs) (hdg : decode cc pc = .ok (.getfield 97, 3)) (kk : W p l e R s m args below meth c H locs cells slots Q (F0 m (pc + 3) ls (.int (u.1 1) :: rest))) : W p l e R s m args below meth c H locs cells slots Q (F0 m pc ls (.ref (ad 0) :: rest)) := va_get (D := G.1) (ci := 4) (C := RX4) (T := TX4) (N := 25) (Ts := lw_gt) F.1.1 F.1.2.1 (fun _ h => F.tb h) inX4 F.1.2.2.2.1 hw.1.1 hw.2.1 0 rfl rfl 1 (by decide) (F.tb (tw 512 (by decide +kernel) rfl)) (fun _ h9 => h9) rfl hdg kk
theorem m_p1 {x : Int32} (F : FX p m c cc nL s args y ret RX4 meth) (hw : WD G A s (mw G ad u) H locs) (hdg : decode cc pc = .ok (.putfield 97, 3)) (kk : ∀ (H : Heap) (locs : List Loc), WD G A s (mw G ad (mF u 1 x)) H locs → W p l e R s m args below meth c H locs cells slots Q (F0 m (pc + 3) ls (rest))) : W p l e R s m args below meth c H locs cells slots Q (F0 m pc ls (.int x :: .ref (ad 0) :: rest)) := va_put (D := G.1) (ci := 4) (ty := .int) (C := RX4) (T := TX4) (N := 25) (Ts := lw_gt) F.1.1 F.1.2.1 (fun _ h => F.tb h) inX4 tyX4 tyX4_ok nmX4 F.1.2.2.2.1 hw.1.1 hw.2.1 hw.2.2.1 hw.2.2.2 0 rfl rfl 1 (by decide) (F.tb (tw 512 (by decide +kernel) rfl)) (fun _ h9 => h9) rfl (by decide +kernel) rfl rfl (Nat.le_of_ble_eq_true rfl) hdg (fun H1 l1 hP hD hS => kk H1 l1 ⟨hw.1, hP, hD, hS⟩)
theorem m_g2 (F : FX p m c cc nL s args y ret RX4 meth) (hw : WD G A s (mw G ad u) H locs) (hdg : decode cc pc = .ok (.getfield 7, 3)) (kk : W p l e R s m args below meth c H locs cells slots Q (F0 m (pc + 3) ls (.ref (ad 2) :: rest))) : W p l e R s m args below meth c H locs cells slots Q (F0 m pc ls (.ref (ad 0) :: rest)) := va_get (D := G.1) (ci := 4) (C := RX4) (T := TX4) (N := 25) (Ts := lw_gt) F.1.1 F.1.2.1 (fun _ h => F.tb h) inX4 F.1.2.2.2.1 hw.1.1 hw.2.1 0 rfl rfl 2 (by decide) (F.tb (tw 513 (by decide +kernel) rfl)) (fun _ h9 => h9) rfl hdg kk
theorem m_l2 {i : Int32} (F : FX p m c cc nL s args y ret RX4 meth) (hw : WD G A s (mw G ad u) H locs) (hi : ix i 8 = true) (hdg : decode cc pc = .ok (.iaload, 1)) (kk : W p l e R s m args below meth c H locs cells slots Q (F0 m (pc + 1) ls (.int (u.2.1 2 i.toNatClampNeg) :: rest))) : W p l e R s m args below meth c H locs cells slots Q (F0 m pc ls (.int i :: .ref (ad 2) :: rest)) := va_iald F.1.1 F.1.2.1 hw.1.1 hw.2.1 1 0 rfl rfl (ix_in hi) hdg kk
theorem m_s2 {i x : Int32} (F : FX p m c cc nL s args y ret RX4 meth) (hw : WD G A s (mw G ad u) H locs) (hi : ix i 8 = true) (hdg : decode cc pc = .ok (.iastore, 1)) (kk : ∀ (H : Heap) (locs : List Loc), WD G A s (mw G ad (mA u 2 i.toNatClampNeg x)) H locs → W p l e R s m args below meth c H locs cells slots Q (F0 m (pc + 1) ls (rest))) : W p l e R s m args below meth c H locs cells slots Q (F0 m pc ls (.int x :: .int i :: .ref (ad 2) :: rest)) := va_iast F.1.1 F.1.2.1 hw.1.1 hw.2.1 hw.2.2.1 hw.2.2.2 1 0 rfl rfl (ix_in hi) hdg (fun H1 l1 hP hD hS => kk H1 l1 ⟨hw.1, hP, hD, hS⟩)
theorem m_g3 (F : FX p m c cc nL s args y ret RX4 meth) (hw : WD G A s (mw G ad u) H locs) (hdg : decode cc pc = .ok (.getfield 13, 3)) (kk : W p l e R s m args below meth c H locs cells slots Q (F0 m (pc + 3) ls (.ref (ad 3) :: rest))) : W p l e R s m args below meth c H locs cells slots Q (F0 m pc ls (.ref (ad 0) :: rest)) := va_get (D := G.1) (ci := 4) (C := RX4) (T := TX4) (N := 25) (Ts := lw_gt) F.1.1 F.1.2.1 (fun _ h => F.tb h) inX4 F.1.2.2.2.1 hw.1.1 hw.2.1 0 rfl rfl 3 (by decide) (F.tb (tw 514 (by decide +kernel) rfl)) (fun _ h9 => h9) rfl hdg kk
theorem m_l3 {i : Int32} (F : FX p m c cc nL s args y ret RX4 meth) (hw : WD G A s (mw G ad u) H locs) (hi : ix i 8 = true) (hdg : decode cc pc = .ok (.iaload, 1)) (kk : W p l e R s m args below meth c H locs cells slots Q (F0 m (pc + 1) ls (.int (u.2.1 3 i.toNatClampNeg) :: rest))) : W p l e R s m args below meth c H locs cells slots Q (F0 m pc ls (.int i :: .ref (ad 3) :: rest)) := va_iald F.1.1 F.1.2.1 hw.1.1 hw.2.1 2 0 rfl rfl (ix_in hi) hdg kk
theorem m_s3 {i x : Int32} (F : FX p m c cc nL s args y ret RX4 meth) (hw : WD G A s (mw G ad u) H locs) (hi : ix i 8 = true) (hdg : decode cc pc = .ok (.iastore, 1)) (kk : ∀ (H : Heap) (locs : List Loc), WD G A s (mw G ad (mA u 3 i.toNatClampNeg x)) H locs → W p l e R s m args below meth c H locs cells slots Q (F0 m (pc + 1) ls (rest))) : W p l e R s m args below meth c H locs cells slots Q (F0 m pc ls (.int x :: .int i :: .ref (ad 3) :: rest)) := va_iast F.1.1 F.1.2.1 hw.1.1 hw.2.1 hw.2.2.1 hw.2.2.2 2 0 rfl rfl (ix_in hi) hdg (fun H1 l1 hP hD hS => kk H1 l1 ⟨hw.1, hP, hD, hS⟩)
theorem m_g4 (F : FX p m c cc nL s args y ret RX4 meth) (hw : WD G A s (mw G ad u) H locs) (hdg : decode cc pc = .ok (.getfield 16, 3)) (kk : W p l e R s m args below meth c H locs cells slots Q (F0 m (pc + 3) ls (.ref (ad 4) :: rest))) : W p l e R s m args below meth c H locs cells slots Q (F0 m pc ls (.ref (ad 0) :: rest)) := va_get (D := G.1) (ci := 4) (C := RX4) (T := TX4) (N := 25) (Ts := lw_gt) F.1.1 F.1.2.1 (fun _ h => F.tb h) inX4 F.1.2.2.2.1 hw.1.1 hw.2.1 0 rfl rfl 4 (by decide) (F.tb (tw 515 (by decide +kernel) rfl)) (fun _ h9 => h9) rfl hdg kk
theorem m_l4 {i : Int32} (F : FX p m c cc nL s args y ret RX4 meth) (hw : WD G A s (mw G ad u) H locs) (hi : ix i 8 = true) (hdg : decode cc pc = .ok (.iaload, 1)) (kk : W p l e R s m args below meth c H locs cells slots Q (F0 m (pc + 1) ls (.int (u.2.1 4 i.toNatClampNeg) :: rest))) : W p l e R s m args below meth c H locs cells slots Q (F0 m pc ls (.int i :: .ref (ad 4) :: rest)) := va_iald F.1.1 F.1.2.1 hw.1.1 hw.2.1 3 0 rfl rfl (ix_in hi) hdg kk
theorem m_s4 {i x : Int32} (F : FX p m c cc nL s args y ret RX4 meth) (hw : WD G A s (mw G ad u) H locs) (hi : ix i 8 = true) (hdg : decode cc pc = .ok (.iastore, 1)) (kk : ∀ (H : Heap) (locs : List Loc), WD G A s (mw G ad (mA u 4 i.toNatClampNeg x)) H locs → W p l e R s m args below meth c H locs cells slots Q (F0 m (pc + 1) ls (rest))) : W p l e R s m args below meth c H locs cells slots Q (F0 m pc ls (.int x :: .int i :: .ref (ad 4) :: rest)) := va_iast F.1.1 F.1.2.1 hw.1.1 hw.2.1 hw.2.2.1 hw.2.2.2 3 0 rfl rfl (ix_in hi) hdg (fun H1 l1 hP hD hS => kk H1 l1 ⟨hw.1, hP, hD, hS⟩)
theorem m_g5 (F : FX p m c cc nL s args y ret RX4 meth) (hw : WD G A s (mw G ad u) H locs) (hdg : decode cc pc = .ok (.getfield 19, 3)) (kk : W p l e R s m args below meth c H locs cells slots Q (F0 m (pc + 3) ls (.ref (ad 5) :: rest))) : W p l e R s m args below meth c H locs cells slots Q (F0 m pc ls (.ref (ad 0) :: rest)) := va_get (D := G.1) (ci := 4) (C := RX4) (T := TX4) (N := 25) (Ts := lw_gt) F.1.1 F.1.2.1 (fun _ h => F.tb h) inX4 F.1.2.2.2.1 hw.1.1 hw.2.1 0 rfl rfl 5 (by decide) (F.tb (tw 516 (by decide +kernel) rfl)) (fun _ h9 => h9) rfl hdg kk
theorem m_l5 {i : Int32} (F : FX p m c cc nL s args y ret RX4 meth) (hw : WD G A s (mw G ad u) H locs) (hi : ix i 8 = true) (hdg : decode cc pc = .ok (.iaload, 1)) (kk : W p l e R s m args below meth c H locs cells slots Q (F0 m (pc + 1) ls (.int (u.2.1 5 i.toNatClampNeg) :: rest))) : W p l e R s m args below meth c H locs cells slots Q (F0 m pc ls (.int i :: .ref (ad 5) :: rest)) := va_iald F.1.1 F.1.2.1 hw.1.1 hw.2.1 4 0 rfl rfl (ix_in hi) hdg kk
theorem m_s5 {i x : Int32} (F : FX p m c cc nL s args y ret RX4 meth) (hw : WD G A s (mw G ad u) H locs) (hi : ix i 8 = true) (hdg : decode cc pc = .ok (.iastore, 1)) (kk : ∀ (H : Heap) (locs : List Loc), WD G A s (mw G ad (mA u 5 i.toNatClampNeg x)) H locs → W p l e R s m args below meth c H locs cells slots Q (F0 m (pc + 1) ls (rest))) : W p l e R s m args below meth c H locs cells slots Q (F0 m pc ls (.int x :: .int i :: .ref (ad 5) :: rest)) := va_iast F.1.1 F.1.2.1 hw.1.1 hw.2.1 hw.2.2.1 hw.2.2.2 4 0 rfl rfl (ix_in hi) hdg (fun H1 l1 hP hD hS => kk H1 l1 ⟨hw.1, hP, hD, hS⟩)
theorem m_g6 (F : FX p m c cc nL s args y ret RX4 meth) (hw : WD G A s (mw G ad u) H locs) (hdg : decode cc pc = .ok (.getfield 22, 3)) (kk : W p l e R s m args below meth c H locs cells slots Q (F0 m (pc + 3) ls (.ref (ad 6) :: rest))) : W p l e R s m args below meth c H locs cells slots Q (F0 m pc ls (.ref (ad 0) :: rest)) := va_get (D := G.1) (ci := 4) (C := RX4) (T := TX4) (N := 25) (Ts := lw_gt) F.1.1 F.1.2.1 (fun _ h => F.tb h) inX4 F.1.2.2.2.1 hw.1.1 hw.2.1 0 rfl rfl 6 (by decide) (F.tb (tw 517 (by decide +kernel) rfl)) (fun _ h9 => h9) rfl hdg kk
theorem m_l6 {i : Int32} (F : FX p m c cc nL s args y ret RX4 meth) (hw : WD G A s (mw G ad u) H locs) (hi : ix i 8 = true) (hdg : decode cc pc = .ok (.iaload, 1)) (kk : W p l e R s m args below meth c H locs cells slots Q (F0 m (pc + 1) ls (.int (u.2.1 6 i.toNatClampNeg) :: rest))) : W p l e R s m args below meth c H locs cells slots Q (F0 m pc ls (.int i :: .ref (ad 6) :: rest)) := va_iald F.1.1 F.1.2.1 hw.1.1 hw.2.1 5 0 rfl rfl (ix_in hi) hdg kk
theorem m_s6 {i x : Int32} (F : FX p m c cc nL s args y ret RX4 meth) (hw : WD G A s (mw G ad u) H locs) (hi : ix i 8 = true) (hdg : decode cc pc = .ok (.iastore, 1)) (kk : ∀ (H : Heap) (locs : List Loc), WD G A s (mw G ad (mA u 6 i.toNatClampNeg x)) H locs → W p l e R s m args below meth c H locs cells slots Q (F0 m (pc + 1) ls (rest))) : W p l e R s m args below meth c H locs cells slots Q (F0 m pc ls (.int x :: .int i :: .ref (ad 6) :: rest)) := va_iast F.1.1 F.1.2.1 hw.1.1 hw.2.1 hw.2.2.1 hw.2.2.2 5 0 rfl rfl (ix_in hi) hdg (fun H1 l1 hP hD hS => kk H1 l1 ⟨hw.1, hP, hD, hS⟩)
theorem m_g7 (F : FX p m c cc nL s args y ret RX4 meth) (hw : WD G A s (mw G ad u) H locs) (hdg : decode cc pc = .ok (.getfield 25, 3)) (kk : W p l e R s m args below meth c H locs cells slots Q (F0 m (pc + 3) ls (.ref (ad 7) :: rest))) : W p l e R s m args below meth c H locs cells slots Q (F0 m pc ls (.ref (ad 0) :: rest)) := va_get (D := G.1) (ci := 4) (C := RX4) (T := TX4) (N := 25) (Ts := lw_gt) F.1.1 F.1.2.1 (fun _ h => F.tb h) inX4 F.1.2.2.2.1 hw.1.1 hw.2.1 0 rfl rfl 7 (by decide) (F.tb (tw 518 (by decide +kernel) rfl)) (fun _ h9 => h9) rfl hdg kk
theorem m_l7 {i : Int32} (F : FX p m c cc nL s args y ret RX4 meth) (hw : WD G A s (mw G ad u) H locs) (hi : ix i 4800 = true) (hdg : decode cc pc = .ok (.iaload, 1)) (kk : W p l e R s m args below meth c H locs cells slots Q (F0 m (pc + 1) ls (.int (u.2.1 7 i.toNatClampNeg) :: rest))) : W p l e R s m args below meth c H locs cells slots Q (F0 m pc ls (.int i :: .ref (ad 7) :: rest)) := va_iald F.1.1 F.1.2.1 hw.1.1 hw.2.1 6 0 rfl rfl (ix_in hi) hdg kk
theorem m_s7 {i x : Int32} (F : FX p m c cc nL s args y ret RX4 meth) (hw : WD G A s (mw G ad u) H locs) (hi : ix i 4800 = true) (hdg : decode cc pc = .ok (.iastore, 1)) (kk : ∀ (H : Heap) (locs : List Loc), WD G A s (mw G ad (mA u 7 i.toNatClampNeg x)) H locs → W p l e R s m args below meth c H locs cells slots Q (F0 m (pc + 1) ls (rest))) : W p l e R s m args below meth c H locs cells slots Q (F0 m pc ls (.int x :: .int i :: .ref (ad 7) :: rest)) := va_iast F.1.1 F.1.2.1 hw.1.1 hw.2.1 hw.2.2.1 hw.2.2.2 6 0 rfl rfl (ix_in hi) hdg (fun H1 l1 hP hD hS => kk H1 l1 ⟨hw.1, hP, hD, hS⟩)
theorem m_g8 (F : FX p m c cc nL s args y ret RX4 meth) (hw : WD G A s (mw G ad u) H locs) (hdg : decode cc pc = .ok (.getfield 28, 3)) (kk : W p l e R s m args below meth c H locs cells slots Q (F0 m (pc + 3) ls (.ref (ad 8) :: rest))) : W p l e R s m args below meth c H locs cells slots Q (F0 m pc ls (.ref (ad 0) :: rest)) := va_get (D := G.1) (ci := 4) (C := RX4) (T := TX4) (N := 25) (Ts := lw_gt) F.1.1 F.1.2.1 (fun _ h => F.tb h) inX4 F.1.2.2.2.1 hw.1.1 hw.2.1 0 rfl rfl 8 (by decide) (F.tb (tw 519 (by decide +kernel) rfl)) (fun _ h9 => h9) rfl hdg kk
theorem m_l8 {i : Int32} (F : FX p m c cc nL s args y ret RX4 meth) (hw : WD G A s (mw G ad u) H locs) (hi : ix i 4800 = true) (hdg : decode cc pc = .ok (.iaload, 1)) (kk : W p l e R s m args below meth c H locs cells slots Q (F0 m (pc + 1) ls (.int (u.2.1 8 i.toNatClampNeg) :: rest))) : W p l e R s m args below meth c H locs cells slots Q (F0 m pc ls (.int i :: .ref (ad 8) :: rest)) := va_iald F.1.1 F.1.2.1 hw.1.1 hw.2.1 7 0 rfl rfl (ix_in hi) hdg kk
theorem m_s8 {i x : Int32} (F : FX p m c cc nL s args y ret RX4 meth) (hw : WD G A s (mw G ad u) H locs) (hi : ix i 4800 = true) (hdg : decode cc pc = .ok (.iastore, 1)) (kk : ∀ (H : Heap) (locs : List Loc), WD G A s (mw G ad (mA u 8 i.toNatClampNeg x)) H locs → W p l e R s m args below meth c H locs cells slots Q (F0 m (pc + 1) ls (rest))) : W p l e R s m args below meth c H locs cells slots Q (F0 m pc ls (.int x :: .int i :: .ref (ad 8) :: rest)) := va_iast F.1.1 F.1.2.1 hw.1.1 hw.2.1 hw.2.2.1 hw.2.2.2 7 0 rfl rfl (ix_in hi) hdg (fun H1 l1 hP hD hS => kk H1 l1 ⟨hw.1, hP, hD, hS⟩)
theorem m_g9 (F : FX p m c cc nL s args y ret RX4 meth) (hw : WD G A s (mw G ad u) H locs) (hdg : decode cc pc = .ok (.getfield 31, 3)) (kk : W p l e R s m args below meth c H locs cells slots Q (F0 m (pc + 3) ls (.ref (ad 9) :: rest))) : W p l e R s m args below meth c H locs cells slots Q (F0 m pc ls (.ref (ad 0) :: rest)) := va_get (D := G.1) (ci := 4) (C := RX4) (T := TX4) (N := 25) (Ts := lw_gt) F.1.1 F.1.2.1 (fun _ h => F.tb h) inX4 F.1.2.2.2.1 hw.1.1 hw.2.1 0 rfl rfl 9 (by decide) (F.tb (tw 520 (by decide +kernel) rfl)) (fun _ h9 => h9) rfl hdg kk
theorem m_l9 {i : Int32} (F : FX p m c cc nL s args y ret RX4 meth) (hw : WD G A s (mw G ad u) H locs) (hi : ix i 4800 = true) (hdg : decode cc pc = .ok (.laload, 1)) (kk : W p l e R s m args below meth c H locs cells slots Q (F0 m (pc + 1) ls (.long (u.2.2 9 i.toNatClampNeg) :: rest))) : W p l e R s m args below meth c H locs cells slots Q (F0 m pc ls (.int i :: .ref (ad 9) :: rest)) := va_lald F.1.1 F.1.2.1 hw.1.1 hw.2.1 8 1 rfl rfl (ix_in hi) hdg kk
theorem m_s9 {i : Int32} {x : Int64} (F : FX p m c cc nL s args y ret RX4 meth) (hw : WD G A s (mw G ad u) H locs) (hi : ix i 4800 = true) (hdg : decode cc pc = .ok (.lastore, 1)) (kk : ∀ (H : Heap) (locs : List Loc), WD G A s (mw G ad (mB u 9 i.toNatClampNeg x)) H locs → W p l e R s m args below meth c H locs cells slots Q (F0 m (pc + 1) ls (rest))) : W p l e R s m args below meth c H locs cells slots Q (F0 m pc ls (.long x :: .int i :: .ref (ad 9) :: rest)) := va_last F.1.1 F.1.2.1 hw.1.1 hw.2.1 hw.2.2.1 hw.2.2.2 8 1 rfl rfl (ix_in hi) hdg (fun H1 l1 hP hD hS => kk H1 l1 ⟨hw.1, hP, hD, hS⟩)
theorem m_g10 (F : FX p m c cc nL s args y ret RX4 meth) (hw : WD G A s (mw G ad u) H locs) (hdg : decode cc pc = .ok (.getfield 35, 3)) (kk : W p l e R s m args below meth c H locs cells slots Q (F0 m (pc + 3) ls (.ref (ad 10) :: rest))) : W p l e R s m args below meth c H locs cells slots Q (F0 m pc ls (.ref (ad 0) :: rest)) := va_get (D := G.1) (ci := 4) (C := RX4) (T := TX4) (N := 25) (Ts := lw_gt) F.1.1 F.1.2.1 (fun _ h => F.tb h) inX4 F.1.2.2.2.1 hw.1.1 hw.2.1 0 rfl rfl 10 (by decide) (F.tb (tw 521 (by decide +kernel) rfl)) (fun _ h9 => h9) rfl hdg kk
theorem m_l10 {i : Int32} (F : FX p m c cc nL s args y ret RX4 meth) (hw : WD G A s (mw G ad u) H locs) (hi : ix i 600 = true) (hdg : decode cc pc = .ok (.laload, 1)) (kk : W p l e R s m args below meth c H locs cells slots Q (F0 m (pc + 1) ls (.long (u.2.2 10 i.toNatClampNeg) :: rest))) : W p l e R s m args below meth c H locs cells slots Q (F0 m pc ls (.int i :: .ref (ad 10) :: rest)) := va_lald F.1.1 F.1.2.1 hw.1.1 hw.2.1 9 1 rfl rfl (ix_in hi) hdg kk
theorem m_s10 {i : Int32} {x : Int64} (F : FX p m c cc nL s args y ret RX4 meth) (hw : WD G A s (mw G ad u) H locs) (hi : ix i 600 = true) (hdg : decode cc pc = .ok (.lastore, 1)) (kk : ∀ (H : Heap) (locs : List Loc), WD G A s (mw G ad (mB u 10 i.toNatClampNeg x)) H locs → W p l e R s m args below meth c H locs cells slots Q (F0 m (pc + 1) ls (rest))) : W p l e R s m args below meth c H locs cells slots Q (F0 m pc ls (.long x :: .int i :: .ref (ad 10) :: rest)) := va_last F.1.1 F.1.2.1 hw.1.1 hw.2.1 hw.2.2.1 hw.2.2.2 9 1 rfl rfl (ix_in hi) hdg (fun H1 l1 hP hD hS => kk H1 l1 ⟨hw.1, hP, hD, hS⟩)
theorem m_g11 (F : FX p m c cc nL s args y ret RX4 meth) (hw : WD G A s (mw G ad u) H locs) (hdg : decode cc pc = .ok (.getfield 38, 3)) (kk : W p l e R s m args below meth c H locs cells slots Q (F0 m (pc + 3) ls (.ref (ad 11) :: rest))) : W p l e R s m args below meth c H locs cells slots Q (F0 m pc ls (.ref (ad 0) :: rest)) := va_get (D := G.1) (ci := 4) (C := RX4) (T := TX4) (N := 25) (Ts := lw_gt) F.1.1 F.1.2.1 (fun _ h => F.tb h) inX4 F.1.2.2.2.1 hw.1.1 hw.2.1 0 rfl rfl 11 (by decide) (F.tb (tw 522 (by decide +kernel) rfl)) (fun _ h9 => h9) rfl hdg kk
theorem m_l11 {i : Int32} (F : FX p m c cc nL s args y ret RX4 meth) (hw : WD G A s (mw G ad u) H locs) (hi : ix i 600 = true) (hdg : decode cc pc = .ok (.iaload, 1)) (kk : W p l e R s m args below meth c H locs cells slots Q (F0 m (pc + 1) ls (.int (u.2.1 11 i.toNatClampNeg) :: rest))) : W p l e R s m args below meth c H locs cells slots Q (F0 m pc ls (.int i :: .ref (ad 11) :: rest)) := va_iald F.1.1 F.1.2.1 hw.1.1 hw.2.1 10 0 rfl rfl (ix_in hi) hdg kk
theorem m_s11 {i x : Int32} (F : FX p m c cc nL s args y ret RX4 meth) (hw : WD G A s (mw G ad u) H locs) (hi : ix i 600 = true) (hdg : decode cc pc = .ok (.iastore, 1)) (kk : ∀ (H : Heap) (locs : List Loc), WD G A s (mw G ad (mA u 11 i.toNatClampNeg x)) H locs → W p l e R s m args below meth c H locs cells slots Q (F0 m (pc + 1) ls (rest))) : W p l e R s m args below meth c H locs cells slots Q (F0 m pc ls (.int x :: .int i :: .ref (ad 11) :: rest)) := va_iast F.1.1 F.1.2.1 hw.1.1 hw.2.1 hw.2.2.1 hw.2.2.2 10 0 rfl rfl (ix_in hi) hdg (fun H1 l1 hP hD hS => kk H1 l1 ⟨hw.1, hP, hD, hS⟩)
theorem m_g12 (F : FX p m c cc nL s args y ret RX4 meth) (hw : WD G A s (mw G ad u) H locs) (hdg : decode cc pc = .ok (.getfield 41, 3)) (kk : W p l e R s m args below meth c H locs cells slots Q (F0 m (pc + 3) ls (.ref (ad 12) :: rest))) : W p l e R s m args below meth c H locs cells slots Q (F0 m pc ls (.ref (ad 0) :: rest)) := va_get (D := G.1) (ci := 4) (C := RX4) (T := TX4) (N := 25) (Ts := lw_gt) F.1.1 F.1.2.1 (fun _ h => F.tb h) inX4 F.1.2.2.2.1 hw.1.1 hw.2.1 0 rfl rfl 12 (by decide) (F.tb (tw 523 (by decide +kernel) rfl)) (fun _ h9 => h9) rfl hdg kk
theorem m_l12 {i : Int32} (F : FX p m c cc nL s args y ret RX4 meth) (hw : WD G A s (mw G ad u) H locs) (hi : ix i 20 = true) (hdg : decode cc pc = .ok (.iaload, 1)) (kk : W p l e R s m args below meth c H locs cells slots Q (F0 m (pc + 1) ls (.int (u.2.1 12 i.toNatClampNeg) :: rest))) : W p l e R s m args below meth c H locs cells slots Q (F0 m pc ls (.int i :: .ref (ad 12) :: rest)) := va_iald F.1.1 F.1.2.1 hw.1.1 hw.2.1 11 0 rfl rfl (ix_in hi) hdg kk
theorem m_s12 {i x : Int32} (F : FX p m c cc nL s args y ret RX4 meth) (hw : WD G A s (mw G ad u) H locs) (hi : ix i 20 = true) (hdg : decode cc pc = .ok (.iastore, 1)) (kk : ∀ (H : Heap) (locs : List Loc), WD G A s (mw G ad (mA u 12 i.toNatClampNeg x)) H locs → W p l e R s m args below meth c H locs cells slots Q (F0 m (pc + 1) ls (rest))) : W p l e R s m args below meth c H locs cells slots Q (F0 m pc ls (.int x :: .int i :: .ref (ad 12) :: rest)) := va_iast F.1.1 F.1.2.1 hw.1.1 hw.2.1 hw.2.2.1 hw.2.2.2 11 0 rfl rfl (ix_in hi) hdg (fun H1 l1 hP hD hS => kk H1 l1 ⟨hw.1, hP, hD, hS⟩)
theorem m_g13 (F : FX p m c cc nL s args y ret RX4 meth) (hw : WD G A s (mw G ad u) H locs) (hdg : decode cc pc = .ok (.getfield 44, 3)) (kk : W p l e R s m args below meth c H locs cells slots Q (F0 m (pc + 3) ls (.ref (ad 13) :: rest))) : W p l e R s m args below meth c H locs cells slots Q (F0 m pc ls (.ref (ad 0) :: rest)) := va_get (D := G.1) (ci := 4) (C := RX4) (T := TX4) (N := 25) (Ts := lw_gt) F.1.1 F.1.2.1 (fun _ h => F.tb h) inX4 F.1.2.2.2.1 hw.1.1 hw.2.1 0 rfl rfl 13 (by decide) (F.tb (tw 524 (by decide +kernel) rfl)) (fun _ h9 => h9) rfl hdg kk
theorem m_l13 {i : Int32} (F : FX p m c cc nL s args y ret RX4 meth) (hw : WD G A s (mw G ad u) H locs) (hi : ix i 20 = true) (hdg : decode cc pc = .ok (.iaload, 1)) (kk : W p l e R s m args below meth c H locs cells slots Q (F0 m (pc + 1) ls (.int (u.2.1 13 i.toNatClampNeg) :: rest))) : W p l e R s m args below meth c H locs cells slots Q (F0 m pc ls (.int i :: .ref (ad 13) :: rest)) := va_iald F.1.1 F.1.2.1 hw.1.1 hw.2.1 12 0 rfl rfl (ix_in hi) hdg kk
theorem m_s13 {i x : Int32} (F : FX p m c cc nL s args y ret RX4 meth) (hw : WD G A s (mw G ad u) H locs) (hi : ix i 20 = true) (hdg : decode cc pc = .ok (.iastore, 1)) (kk : ∀ (H : Heap) (locs : List Loc), WD G A s (mw G ad (mA u 13 i.toNatClampNeg x)) H locs → W p l e R s m args below meth c H locs cells slots Q (F0 m (pc + 1) ls (rest))) : W p l e R s m args below meth c H locs cells slots Q (F0 m pc ls (.int x :: .int i :: .ref (ad 13) :: rest)) := va_iast F.1.1 F.1.2.1 hw.1.1 hw.2.1 hw.2.2.1 hw.2.2.2 12 0 rfl rfl (ix_in hi) hdg (fun H1 l1 hP hD hS => kk H1 l1 ⟨hw.1, hP, hD, hS⟩)
theorem m_g14 (F : FX p m c cc nL s args y ret RX4 meth) (hw : WD G A s (mw G ad u) H locs) (hdg : decode cc pc = .ok (.getfield 47, 3)) (kk : W p l e R s m args below meth c H locs cells slots Q (F0 m (pc + 3) ls (.ref (ad 14) :: rest))) : W p l e R s m args below meth c H locs cells slots Q (F0 m pc ls (.ref (ad 0) :: rest)) := va_get (D := G.1) (ci := 4) (C := RX4) (T := TX4) (N := 25) (Ts := lw_gt) F.1.1 F.1.2.1 (fun _ h => F.tb h) inX4 F.1.2.2.2.1 hw.1.1 hw.2.1 0 rfl rfl 14 (by decide) (F.tb (tw 525 (by decide +kernel) rfl)) (fun _ h9 => h9) rfl hdg kk
theorem m_l14 {i : Int32} (F : FX p m c cc nL s args y ret RX4 meth) (hw : WD G A s (mw G ad u) H locs) (hi : ix i 20 = true) (hdg : decode cc pc = .ok (.iaload, 1)) (kk : W p l e R s m args below meth c H locs cells slots Q (F0 m (pc + 1) ls (.int (u.2.1 14 i.toNatClampNeg) :: rest))) : W p l e R s m args below meth c H locs cells slots Q (F0 m pc ls (.int i :: .ref (ad 14) :: rest)) := va_iald F.1.1 F.1.2.1 hw.1.1 hw.2.1 13 0 rfl rfl (ix_in hi) hdg kk
theorem m_s14 {i x : Int32} (F : FX p m c cc nL s args y ret RX4 meth) (hw : WD G A s (mw G ad u) H locs) (hi : ix i 20 = true) (hdg : decode cc pc = .ok (.iastore, 1)) (kk : ∀ (H : Heap) (locs : List Loc), WD G A s (mw G ad (mA u 14 i.toNatClampNeg x)) H locs → W p l e R s m args below meth c H locs cells slots Q (F0 m (pc + 1) ls (rest))) : W p l e R s m args below meth c H locs cells slots Q (F0 m pc ls (.int x :: .int i :: .ref (ad 14) :: rest)) := va_iast F.1.1 F.1.2.1 hw.1.1 hw.2.1 hw.2.2.1 hw.2.2.2 13 0 rfl rfl (ix_in hi) hdg (fun H1 l1 hP hD hS => kk H1 l1 ⟨hw.1, hP, hD, hS⟩)
theorem m_g15 (F : FX p m c cc nL s args y ret RX4 meth) (hw : WD G A s (mw G ad u) H locs) (hdg : decode cc pc = .ok (.getfield 75, 3)) (kk : W p l e R s m args below meth c H locs cells slots Q (F0 m (pc + 3) ls (.int (u.1 15) :: rest))) : W p l e R s m args below meth c H locs cells slots Q (F0 m pc ls (.ref (ad 0) :: rest)) := va_get (D := G.1) (ci := 4) (C := RX4) (T := TX4) (N := 25) (Ts := lw_gt) F.1.1 F.1.2.1 (fun _ h => F.tb h) inX4 F.1.2.2.2.1 hw.1.1 hw.2.1 0 rfl rfl 15 (by decide) (F.tb (tw 526 (by decide +kernel) rfl)) (fun _ h9 => h9) rfl hdg kk
theorem m_p15 {x : Int32} (F : FX p m c cc nL s args y ret RX4 meth) (hw : WD G A s (mw G ad u) H locs) (hdg : decode cc pc = .ok (.putfield 75, 3)) (kk : ∀ (H : Heap) (locs : List Loc), WD G A s (mw G ad (mF u 15 x)) H locs → W p l e R s m args below meth c H locs cells slots Q (F0 m (pc + 3) ls (rest))) : W p l e R s m args below meth c H locs cells slots Q (F0 m pc ls (.int x :: .ref (ad 0) :: rest)) := va_put (D := G.1) (ci := 4) (ty := .int) (C := RX4) (T := TX4) (N := 25) (Ts := lw_gt) F.1.1 F.1.2.1 (fun _ h => F.tb h) inX4 tyX4 tyX4_ok nmX4 F.1.2.2.2.1 hw.1.1 hw.2.1 hw.2.2.1 hw.2.2.2 0 rfl rfl 15 (by decide) (F.tb (tw 526 (by decide +kernel) rfl)) (fun _ h9 => h9) rfl (by decide +kernel) rfl rfl (Nat.le_of_ble_eq_true rfl) hdg (fun H1 l1 hP hD hS => kk H1 l1 ⟨hw.1, hP, hD, hS⟩)
theorem m_g16 (F : FX p m c cc nL s args y ret RX4 meth) (hw : WD G A s (mw G ad u) H locs) (hdg : decode cc pc = .ok (.getfield 51, 3)) (kk : W p l e R s m args below meth c H locs cells slots Q (F0 m (pc + 3) ls (.ref (ad 16) :: rest))) : W p l e R s m args below meth c H locs cells slots Q (F0 m pc ls (.ref (ad 0) :: rest)) := va_get (D := G.1) (ci := 4) (C := RX4) (T := TX4) (N := 25) (Ts := lw_gt) F.1.1 F.1.2.1 (fun _ h => F.tb h) inX4 F.1.2.2.2.1 hw.1.1 hw.2.1 0 rfl rfl 16 (by decide) (F.tb (tw 527 (by decide +kernel) rfl)) (fun _ h9 => h9) rfl hdg kk
theorem m_l16 {i : Int32} (F : FX p m c cc nL s args y ret RX4 meth) (hw : WD G A s (mw G ad u) H locs) (hi : ix i 98460 = true) (hdg : decode cc pc = .ok (.iaload, 1)) (kk : W p l e R s m args below meth c H locs cells slots Q (F0 m (pc + 1) ls (.int (u.2.1 16 i.toNatClampNeg) :: rest))) : W p l e R s m args below meth c H locs cells slots Q (F0 m pc ls (.int i :: .ref (ad 16) :: rest)) := va_iald F.1.1 F.1.2.1 hw.1.1 hw.2.1 14 0 rfl rfl (ix_in hi) hdg kk
theorem m_s16 {i x : Int32} (F : FX p m c cc nL s args y ret RX4 meth) (hw : WD G A s (mw G ad u) H locs) (hi : ix i 98460 = true) (hdg : decode cc pc = .ok (.iastore, 1)) (kk : ∀ (H : Heap) (locs : List Loc), WD G A s (mw G ad (mA u 16 i.toNatClampNeg x)) H locs → W p l e R s m args below meth c H locs cells slots Q (F0 m (pc + 1) ls (rest))) : W p l e R s m args below meth c H locs cells slots Q (F0 m pc ls (.int x :: .int i :: .ref (ad 16) :: rest)) := va_iast F.1.1 F.1.2.1 hw.1.1 hw.2.1 hw.2.2.1 hw.2.2.2 14 0 rfl rfl (ix_in hi) hdg (fun H1 l1 hP hD hS => kk H1 l1 ⟨hw.1, hP, hD, hS⟩)
theorem m_g17 (F : FX p m c cc nL s args y ret RX4 meth) (hw : WD G A s (mw G ad u) H locs) (hdg : decode cc pc = .ok (.getfield 55, 3)) (kk : W p l e R s m args below meth c H locs cells slots Q (F0 m (pc + 3) ls (.ref (ad 17) :: rest))) : W p l e R s m args below meth c H locs cells slots Q (F0 m pc ls (.ref (ad 0) :: rest)) := va_get (D := G.1) (ci := 4) (C := RX4) (T := TX4) (N := 25) (Ts := lw_gt) F.1.1 F.1.2.1 (fun _ h => F.tb h) inX4 F.1.2.2.2.1 hw.1.1 hw.2.1 0 rfl rfl 17 (by decide) (F.tb (tw 528 (by decide +kernel) rfl)) (fun _ h9 => h9) rfl hdg kk
theorem m_l17 {i : Int32} (F : FX p m c cc nL s args y ret RX4 meth) (hw : WD G A s (mw G ad u) H locs) (hi : ix i 48600 = true) (hdg : decode cc pc = .ok (.laload, 1)) (kk : W p l e R s m args below meth c H locs cells slots Q (F0 m (pc + 1) ls (.long (u.2.2 17 i.toNatClampNeg) :: rest))) : W p l e R s m args below meth c H locs cells slots Q (F0 m pc ls (.int i :: .ref (ad 17) :: rest)) := va_lald F.1.1 F.1.2.1 hw.1.1 hw.2.1 15 1 rfl rfl (ix_in hi) hdg kk
theorem m_s17 {i : Int32} {x : Int64} (F : FX p m c cc nL s args y ret RX4 meth) (hw : WD G A s (mw G ad u) H locs) (hi : ix i 48600 = true) (hdg : decode cc pc = .ok (.lastore, 1)) (kk : ∀ (H : Heap) (locs : List Loc), WD G A s (mw G ad (mB u 17 i.toNatClampNeg x)) H locs → W p l e R s m args below meth c H locs cells slots Q (F0 m (pc + 1) ls (rest))) : W p l e R s m args below meth c H locs cells slots Q (F0 m pc ls (.long x :: .int i :: .ref (ad 17) :: rest)) := va_last F.1.1 F.1.2.1 hw.1.1 hw.2.1 hw.2.2.1 hw.2.2.2 15 1 rfl rfl (ix_in hi) hdg (fun H1 l1 hP hD hS => kk H1 l1 ⟨hw.1, hP, hD, hS⟩)
theorem m_g18 (F : FX p m c cc nL s args y ret RX4 meth) (hw : WD G A s (mw G ad u) H locs) (hdg : decode cc pc = .ok (.getfield 81, 3)) (kk : W p l e R s m args below meth c H locs cells slots Q (F0 m (pc + 3) ls (.int (u.1 18) :: rest))) : W p l e R s m args below meth c H locs cells slots Q (F0 m pc ls (.ref (ad 0) :: rest)) := va_get (D := G.1) (ci := 4) (C := RX4) (T := TX4) (N := 25) (Ts := lw_gt) F.1.1 F.1.2.1 (fun _ h => F.tb h) inX4 F.1.2.2.2.1 hw.1.1 hw.2.1 0 rfl rfl 18 (by decide) (F.tb (tw 529 (by decide +kernel) rfl)) (fun _ h9 => h9) rfl hdg kk
theorem m_p18 {x : Int32} (F : FX p m c cc nL s args y ret RX4 meth) (hw : WD G A s (mw G ad u) H locs) (hdg : decode cc pc = .ok (.putfield 81, 3)) (kk : ∀ (H : Heap) (locs : List Loc), WD G A s (mw G ad (mF u 18 x)) H locs → W p l e R s m args below meth c H locs cells slots Q (F0 m (pc + 3) ls (rest))) : W p l e R s m args below meth c H locs cells slots Q (F0 m pc ls (.int x :: .ref (ad 0) :: rest)) := va_put (D := G.1) (ci := 4) (ty := .int) (C := RX4) (T := TX4) (N := 25) (Ts := lw_gt) F.1.1 F.1.2.1 (fun _ h => F.tb h) inX4 tyX4 tyX4_ok nmX4 F.1.2.2.2.1 hw.1.1 hw.2.1 hw.2.2.1 hw.2.2.2 0 rfl rfl 18 (by decide) (F.tb (tw 529 (by decide +kernel) rfl)) (fun _ h9 => h9) rfl (by decide +kernel) rfl rfl (Nat.le_of_ble_eq_true rfl) hdg (fun H1 l1 hP hD hS => kk H1 l1 ⟨hw.1, hP, hD, hS⟩)
theorem m_g19 (F : FX p m c cc nL s args y ret RX4 meth) (hw : WD G A s (mw G ad u) H locs) (hdg : decode cc pc = .ok (.getfield 86, 3)) (kk : W p l e R s m args below meth c H locs cells slots Q (F0 m (pc + 3) ls (.int (u.1 19) :: rest))) : W p l e R s m args below meth c H locs cells slots Q (F0 m pc ls (.ref (ad 0) :: rest)) := va_get (D := G.1) (ci := 4) (C := RX4) (T := TX4) (N := 25) (Ts := lw_gt) F.1.1 F.1.2.1 (fun _ h => F.tb h) inX4 F.1.2.2.2.1 hw.1.1 hw.2.1 0 rfl rfl 19 (by decide) (F.tb (tw 530 (by decide +kernel) rfl)) (fun _ h9 => h9) rfl hdg kk
theorem m_p19 {x : Int32} (F : FX p m c cc nL s args y ret RX4 meth) (hw : WD G A s (mw G ad u) H locs) (hdg : decode cc pc = .ok (.putfield 86, 3)) (kk : ∀ (H : Heap) (locs : List Loc), WD G A s (mw G ad (mF u 19 x)) H locs → W p l e R s m args below meth c H locs cells slots Q (F0 m (pc + 3) ls (rest))) : W p l e R s m args below meth c H locs cells slots Q (F0 m pc ls (.int x :: .ref (ad 0) :: rest)) := va_put (D := G.1) (ci := 4) (ty := .int) (C := RX4) (T := TX4) (N := 25) (Ts := lw_gt) F.1.1 F.1.2.1 (fun _ h => F.tb h) inX4 tyX4 tyX4_ok nmX4 F.1.2.2.2.1 hw.1.1 hw.2.1 hw.2.2.1 hw.2.2.2 0 rfl rfl 19 (by decide) (F.tb (tw 530 (by decide +kernel) rfl)) (fun _ h9 => h9) rfl (by decide +kernel) rfl rfl (Nat.le_of_ble_eq_true rfl) hdg (fun H1 l1 hP hD hS => kk H1 l1 ⟨hw.1, hP, hD, hS⟩)
theorem m_g20 (F : FX p m c cc nL s args y ret RX4 meth) (hw : WD G A s (mw G ad u) H locs) (hdg : decode cc pc = .ok (.getfield 68, 3)) (kk : W p l e R s m args below meth c H locs cells slots Q (F0 m (pc + 3) ls (.int (u.1 20) :: rest))) : W p l e R s m args below meth c H locs cells slots Q (F0 m pc ls (.ref (ad 0) :: rest)) := va_get (D := G.1) (ci := 4) (C := RX4) (T := TX4) (N := 25) (Ts := lw_gt) F.1.1 F.1.2.1 (fun _ h => F.tb h) inX4 F.1.2.2.2.1 hw.1.1 hw.2.1 0 rfl rfl 20 (by decide) (F.tb (tw 531 (by decide +kernel) rfl)) (fun _ h9 => h9) rfl hdg kk
theorem m_p20 {x : Int32} (F : FX p m c cc nL s args y ret RX4 meth) (hw : WD G A s (mw G ad u) H locs) (hdg : decode cc pc = .ok (.putfield 68, 3)) (kk : ∀ (H : Heap) (locs : List Loc), WD G A s (mw G ad (mF u 20 x)) H locs → W p l e R s m args below meth c H locs cells slots Q (F0 m (pc + 3) ls (rest))) : W p l e R s m args below meth c H locs cells slots Q (F0 m pc ls (.int x :: .ref (ad 0) :: rest)) := va_put (D := G.1) (ci := 4) (ty := .int) (C := RX4) (T := TX4) (N := 25) (Ts := lw_gt) F.1.1 F.1.2.1 (fun _ h => F.tb h) inX4 tyX4 tyX4_ok nmX4 F.1.2.2.2.1 hw.1.1 hw.2.1 hw.2.2.1 hw.2.2.2 0 rfl rfl 20 (by decide) (F.tb (tw 531 (by decide +kernel) rfl)) (fun _ h9 => h9) rfl (by decide +kernel) rfl rfl (Nat.le_of_ble_eq_true rfl) hdg (fun H1 l1 hP hD hS => kk H1 l1 ⟨hw.1, hP, hD, hS⟩)
theorem m_g21 (F : FX p m c cc nL s args y ret RX4 meth) (hw : WD G A s (mw G ad u) H locs) (hdg : decode cc pc = .ok (.getfield 58, 3)) (kk : W p l e R s m args below meth c H locs cells slots Q (F0 m (pc + 3) ls (.ref (ad 21) :: rest))) : W p l e R s m args below meth c H locs cells slots Q (F0 m pc ls (.ref (ad 0) :: rest)) := va_get (D := G.1) (ci := 4) (C := RX4) (T := TX4) (N := 25) (Ts := lw_gt) F.1.1 F.1.2.1 (fun _ h => F.tb h) inX4 F.1.2.2.2.1 hw.1.1 hw.2.1 0 rfl rfl 21 (by decide) (F.tb (tw 532 (by decide +kernel) rfl)) (fun _ h9 => h9) rfl hdg kk
theorem m_l21 {i : Int32} (F : FX p m c cc nL s args y ret RX4 meth) (hw : WD G A s (mw G ad u) H locs) (hi : ix i 601 = true) (hdg : decode cc pc = .ok (.laload, 1)) (kk : W p l e R s m args below meth c H locs cells slots Q (F0 m (pc + 1) ls (.long (u.2.2 21 i.toNatClampNeg) :: rest))) : W p l e R s m args below meth c H locs cells slots Q (F0 m pc ls (.int i :: .ref (ad 21) :: rest)) := va_lald F.1.1 F.1.2.1 hw.1.1 hw.2.1 16 1 rfl rfl (ix_in hi) hdg kk
theorem m_s21 {i : Int32} {x : Int64} (F : FX p m c cc nL s args y ret RX4 meth) (hw : WD G A s (mw G ad u) H locs) (hi : ix i 601 = true) (hdg : decode cc pc = .ok (.lastore, 1)) (kk : ∀ (H : Heap) (locs : List Loc), WD G A s (mw G ad (mB u 21 i.toNatClampNeg x)) H locs → W p l e R s m args below meth c H locs cells slots Q (F0 m (pc + 1) ls (rest))) : W p l e R s m args below meth c H locs cells slots Q (F0 m pc ls (.long x :: .int i :: .ref (ad 21) :: rest)) := va_last F.1.1 F.1.2.1 hw.1.1 hw.2.1 hw.2.2.1 hw.2.2.2 16 1 rfl rfl (ix_in hi) hdg (fun H1 l1 hP hD hS => kk H1 l1 ⟨hw.1, hP, hD, hS⟩)
theorem m_g22 (F : FX p m c cc nL s args y ret RX4 meth) (hw : WD G A s (mw G ad u) H locs) (hdg : decode cc pc = .ok (.getfield 112, 3)) (kk : W p l e R s m args below meth c H locs cells slots Q (F0 m (pc + 3) ls (.int (u.1 22) :: rest))) : W p l e R s m args below meth c H locs cells slots Q (F0 m pc ls (.ref (ad 0) :: rest)) := va_get (D := G.1) (ci := 4) (C := RX4) (T := TX4) (N := 25) (Ts := lw_gt) F.1.1 F.1.2.1 (fun _ h => F.tb h) inX4 F.1.2.2.2.1 hw.1.1 hw.2.1 0 rfl rfl 22 (by decide) (F.tb (tw 533 (by decide +kernel) rfl)) (fun _ h9 => h9) rfl hdg kk
theorem m_p22 {x : Int32} (F : FX p m c cc nL s args y ret RX4 meth) (hw : WD G A s (mw G ad u) H locs) (hdg : decode cc pc = .ok (.putfield 112, 3)) (kk : ∀ (H : Heap) (locs : List Loc), WD G A s (mw G ad (mF u 22 x)) H locs → W p l e R s m args below meth c H locs cells slots Q (F0 m (pc + 3) ls (rest))) : W p l e R s m args below meth c H locs cells slots Q (F0 m pc ls (.int x :: .ref (ad 0) :: rest)) := va_put (D := G.1) (ci := 4) (ty := .int) (C := RX4) (T := TX4) (N := 25) (Ts := lw_gt) F.1.1 F.1.2.1 (fun _ h => F.tb h) inX4 tyX4 tyX4_ok nmX4 F.1.2.2.2.1 hw.1.1 hw.2.1 hw.2.2.1 hw.2.2.2 0 rfl rfl 22 (by decide) (F.tb (tw 533 (by decide +kernel) rfl)) (fun _ h9 => h9) rfl (by decide +kernel) rfl rfl (Nat.le_of_ble_eq_true rfl) hdg (fun H1 l1 hP hD hS => kk H1 l1 ⟨hw.1, hP, hD, hS⟩)
theorem m_g23 (F : FX p m c cc nL s args y ret RX4 meth) (hw : WD G A s (mw G ad u) H locs) (hdg : decode cc pc = .ok (.getfield 61, 3)) (kk : W p l e R s m args below meth c H locs cells slots Q (F0 m (pc + 3) ls (.ref (ad 23) :: rest))) : W p l e R s m args below meth c H locs cells slots Q (F0 m pc ls (.ref (ad 0) :: rest)) := va_get (D := G.1) (ci := 4) (C := RX4) (T := TX4) (N := 25) (Ts := lw_gt) F.1.1 F.1.2.1 (fun _ h => F.tb h) inX4 F.1.2.2.2.1 hw.1.1 hw.2.1 0 rfl rfl 23 (by decide) (F.tb (tw 534 (by decide +kernel) rfl)) (fun _ h9 => h9) rfl hdg kk
theorem m_l23 {i : Int32} (F : FX p m c cc nL s args y ret RX4 meth) (hw : WD G A s (mw G ad u) H locs) (hi : ix i 600 = true) (hdg : decode cc pc = .ok (.iaload, 1)) (kk : W p l e R s m args below meth c H locs cells slots Q (F0 m (pc + 1) ls (.int (u.2.1 23 i.toNatClampNeg) :: rest))) : W p l e R s m args below meth c H locs cells slots Q (F0 m pc ls (.int i :: .ref (ad 23) :: rest)) := va_iald F.1.1 F.1.2.1 hw.1.1 hw.2.1 17 0 rfl rfl (ix_in hi) hdg kk
theorem m_s23 {i x : Int32} (F : FX p m c cc nL s args y ret RX4 meth) (hw : WD G A s (mw G ad u) H locs) (hi : ix i 600 = true) (hdg : decode cc pc = .ok (.iastore, 1)) (kk : ∀ (H : Heap) (locs : List Loc), WD G A s (mw G ad (mA u 23 i.toNatClampNeg x)) H locs → W p l e R s m args below meth c H locs cells slots Q (F0 m (pc + 1) ls (rest))) : W p l e R s m args below meth c H locs cells slots Q (F0 m pc ls (.int x :: .int i :: .ref (ad 23) :: rest)) := va_iast F.1.1 F.1.2.1 hw.1.1 hw.2.1 hw.2.2.1 hw.2.2.2 17 0 rfl rfl (ix_in hi) hdg (fun H1 l1 hP hD hS => kk H1 l1 ⟨hw.1, hP, hD, hS⟩)
theorem m_g24 (F : FX p m c cc nL s args y ret RX4 meth) (hw : WD G A s (mw G ad u) H locs) (hdg : decode cc pc = .ok (.getfield 174, 3)) (kk : W p l e R s m args below meth c H locs cells slots Q (F0 m (pc + 3) ls (.int (u.1 24) :: rest))) : W p l e R s m args below meth c H locs cells slots Q (F0 m pc ls (.ref (ad 0) :: rest)) := va_get (D := G.1) (ci := 4) (C := RX4) (T := TX4) (N := 25) (Ts := lw_gt) F.1.1 F.1.2.1 (fun _ h => F.tb h) inX4 F.1.2.2.2.1 hw.1.1 hw.2.1 0 rfl rfl 24 (by decide) (F.tb (tw 535 (by decide +kernel) rfl)) (fun _ h9 => h9) rfl hdg kk
theorem m_p24 {x : Int32} (F : FX p m c cc nL s args y ret RX4 meth) (hw : WD G A s (mw G ad u) H locs) (hdg : decode cc pc = .ok (.putfield 174, 3)) (kk : ∀ (H : Heap) (locs : List Loc), WD G A s (mw G ad (mF u 24 x)) H locs → W p l e R s m args below meth c H locs cells slots Q (F0 m (pc + 3) ls (rest))) : W p l e R s m args below meth c H locs cells slots Q (F0 m pc ls (.int x :: .ref (ad 0) :: rest)) := va_put (D := G.1) (ci := 4) (ty := .int) (C := RX4) (T := TX4) (N := 25) (Ts := lw_gt) F.1.1 F.1.2.1 (fun _ h => F.tb h) inX4 tyX4 tyX4_ok nmX4 F.1.2.2.2.1 hw.1.1 hw.2.1 hw.2.2.1 hw.2.2.2 0 rfl rfl 24 (by decide) (F.tb (tw 535 (by decide +kernel) rfl)) (fun _ h9 => h9) rfl (by decide +kernel) rfl rfl (Nat.le_of_ble_eq_true rfl) hdg (fun H1 l1 hP hD hS => kk H1 l1 ⟨hw.1, hP, hD, hS⟩)
end WM
end
section
/-! ===== parts of worlds: what a call of a part leaves ===== -/
theorem at_idx {ws w : va_W} {is : List Nat} (hs : is.map (fun i => ws[i]?) = w.map some) {k : Nat} {q : Nat × va_E} (hq : w[k]? = some q) : ∃ i, is[k]? = some i ∧ ws[i]? = some q := by
  have h1 : (is.map (fun i => ws[i]?))[k]? = some (some q) := by rw [hs, List.getElem?_map, hq]; rfl
  rw [List.getElem?_map] at h1
  cases hi : is[k]? with
  | none => rw [hi] at h1; cases h1
  | some i => rw [hi] at h1; exact ⟨i, rfl, Option.some.inj h1⟩
/-- a cell that isn't the part's stays -/
theorem apart_kept {A : Nat → Prop} {D : va_G} {cl : List vw_C} {ws wc : va_W} {H H1 : Heap} (hP : va_P D cl ws H) (hD : va_D A ws) (isC : List Nat) (hC : isC.map (fun i => ws[i]?) = wc.map some) (hk : ∀ q : Nat, q < H.size → ¬ aw wc q → H1[q]? = H[q]?) {i : Nat} {q : Nat × va_E} (hi : ws[i]? = some q) (hn : i ∉ isC) : va_at D cl q H1 := by
  have h0 := hP i q hi
  refine h0.kept (hk q.1 h0.lt fun ⟨k2, e, h⟩ => ?_)
  obtain ⟨j, h3, h4⟩ := at_idx hC h
  have hij := hD.1 i j q (q.1, e) hi h4 rfl
  subst hij
  exact hn (List.mem_of_getElem? h3)
theorem joinW {A : Nat → Prop} {D : va_G} {cl : List vw_C} {ws wc w1 : va_W} {H H1 : Heap} (hP : va_P D cl ws H) (hD : va_D A ws) (isC isR : List Nat) (hC : isC.map (fun i => ws[i]?) = wc.map some) (hdis : ∀ i ∈ isR, i ∉ isC) (hk : ∀ q : Nat, q < H.size → ¬ aw wc q → H1[q]? = H[q]?) (hP1 : va_P D cl w1 H1) : va_P D cl (isR.filterMap (fun i => ws[i]?) ++ w1) H1 := by
  refine va_P.app (fun k q hq => ?_) hP1
  obtain ⟨i, h1, h2⟩ := List.mem_filterMap.mp (List.mem_of_getElem? hq)
  exact apart_kept hP hD isC hC hk h2 (hdis i h1)
theorem idx_app {wx T : va_W} {i : Nat} {q : Nat × va_E} (h : wx[i]? = some q) : (wx ++ T)[i]? = some q := by
  rw [List.getElem?_append_left (List.getElem?_eq_some_iff.mp h).1]; exact h
/-- the same with a tail that isn't told -/
theorem joinT {A : Nat → Prop} {D : va_G} {cl : List vw_C} {wx T wc w1 : va_W} {H H1 : Heap} (hP : va_P D cl (wx ++ T) H) (hD : va_D A (wx ++ T)) (isC isR : List Nat) (hC : isC.map (fun i => wx[i]?) = wc.map some) (hlt : ∀ i ∈ isC, i < wx.length) (hdis : ∀ i ∈ isR, i ∉ isC) (hk : ∀ q : Nat, q < H.size → ¬ aw wc q → H1[q]? = H[q]?) (hP1 : va_P D cl w1 H1) : va_P D cl ((isR.filterMap (fun i => wx[i]?) ++ w1) ++ T) H1 := by
  have hC' : isC.map (fun i => (wx ++ T)[i]?) = wc.map some := by
    rw [← hC]
    apply List.map_congr_left
    intro i hi
    exact List.getElem?_append_left (hlt i hi)
  refine va_P.app (va_P.app (fun k q hq => ?_) hP1) (fun k q hq => ?_)
  · obtain ⟨i, h1, h2⟩ := List.mem_filterMap.mp (List.mem_of_getElem? hq)
    exact apart_kept hP hD isC hC' hk (idx_app h2) (hdis i h1)
  · have h2 : (wx ++ T)[wx.length + k]? = some q := by
      rw [List.getElem?_append_right (Nat.le_add_right _ _), Nat.add_sub_cancel_left]; exact hq
    exact apart_kept hP hD isC hC' hk h2 (fun hi => absurd (hlt _ hi) (by omega))
theorem subT {D : va_G} {cl : List vw_C} {wx wy T : va_W} {H : Heap} (hP : va_P D cl (wx ++ T) H) (is : List Nat) (hs : is.map (fun i => wx[i]?) = wy.map some) : va_P D cl (wy ++ T) H := by
  refine va_P.app (fun k q hq => ?_) (fun k q hq => ?_)
  · obtain ⟨i, -, h2⟩ := at_idx hs hq
    exact hP i q (idx_app h2)
  · exact hP (wx.length + k) q (by rw [List.getElem?_append_right (Nat.le_add_right _ _), Nat.add_sub_cancel_left]; exact hq)
/-- whether a copy stays within -/
def acp (sp dp n : Int32) (n0 n1 : Nat) : Bool := decide (¬ sp < 0) && (decide (¬ dp < 0) && (decide (¬ n < 0) && (decide (sp.toNatClampNeg + n.toNatClampNeg ≤ n0) && decide (dp.toNatClampNeg + n.toNatClampNeg ≤ n1))))
theorem acp_ok {sp dp n : Int32} {n0 n1 : Nat} (h : acp sp dp n n0 n1 = true) : ¬ sp < 0 ∧ ¬ dp < 0 ∧ ¬ n < 0 ∧ sp.toNatClampNeg + n.toNatClampNeg ≤ n0 ∧ dp.toNatClampNeg + n.toNatClampNeg ≤ n1 := by
  unfold acp at h
  simp only [Bool.and_eq_true, decide_eq_true_eq] at h
  exact ⟨h.1, h.2.1, h.2.2.1, h.2.2.2.1, h.2.2.2.2⟩
theorem nfw : nativeFrameWords "java/lang/System" "arraycopy" 5 = 7 := by decide +kernel
theorem nil_P {D : va_G} {cl : List vw_C} {H : Heap} : va_P D cl [] H := fun k q h => by simp at h
theorem nil_D {A : Nat → Prop} : va_D A [] := ⟨fun i j p q h => by simp at h, fun k q h => by simp at h⟩
theorem inX0 : ∀ w ∈ u_ws RX0 TX0 3, w ∈ lw_gt := by decide +kernel
theorem inX1 : ∀ w ∈ u_ws RX1 TX1 3, w ∈ lw_gt := by decide +kernel
theorem inX2 : ∀ w ∈ u_ws RX2 TX2 8, w ∈ lw_gt := by decide +kernel
theorem inX3 : ∀ w ∈ u_ws RX3 TX3 6, w ∈ lw_gt := by decide +kernel
abbrev OS : Type := Nat → Nat → Int32
def oA (o : OS) (k i : Nat) (x : Int32) : OS := va_up o k (upd (o k) i x)
/-- Order: 1 line, 2 begins, 3 rows -/
def ow (G : GX) (ad : Nat → Nat) (u : OS) : va_W := [(ad 0, .inr (1, [.ref (ad 1), .ref (ad 2), .ref (ad 3)])), (ad 1, .inl (G.2.1, 600, .inl (u 1))), (ad 2, .inl (G.2.1, 9, .inl (u 2))), (ad 3, .inl (G.2.1, 300, .inl (u 3)))]
/-- Marks: 1 rows, 2 behinds, 3 leans -/
def kw (G : GX) (ad : Nat → Nat) (u : OS) : va_W := [(ad 0, .inr (0, [.ref (ad 1), .ref (ad 2), .ref (ad 3)])), (ad 1, .inl (G.2.1, 20, .inl (u 1))), (ad 2, .inl (G.2.1, 20, .inl (u 2))), (ad 3, .inl (G.2.1, 20, .inl (u 3)))]
/-- State: the Order, the Marks, the arrays (2 kinds, 3 widths, 4 greatest, 6 inners), labels, renamed -/
abbrev SS : Type := OS × OS × OS × (Nat → Int64) × Int32
def sO (u : SS) (o : OS) : SS := (o, u.2)
def sK (u : SS) (o : OS) : SS := (u.1, o, u.2.2)
def sA (u : SS) (k i : Nat) (x : Int32) : SS := (u.1, u.2.1, va_up u.2.2.1 k (upd (u.2.2.1 k) i x), u.2.2.2)
def sL (u : SS) (i : Nat) (x : Int64) : SS := (u.1, u.2.1, u.2.2.1, vp_updL u.2.2.2.1 i x, u.2.2.2.2)
def sR (u : SS) (x : Int32) : SS := (u.1, u.2.1, u.2.2.1, u.2.2.2.1, x)
def sw (G : GX) (ad : Nat → Nat) (u : SS) : va_W := [(ad 0, .inr (2, [.ref (ad 1), .ref (ad 5), .ref (ad 9), .ref (ad 10), .ref (ad 11), .ref (ad 12), .ref (ad 13), .int u.2.2.2.2])), (ad 1, .inr (1, [.ref (ad 2), .ref (ad 3), .ref (ad 4)])), (ad 2, .inl (G.2.1, 600, .inl (u.1 1))), (ad 3, .inl (G.2.1, 9, .inl (u.1 2))), (ad 4, .inl (G.2.1, 300, .inl (u.1 3))), (ad 5, .inr (0, [.ref (ad 6), .ref (ad 7), .ref (ad 8)])), (ad 6, .inl (G.2.1, 20, .inl (u.2.1 1))), (ad 7, .inl (G.2.1, 20, .inl (u.2.1 2))), (ad 8, .inl (G.2.1, 20, .inl (u.2.1 3))), (ad 9, .inl (G.2.1, 8, .inl (u.2.2.1 2))), (ad 10, .inl (G.2.1, 8, .inl (u.2.2.1 3))), (ad 11, .inl (G.2.1, 8, .inl (u.2.2.1 4))), (ad 12, .inl (G.2.2.1, 600, .inr (.inl u.2.2.2.1))), (ad 13, .inl (G.2.1, 600, .inl (u.2.2.1 6)))]
/-- State, with the array of what is under way -/
abbrev SP : Type := SS × (Nat → Int32)
def sp (G : GX) (ad : Nat → Nat) (u : SP) : va_W := sw G ad u.1 ++ [(ad 14, .inl (G.2.1, 600, .inl u.2))]
end
section
/-! ===== X3_isKind ===== -/
theorem dX3_isKind_0 : decode cX3_isKind 0 = .ok (.iload_n 0, 1) := by decide +kernel
theorem dX3_isKind_1 : decode cX3_isKind 1 = .ok (.ifCond .lt 12, 3) := by decide +kernel
theorem dX3_isKind_4 : decode cX3_isKind 4 = .ok (.iload_n 0, 1) := by decide +kernel
theorem dX3_isKind_5 : decode cX3_isKind 5 = .ok (.iconst 3, 1) := by decide +kernel
theorem dX3_isKind_6 : decode cX3_isKind 6 = .ok (.if_icmp .gt 7, 3) := by decide +kernel
theorem dX3_isKind_9 : decode cX3_isKind 9 = .ok (.iconst 1, 1) := by decide +kernel
theorem dX3_isKind_10 : decode cX3_isKind 10 = .ok (.goto 4, 3) := by decide +kernel
theorem dX3_isKind_13 : decode cX3_isKind 13 = .ok (.iconst 0, 1) := by decide +kernel
theorem dX3_isKind_14 : decode cX3_isKind 14 = .ok (.ireturn, 1) := by decide +kernel
def rmX3_isKind : Room := { frames := 0, cells := 0, slots := 0, locals := 0 }
noncomputable def f_X3_isKind (x0 : Int32) : Option (Int32) := (if x0 < 0 then some 0 else (if (3 : Int32) < x0 then some 0 else some 1))
section
variable {p : Program} {l : Launch} {e : Env} {s : State} {m : MethodId} {args : Array Value} {below : List Frame} {meth : Method} {c : Code}
variable {G : GX} {A : Nat → Prop} {ad : Nat → Nat}
set_option maxHeartbeats 4000000 in
set_option maxRecDepth 100000 in
theorem w_X3_isKind_0 (F : FX p m c cX3_isKind 1 s args yX3_isKind (some .boolean) RX3 meth) {z : Int32} : ∀ (x0 : Int32) (ls : Array Slot), WD G A s [] s.heap [] → lv_has ls 1 [(0, .int x0)] → f_X3_isKind x0 = some z → W p l e rmX3_isKind s m args below meth c s.heap [] 0 0 (MQ below (QO (some (.int z))) args s 0 0 (fun _ => False)) (F0 m 0 ls []) := by
  obtain ⟨⟨hx, hb, hml, hown, hts⟩, hr, hlocks⟩ := id F
  intro x0 ls hw hl h
  unfold f_X3_isKind at h
  refine lv_iload_n hx hb dX3_isKind_0 rfl (lv_at hl 0 rfl) ?_
  refine lv_if_lt (tgt := 13) hx hb dX3_isKind_1 rfl (fun c1 => ?_) (fun c1 => ?_)
  · replace h := itT h c1
    refine lv_iconst (v := 0) hx hb dX3_isKind_13 rfl ?_
    cases h
    exact retO_z F narrow_b0 dX3_isKind_14
  · replace h := itF h c1
    refine lv_iload_n hx hb dX3_isKind_4 rfl (lv_at hl 0 rfl) ?_
    refine lv_iconst (v := 3) hx hb dX3_isKind_5 rfl ?_
    refine lv_icmp_gt (tgt := 13) hx hb dX3_isKind_6 rfl (fun c2 => ?_) (fun c2 => ?_)
    · replace h := itT h c2
      refine lv_iconst (v := 0) hx hb dX3_isKind_13 rfl ?_
      cases h
      exact retO_z F narrow_b0 dX3_isKind_14
    · replace h := itF h c2
      refine lv_iconst (v := 1) hx hb dX3_isKind_9 rfl ?_
      refine lv_goto (tgt := 14) hx hb dX3_isKind_10 rfl ?_
      cases h
      exact retO_z F narrow_b1 dX3_isKind_14
end
theorem c_X3_isKind {l : Launch} {G : GX} {x0 : Int32} {z : Int32} (h : f_X3_isKind x0 = some z) : MO l yX3_isKind cX3_isKind 1 (some .boolean) rmX3_isKind G [] [.int x0] (some (.int z)) := MO.of (by decide) (Nat.le_of_ble_eq_true rfl) (fun p e s m below meth c ls F hw hl => w_X3_isKind_0 F _ _ hw hl h)
/-! ===== X3_isEnd ===== -/
theorem dX3_isEnd_0 : decode cX3_isEnd 0 = .ok (.iload_n 0, 1) := by decide +kernel
theorem dX3_isEnd_1 : decode cX3_isEnd 1 = .ok (.iconst 1, 1) := by decide +kernel
theorem dX3_isEnd_2 : decode cX3_isEnd 2 = .ok (.iand, 1) := by decide +kernel
theorem dX3_isEnd_3 : decode cX3_isEnd 3 = .ok (.iconst 1, 1) := by decide +kernel
theorem dX3_isEnd_4 : decode cX3_isEnd 4 = .ok (.if_icmp .ne 7, 3) := by decide +kernel
theorem dX3_isEnd_7 : decode cX3_isEnd 7 = .ok (.iconst 1, 1) := by decide +kernel
theorem dX3_isEnd_8 : decode cX3_isEnd 8 = .ok (.goto 4, 3) := by decide +kernel
theorem dX3_isEnd_11 : decode cX3_isEnd 11 = .ok (.iconst 0, 1) := by decide +kernel
theorem dX3_isEnd_12 : decode cX3_isEnd 12 = .ok (.ireturn, 1) := by decide +kernel
def rmX3_isEnd : Room := { frames := 0, cells := 0, slots := 0, locals := 0 }
noncomputable def f_X3_isEnd (x0 : Int32) : Option (Int32) := (if (x0 &&& 1) = (1 : Int32) then some 1 else some 0)
section
variable {p : Program} {l : Launch} {e : Env} {s : State} {m : MethodId} {args : Array Value} {below : List Frame} {meth : Method} {c : Code}
variable {G : GX} {A : Nat → Prop} {ad : Nat → Nat}
set_option maxHeartbeats 4000000 in
set_option maxRecDepth 100000 in
theorem w_X3_isEnd_0 (F : FX p m c cX3_isEnd 1 s args yX3_isEnd (some .boolean) RX3 meth) {z : Int32} : ∀ (x0 : Int32) (ls : Array Slot), WD G A s [] s.heap [] → lv_has ls 1 [(0, .int x0)] → f_X3_isEnd x0 = some z → W p l e rmX3_isEnd s m args below meth c s.heap [] 0 0 (MQ below (QO (some (.int z))) args s 0 0 (fun _ => False)) (F0 m 0 ls []) := by
  obtain ⟨⟨hx, hb, hml, hown, hts⟩, hr, hlocks⟩ := id F
  intro x0 ls hw hl h
  unfold f_X3_isEnd at h
  refine lv_iload_n hx hb dX3_isEnd_0 rfl (lv_at hl 0 rfl) ?_
  refine lv_iconst (v := 1) hx hb dX3_isEnd_1 rfl ?_
  refine lv_iand hx hb dX3_isEnd_2 ?_
  refine lv_iconst (v := 1) hx hb dX3_isEnd_3 rfl ?_
  refine lv_icmp_ne (tgt := 11) hx hb dX3_isEnd_4 rfl (fun c1 => ?_) (fun c1 => ?_)
  · replace h := itF h c1
    refine lv_iconst (v := 0) hx hb dX3_isEnd_11 rfl ?_
    cases h
    exact retO_z F narrow_b0 dX3_isEnd_12
  · replace h := itT h c1
    refine lv_iconst (v := 1) hx hb dX3_isEnd_7 rfl ?_
    refine lv_goto (tgt := 12) hx hb dX3_isEnd_8 rfl ?_
    cases h
    exact retO_z F narrow_b1 dX3_isEnd_12
end
theorem c_X3_isEnd {l : Launch} {G : GX} {x0 : Int32} {z : Int32} (h : f_X3_isEnd x0 = some z) : MO l yX3_isEnd cX3_isEnd 1 (some .boolean) rmX3_isEnd G [] [.int x0] (some (.int z)) := MO.of (by decide) (Nat.le_of_ble_eq_true rfl) (fun p e s m below meth c ls F hw hl => w_X3_isEnd_0 F _ _ hw hl h)
/-! ===== X3_thingOf ===== -/
theorem dX3_thingOf_0 : decode cX3_thingOf 0 = .ok (.iload_n 0, 1) := by decide +kernel
theorem dX3_thingOf_1 : decode cX3_thingOf 1 = .ok (.iconst 1, 1) := by decide +kernel
theorem dX3_thingOf_2 : decode cX3_thingOf 2 = .ok (.ishr, 1) := by decide +kernel
theorem dX3_thingOf_3 : decode cX3_thingOf 3 = .ok (.ireturn, 1) := by decide +kernel
def rmX3_thingOf : Room := { frames := 0, cells := 0, slots := 0, locals := 0 }
noncomputable def f_X3_thingOf (x0 : Int32) : Option (Int32) := some (x0 >>> (1 &&& 31))
section
variable {p : Program} {l : Launch} {e : Env} {s : State} {m : MethodId} {args : Array Value} {below : List Frame} {meth : Method} {c : Code}
variable {G : GX} {A : Nat → Prop} {ad : Nat → Nat}
set_option maxHeartbeats 4000000 in
set_option maxRecDepth 100000 in
theorem w_X3_thingOf_0 (F : FX p m c cX3_thingOf 1 s args yX3_thingOf (some .int) RX3 meth) {z : Int32} : ∀ (x0 : Int32) (ls : Array Slot), WD G A s [] s.heap [] → lv_has ls 1 [(0, .int x0)] → f_X3_thingOf x0 = some z → W p l e rmX3_thingOf s m args below meth c s.heap [] 0 0 (MQ below (QO (some (.int z))) args s 0 0 (fun _ => False)) (F0 m 0 ls []) := by
  obtain ⟨⟨hx, hb, hml, hown, hts⟩, hr, hlocks⟩ := id F
  intro x0 ls hw hl h
  unfold f_X3_thingOf at h
  refine lv_iload_n hx hb dX3_thingOf_0 rfl (lv_at hl 0 rfl) ?_
  refine lv_iconst (v := 1) hx hb dX3_thingOf_1 rfl ?_
  refine lv_ishr hx hb dX3_thingOf_2 ?_
  cases h
  exact retO_i F dX3_thingOf_3
end
theorem c_X3_thingOf {l : Launch} {G : GX} {x0 : Int32} {z : Int32} (h : f_X3_thingOf x0 = some z) : MO l yX3_thingOf cX3_thingOf 1 (some .int) rmX3_thingOf G [] [.int x0] (some (.int z)) := MO.of (by decide) (Nat.le_of_ble_eq_true rfl) (fun p e s m below meth c ls F hw hl => w_X3_thingOf_0 F _ _ hw hl h)
/-! ===== X3_standOf ===== -/
theorem dX3_standOf_0 : decode cX3_standOf 0 = .ok (.iload_n 0, 1) := by decide +kernel
theorem dX3_standOf_1 : decode cX3_standOf 1 = .ok (.iconst (-1), 1) := by decide +kernel
theorem dX3_standOf_2 : decode cX3_standOf 2 = .ok (.if_icmp .ne 5, 3) := by decide +kernel
theorem dX3_standOf_5 : decode cX3_standOf 5 = .ok (.iconst (-1), 1) := by decide +kernel
theorem dX3_standOf_6 : decode cX3_standOf 6 = .ok (.ireturn, 1) := by decide +kernel
theorem dX3_standOf_7 : decode cX3_standOf 7 = .ok (.iload_n 1, 1) := by decide +kernel
theorem dX3_standOf_8 : decode cX3_standOf 8 = .ok (.ifCond .eq 11, 3) := by decide +kernel
theorem dX3_standOf_11 : decode cX3_standOf 11 = .ok (.iconst 2, 1) := by decide +kernel
theorem dX3_standOf_12 : decode cX3_standOf 12 = .ok (.iload_n 0, 1) := by decide +kernel
theorem dX3_standOf_13 : decode cX3_standOf 13 = .ok (.imul, 1) := by decide +kernel
theorem dX3_standOf_14 : decode cX3_standOf 14 = .ok (.iconst 1, 1) := by decide +kernel
theorem dX3_standOf_15 : decode cX3_standOf 15 = .ok (.iadd, 1) := by decide +kernel
theorem dX3_standOf_16 : decode cX3_standOf 16 = .ok (.goto 6, 3) := by decide +kernel
theorem dX3_standOf_19 : decode cX3_standOf 19 = .ok (.iconst 2, 1) := by decide +kernel
theorem dX3_standOf_20 : decode cX3_standOf 20 = .ok (.iload_n 0, 1) := by decide +kernel
theorem dX3_standOf_21 : decode cX3_standOf 21 = .ok (.imul, 1) := by decide +kernel
theorem dX3_standOf_22 : decode cX3_standOf 22 = .ok (.ireturn, 1) := by decide +kernel
def rmX3_standOf : Room := { frames := 0, cells := 0, slots := 0, locals := 0 }
noncomputable def f_X3_standOf (x0 : Int32) (x1 : Int32) : Option (Int32) := (if x0 = ((-1) : Int32) then some (-1) else (if x1 = 0 then some (2 * x0) else some ((2 * x0) + 1)))
section
variable {p : Program} {l : Launch} {e : Env} {s : State} {m : MethodId} {args : Array Value} {below : List Frame} {meth : Method} {c : Code}
variable {G : GX} {A : Nat → Prop} {ad : Nat → Nat}
set_option maxHeartbeats 4000000 in
set_option maxRecDepth 100000 in
theorem w_X3_standOf_0 (F : FX p m c cX3_standOf 2 s args yX3_standOf (some .int) RX3 meth) {z : Int32} : ∀ (x0 : Int32) (x1 : Int32) (ls : Array Slot), WD G A s [] s.heap [] → lv_has ls 2 [(0, .int x0), (1, .int x1)] → f_X3_standOf x0 x1 = some z → W p l e rmX3_standOf s m args below meth c s.heap [] 0 0 (MQ below (QO (some (.int z))) args s 0 0 (fun _ => False)) (F0 m 0 ls []) := by
  obtain ⟨⟨hx, hb, hml, hown, hts⟩, hr, hlocks⟩ := id F
  intro x0 x1 ls hw hl h
  unfold f_X3_standOf at h
  refine lv_iload_n hx hb dX3_standOf_0 rfl (lv_at hl 0 rfl) ?_
  refine lv_iconst (v := (-1)) hx hb dX3_standOf_1 rfl ?_
  refine lv_icmp_ne (tgt := 7) hx hb dX3_standOf_2 rfl (fun c1 => ?_) (fun c1 => ?_)
  · replace h := itF h c1
    refine lv_iload_n hx hb dX3_standOf_7 rfl (lv_at hl 1 rfl) ?_
    refine lv_if_eq (tgt := 19) hx hb dX3_standOf_8 rfl (fun c2 => ?_) (fun c2 => ?_)
    · replace h := itT h c2
      refine lv_iconst (v := 2) hx hb dX3_standOf_19 rfl ?_
      refine lv_iload_n hx hb dX3_standOf_20 rfl (lv_at hl 0 rfl) ?_
      refine lv_imul hx hb dX3_standOf_21 ?_
      cases h
      exact retO_i F dX3_standOf_22
    · replace h := itF h c2
      refine lv_iconst (v := 2) hx hb dX3_standOf_11 rfl ?_
      refine lv_iload_n hx hb dX3_standOf_12 rfl (lv_at hl 0 rfl) ?_
      refine lv_imul hx hb dX3_standOf_13 ?_
      refine lv_iconst (v := 1) hx hb dX3_standOf_14 rfl ?_
      refine lv_iadd hx hb dX3_standOf_15 ?_
      refine lv_goto (tgt := 22) hx hb dX3_standOf_16 rfl ?_
      cases h
      exact retO_i F dX3_standOf_22
  · replace h := itT h c1
    refine lv_iconst (v := (-1)) hx hb dX3_standOf_5 rfl ?_
    cases h
    exact retO_i F dX3_standOf_6
end
theorem c_X3_standOf {l : Launch} {G : GX} {x0 : Int32} {x1 : Int32} {z : Int32} (h : f_X3_standOf x0 x1 = some z) : MO l yX3_standOf cX3_standOf 2 (some .int) rmX3_standOf G [] [.int x0, .int x1] (some (.int z)) := MO.of (by decide) (Nat.le_of_ble_eq_true rfl) (fun p e s m below meth c ls F hw hl => w_X3_standOf_0 F _ _ _ hw hl h)
/-! ===== X3_dealt ===== -/
theorem dX3_dealt_0 : decode cX3_dealt 0 = .ok (.iload_n 3, 1) := by decide +kernel
theorem dX3_dealt_1 : decode cX3_dealt 1 = .ok (.ifCond .gt 5, 3) := by decide +kernel
theorem dX3_dealt_4 : decode cX3_dealt 4 = .ok (.lload_n 0, 1) := by decide +kernel
theorem dX3_dealt_5 : decode cX3_dealt 5 = .ok (.lreturn, 1) := by decide +kernel
theorem dX3_dealt_6 : decode cX3_dealt 6 = .ok (.lload_n 0, 1) := by decide +kernel
theorem dX3_dealt_7 : decode cX3_dealt 7 = .ok (.ldc2_w 205, 3) := by decide +kernel
theorem dX3_dealt_10 : decode cX3_dealt 10 = .ok (.iload 4, 2) := by decide +kernel
theorem dX3_dealt_12 : decode cX3_dealt 12 = .ok (.i2l, 1) := by decide +kernel
theorem dX3_dealt_13 : decode cX3_dealt 13 = .ok (.lmul, 1) := by decide +kernel
theorem dX3_dealt_14 : decode cX3_dealt 14 = .ok (.lconst 1, 1) := by decide +kernel
theorem dX3_dealt_15 : decode cX3_dealt 15 = .ok (.ladd, 1) := by decide +kernel
theorem dX3_dealt_16 : decode cX3_dealt 16 = .ok (.lconst 1, 1) := by decide +kernel
theorem dX3_dealt_17 : decode cX3_dealt 17 = .ok (.iload_n 2, 1) := by decide +kernel
theorem dX3_dealt_18 : decode cX3_dealt 18 = .ok (.lshl, 1) := by decide +kernel
theorem dX3_dealt_19 : decode cX3_dealt 19 = .ok (.lmul, 1) := by decide +kernel
theorem dX3_dealt_20 : decode cX3_dealt 20 = .ok (.ldc2_w 205, 3) := by decide +kernel
theorem dX3_dealt_23 : decode cX3_dealt 23 = .ok (.iload_n 3, 1) := by decide +kernel
theorem dX3_dealt_24 : decode cX3_dealt 24 = .ok (.i2l, 1) := by decide +kernel
theorem dX3_dealt_25 : decode cX3_dealt 25 = .ok (.lmul, 1) := by decide +kernel
theorem dX3_dealt_26 : decode cX3_dealt 26 = .ok (.ldiv, 1) := by decide +kernel
theorem dX3_dealt_27 : decode cX3_dealt 27 = .ok (.ladd, 1) := by decide +kernel
theorem dX3_dealt_28 : decode cX3_dealt 28 = .ok (.lreturn, 1) := by decide +kernel
def rmX3_dealt : Room := { frames := 0, cells := 0, slots := 0, locals := 0 }
noncomputable def f_X3_dealt (x0 : Int64) (x2 : Int32) (x3 : Int32) (x4 : Int32) : Option (Int64) := (if 0 < x3 then (if ¬ (2 * (Int32.toInt64 x3)) = 0 then some (x0 + ((((2 * (Int32.toInt64 x4)) + 1) * ((1 : Int64) <<< (Int32.toInt64 x2 &&& 63))) / (2 * (Int32.toInt64 x3)))) else none) else some x0)
section
variable {p : Program} {l : Launch} {e : Env} {s : State} {m : MethodId} {args : Array Value} {below : List Frame} {meth : Method} {c : Code}
variable {G : GX} {A : Nat → Prop} {ad : Nat → Nat}
set_option maxHeartbeats 4000000 in
set_option maxRecDepth 100000 in
theorem w_X3_dealt_0 (F : FX p m c cX3_dealt 5 s args yX3_dealt (some .long) RX3 meth) {z : Int64} : ∀ (x0 : Int64) (x2 : Int32) (x3 : Int32) (x4 : Int32) (ls : Array Slot), WD G A s [] s.heap [] → lv_has ls 5 [(0, .long x0), (2, .int x2), (3, .int x3), (4, .int x4)] → f_X3_dealt x0 x2 x3 x4 = some z → W p l e rmX3_dealt s m args below meth c s.heap [] 0 0 (MQ below (QO (some (.long z))) args s 0 0 (fun _ => False)) (F0 m 0 ls []) := by
  obtain ⟨⟨hx, hb, hml, hown, hts⟩, hr, hlocks⟩ := id F
  intro x0 x2 x3 x4 ls hw hl h
  unfold f_X3_dealt at h
  refine lv_iload_n hx hb dX3_dealt_0 rfl (lv_at hl 2 rfl) ?_
  refine lv_if_gt (tgt := 6) hx hb dX3_dealt_1 rfl (fun c1 => ?_) (fun c1 => ?_)
  · replace h := itT h c1
    refine lv_lload_n hx hb dX3_dealt_6 rfl (lv_at hl 0 rfl) ?_
    refine lv_ldc2 (own := RX3) (v := 2) hx hb hown (F.tb (tw 272 (by decide +kernel) rfl)) dX3_dealt_7 ?_
    refine lv_iload hx hb dX3_dealt_10 (lv_at hl 3 rfl) ?_
    refine lv_i2l hx hb dX3_dealt_12 rfl ?_
    refine lv_lmul hx hb dX3_dealt_13 ?_
    refine lv_lconst (v := 1) hx hb dX3_dealt_14 rfl ?_
    refine lv_ladd hx hb dX3_dealt_15 ?_
    refine lv_lconst (v := 1) hx hb dX3_dealt_16 rfl ?_
    refine lv_iload_n hx hb dX3_dealt_17 rfl (lv_at hl 1 rfl) ?_
    refine lv_lshl hx hb dX3_dealt_18 rfl ?_
    refine lv_lmul hx hb dX3_dealt_19 ?_
    refine lv_ldc2 (own := RX3) (v := 2) hx hb hown (F.tb (tw 272 (by decide +kernel) rfl)) dX3_dealt_20 ?_
    refine lv_iload_n hx hb dX3_dealt_23 rfl (lv_at hl 2 rfl) ?_
    refine lv_i2l hx hb dX3_dealt_24 rfl ?_
    refine lv_lmul hx hb dX3_dealt_25 ?_
    obtain ⟨g2, h⟩ := gd h
    refine lv_ldiv hx hb dX3_dealt_26 g2 ?_
    refine lv_ladd hx hb dX3_dealt_27 ?_
    cases h
    exact retO_l F dX3_dealt_28
  · replace h := itF h c1
    refine lv_lload_n hx hb dX3_dealt_4 rfl (lv_at hl 0 rfl) ?_
    cases h
    exact retO_l F dX3_dealt_5
end
theorem c_X3_dealt {l : Launch} {G : GX} {x0 : Int64} {x2 : Int32} {x3 : Int32} {x4 : Int32} {z : Int64} (h : f_X3_dealt x0 x2 x3 x4 = some z) : MO l yX3_dealt cX3_dealt 5 (some .long) rmX3_dealt G [] [.long x0, .int x2, .int x3, .int x4] (some (.long z)) := MO.of (by decide) (Nat.le_of_ble_eq_true rfl) (fun p e s m below meth c ls F hw hl => w_X3_dealt_0 F _ _ _ _ _ hw hl h)
/-! ===== X1_first ===== -/
theorem dX1_first_0 : decode cX1_first 0 = .ok (.iload_n 1, 1) := by decide +kernel
theorem dX1_first_1 : decode cX1_first 1 = .ok (.ifCond .lt 18, 3) := by decide +kernel
theorem dX1_first_4 : decode cX1_first 4 = .ok (.iload_n 1, 1) := by decide +kernel
theorem dX1_first_5 : decode cX1_first 5 = .ok (.bipush 8, 2) := by decide +kernel
theorem dX1_first_7 : decode cX1_first 7 = .ok (.if_icmp .ge 12, 3) := by decide +kernel
theorem dX1_first_10 : decode cX1_first 10 = .ok (.aload_n 0, 1) := by decide +kernel
theorem dX1_first_11 : decode cX1_first 11 = .ok (.getfield 15, 3) := by decide +kernel
theorem dX1_first_14 : decode cX1_first 14 = .ok (.iload_n 1, 1) := by decide +kernel
theorem dX1_first_15 : decode cX1_first 15 = .ok (.iaload, 1) := by decide +kernel
theorem dX1_first_16 : decode cX1_first 16 = .ok (.goto 4, 3) := by decide +kernel
theorem dX1_first_19 : decode cX1_first 19 = .ok (.iconst 0, 1) := by decide +kernel
theorem dX1_first_20 : decode cX1_first 20 = .ok (.ireturn, 1) := by decide +kernel
theorem o_g0_1 {p : Program} {l : Launch} {e : Env} {R : Room} {s : State} {m : MethodId} {args : Array Value} {below : List Frame} {meth : Method} {c : Code} {H : Heap} {locs : List Loc} {cells slots : Nat} {Q : State → Prop} {G : GX} {A : Nat → Prop} {ad : Nat → Nat} {u : OS} {cc : ByteArray} {nL pc : Nat} {y : MethodName} {ret : Option FieldType} {ls : Array Slot} {rest : List Value} (F : FX p m c cc nL s args y ret RX1 meth) (hw : WD G A s (ow G ad u) H locs) (hdg : decode cc pc = .ok (.getfield 15, 3)) (kk : W p l e R s m args below meth c H locs cells slots Q (F0 m (pc + 3) ls (.ref (ad 2) :: rest))) : W p l e R s m args below meth c H locs cells slots Q (F0 m pc ls (.ref (ad 0) :: rest)) := va_get (D := G.1) (ci := 1) (C := RX1) (T := TX1) (N := 3) (Ts := lw_gt) F.1.1 F.1.2.1 (fun _ h => F.tb h) inX1 F.1.2.2.2.1 hw.1.1 hw.2.1 0 rfl rfl 1 (by decide) (F.tb (tw 35 (by decide +kernel) rfl)) (fun _ h9 => h9) rfl hdg kk
theorem o_l2 {i : Int32} {p : Program} {l : Launch} {e : Env} {R : Room} {s : State} {m : MethodId} {args : Array Value} {below : List Frame} {meth : Method} {c : Code} {H : Heap} {locs : List Loc} {cells slots : Nat} {Q : State → Prop} {G : GX} {A : Nat → Prop} {ad : Nat → Nat} {u : OS} {cc : ByteArray} {nL pc : Nat} {y : MethodName} {ret : Option FieldType} {ls : Array Slot} {rest : List Value} (F : FX p m c cc nL s args y ret RX1 meth) (hw : WD G A s (ow G ad u) H locs) (hi : ix i 9 = true) (hdg : decode cc pc = .ok (.iaload, 1)) (kk : W p l e R s m args below meth c H locs cells slots Q (F0 m (pc + 1) ls (.int ((u 2) i.toNatClampNeg) :: rest))) : W p l e R s m args below meth c H locs cells slots Q (F0 m pc ls (.int i :: .ref (ad 2) :: rest)) := va_iald F.1.1 F.1.2.1 hw.1.1 hw.2.1 2 0 rfl rfl (ix_in hi) hdg kk
def rmX1_first : Room := { frames := 0, cells := 0, slots := 0, locals := 0 }
noncomputable def f_X1_first (x1 : Int32) (u : OS) : Option (Int32) := (if x1 < 0 then some 0 else (if (8 : Int32) ≤ x1 then some 0 else (if ix x1 9 = true then some ((u 2) (Int32.toNatClampNeg x1)) else none)))
section
variable {p : Program} {l : Launch} {e : Env} {s : State} {m : MethodId} {args : Array Value} {below : List Frame} {meth : Method} {c : Code}
variable {G : GX} {A : Nat → Prop} {ad : Nat → Nat} 
set_option maxHeartbeats 4000000 in
set_option maxRecDepth 100000 in
theorem w_X1_first_0 (F : FX p m c cX1_first 2 s args yX1_first (some .int) RX1 meth) {z : Int32} : ∀ (x1 : Int32) (u : OS) (ls : Array Slot), WD G A s (ow G ad u) s.heap [] → lv_has ls 2 [(0, .ref (ad 0)), (1, .int x1)] → f_X1_first x1 u = some z → W p l e rmX1_first s m args below meth c s.heap [] 0 0 (MQ below (QO (some (.int z))) args s 0 0 (fun _ => False)) (F0 m 0 ls []) := by
  obtain ⟨⟨hx, hb, hml, hown, hts⟩, hr, hlocks⟩ := id F
  intro x1 u ls hw hl h
  unfold f_X1_first at h
  refine lv_iload_n hx hb dX1_first_0 rfl (lv_at hl 1 rfl) ?_
  refine lv_if_lt (tgt := 19) hx hb dX1_first_1 rfl (fun c1 => ?_) (fun c1 => ?_)
  · replace h := itT h c1
    refine lv_iconst (v := 0) hx hb dX1_first_19 rfl ?_
    cases h
    exact retO_i F dX1_first_20
  · replace h := itF h c1
    refine lv_iload_n hx hb dX1_first_4 rfl (lv_at hl 1 rfl) ?_
    refine lv_bipush (v := 8) hx hb dX1_first_5 rfl ?_
    refine lv_icmp_ge (tgt := 19) hx hb dX1_first_7 rfl (fun c2 => ?_) (fun c2 => ?_)
    · replace h := itT h c2
      refine lv_iconst (v := 0) hx hb dX1_first_19 rfl ?_
      cases h
      exact retO_i F dX1_first_20
    · replace h := itF h c2
      refine lv_aload_n hx hb dX1_first_10 rfl (lv_at hl 0 rfl) ?_
      refine o_g0_1 F hw dX1_first_11 ?_
      refine lv_iload_n hx hb dX1_first_14 rfl (lv_at hl 1 rfl) ?_
      obtain ⟨g3, h⟩ := gd h
      refine o_l2 F hw g3 dX1_first_15 ?_
      refine lv_goto (tgt := 20) hx hb dX1_first_16 rfl ?_
      cases h
      exact retO_i F dX1_first_20
end
theorem c_X1_first {l : Launch} {G : GX} {ad : Nat → Nat} {x1 : Int32} {u : OS} {z : Int32} (h : f_X1_first x1 u = some z) : MO l yX1_first cX1_first 2 (some .int) rmX1_first G (ow G ad u) [.ref (ad 0), .int x1] (some (.int z)) := MO.of (by decide) (Nat.le_of_ble_eq_true rfl) (fun p e s m below meth c ls F hw hl => w_X1_first_0 F _ _ _ hw hl h)
/-! ===== X1_end ===== -/
theorem dX1_end_0 : decode cX1_end 0 = .ok (.iload_n 1, 1) := by decide +kernel
theorem dX1_end_1 : decode cX1_end 1 = .ok (.ifCond .lt 20, 3) := by decide +kernel
theorem dX1_end_4 : decode cX1_end 4 = .ok (.iload_n 1, 1) := by decide +kernel
theorem dX1_end_5 : decode cX1_end 5 = .ok (.bipush 8, 2) := by decide +kernel
theorem dX1_end_7 : decode cX1_end 7 = .ok (.if_icmp .ge 14, 3) := by decide +kernel
theorem dX1_end_10 : decode cX1_end 10 = .ok (.aload_n 0, 1) := by decide +kernel
theorem dX1_end_11 : decode cX1_end 11 = .ok (.getfield 15, 3) := by decide +kernel
theorem dX1_end_14 : decode cX1_end 14 = .ok (.iload_n 1, 1) := by decide +kernel
theorem dX1_end_15 : decode cX1_end 15 = .ok (.iconst 1, 1) := by decide +kernel
theorem dX1_end_16 : decode cX1_end 16 = .ok (.iadd, 1) := by decide +kernel
theorem dX1_end_17 : decode cX1_end 17 = .ok (.iaload, 1) := by decide +kernel
theorem dX1_end_18 : decode cX1_end 18 = .ok (.goto 4, 3) := by decide +kernel
theorem dX1_end_21 : decode cX1_end 21 = .ok (.iconst 0, 1) := by decide +kernel
theorem dX1_end_22 : decode cX1_end 22 = .ok (.ireturn, 1) := by decide +kernel
def rmX1_end : Room := { frames := 0, cells := 0, slots := 0, locals := 0 }
noncomputable def f_X1_end (x1 : Int32) (u : OS) : Option (Int32) := (if x1 < 0 then some 0 else (if (8 : Int32) ≤ x1 then some 0 else (if ix (x1 + 1) 9 = true then some ((u 2) (Int32.toNatClampNeg (x1 + 1))) else none)))
section
variable {p : Program} {l : Launch} {e : Env} {s : State} {m : MethodId} {args : Array Value} {below : List Frame} {meth : Method} {c : Code}
variable {G : GX} {A : Nat → Prop} {ad : Nat → Nat} 
set_option maxHeartbeats 4000000 in
set_option maxRecDepth 100000 in
theorem w_X1_end_0 (F : FX p m c cX1_end 2 s args yX1_end (some .int) RX1 meth) {z : Int32} : ∀ (x1 : Int32) (u : OS) (ls : Array Slot), WD G A s (ow G ad u) s.heap [] → lv_has ls 2 [(0, .ref (ad 0)), (1, .int x1)] → f_X1_end x1 u = some z → W p l e rmX1_end s m args below meth c s.heap [] 0 0 (MQ below (QO (some (.int z))) args s 0 0 (fun _ => False)) (F0 m 0 ls []) := by
  obtain ⟨⟨hx, hb, hml, hown, hts⟩, hr, hlocks⟩ := id F
  intro x1 u ls hw hl h
  unfold f_X1_end at h
  refine lv_iload_n hx hb dX1_end_0 rfl (lv_at hl 1 rfl) ?_
  refine lv_if_lt (tgt := 21) hx hb dX1_end_1 rfl (fun c1 => ?_) (fun c1 => ?_)
  · replace h := itT h c1
    refine lv_iconst (v := 0) hx hb dX1_end_21 rfl ?_
    cases h
    exact retO_i F dX1_end_22
  · replace h := itF h c1
    refine lv_iload_n hx hb dX1_end_4 rfl (lv_at hl 1 rfl) ?_
    refine lv_bipush (v := 8) hx hb dX1_end_5 rfl ?_
    refine lv_icmp_ge (tgt := 21) hx hb dX1_end_7 rfl (fun c2 => ?_) (fun c2 => ?_)
    · replace h := itT h c2
      refine lv_iconst (v := 0) hx hb dX1_end_21 rfl ?_
      cases h
      exact retO_i F dX1_end_22
    · replace h := itF h c2
      refine lv_aload_n hx hb dX1_end_10 rfl (lv_at hl 0 rfl) ?_
      refine o_g0_1 F hw dX1_end_11 ?_
      refine lv_iload_n hx hb dX1_end_14 rfl (lv_at hl 1 rfl) ?_
      refine lv_iconst (v := 1) hx hb dX1_end_15 rfl ?_
      refine lv_iadd hx hb dX1_end_16 ?_
      obtain ⟨g3, h⟩ := gd h
      refine o_l2 F hw g3 dX1_end_17 ?_
      refine lv_goto (tgt := 22) hx hb dX1_end_18 rfl ?_
      cases h
      exact retO_i F dX1_end_22
end
theorem c_X1_end {l : Launch} {G : GX} {ad : Nat → Nat} {x1 : Int32} {u : OS} {z : Int32} (h : f_X1_end x1 u = some z) : MO l yX1_end cX1_end 2 (some .int) rmX1_end G (ow G ad u) [.ref (ad 0), .int x1] (some (.int z)) := MO.of (by decide) (Nat.le_of_ble_eq_true rfl) (fun p e s m below meth c ls F hw hl => w_X1_end_0 F _ _ _ hw hl h)
/-! ===== X1_length ===== -/
theorem dX1_length_0 : decode cX1_length 0 = .ok (.aload_n 0, 1) := by decide +kernel
theorem dX1_length_1 : decode cX1_length 1 = .ok (.iload_n 1, 1) := by decide +kernel
theorem dX1_length_2 : decode cX1_length 2 = .ok (.invokevirtual 33, 3) := by decide +kernel
theorem dX1_length_5 : decode cX1_length 5 = .ok (.aload_n 0, 1) := by decide +kernel
theorem dX1_length_6 : decode cX1_length 6 = .ok (.iload_n 1, 1) := by decide +kernel
theorem dX1_length_7 : decode cX1_length 7 = .ok (.invokevirtual 37, 3) := by decide +kernel
theorem dX1_length_10 : decode cX1_length 10 = .ok (.isub, 1) := by decide +kernel
theorem dX1_length_11 : decode cX1_length 11 = .ok (.ireturn, 1) := by decide +kernel
theorem yv_X1_end_X1 : YV RX1 33 yX1_end cX1_end 2 (some .int) 1 := ⟨(tw 219 (by decide +kernel) rfl), (tw 3 (by decide +kernel) rfl), (tw 216 (by decide +kernel) rfl), (tw 217 (by decide +kernel) rfl), (tw 218 (by decide +kernel) rfl), by decide +kernel⟩
theorem k_X1_end_o_ {p : Program} {l : Launch} {e : Env} {R : Room} {s : State} {m : MethodId} {args : Array Value} {below : List Frame} {meth : Method} {c : Code} {H : Heap} {locs : List Loc} {cells slots : Nat} {Q : State → Prop} {G : GX} {A : Nat → Prop} {ad : Nat → Nat} {u : OS} {cc : ByteArray} {nL pc : Nat} {y : MethodName} {ret : Option FieldType} {ls : Array Slot} {rest : List Value} {x1 : Int32} {z : Int32} (F : FX p m c cc nL s args y ret RX1 meth) (hw : WD G A s (ow G ad u) H locs) (h : f_X1_end x1 u = some z) (hR : rmX1_end.frames + 1 ≤ R.frames ∧ 8 + (2 + 11) + rmX1_end.locals ≤ R.locals) (hcs : cells ≤ R.cells ∧ slots ≤ R.slots) (hsz : ls.size = nL) (hW : (rest.map fun v => v.category).sum ≤ 8) (hdg : decode cc pc = .ok (.invokevirtual 33, 3)) (kk : W p l e R s m args below meth c H locs cells slots Q (F0 m (pc + 3) ls (.int z :: rest))) : W p l e R s m args below meth c H locs cells slots Q (F0 m pc ls (.int x1 :: .ref (ad 0) :: rest)) := callO (runV F yv_X1_end_X1 (c_X1_end h) hw.1 hw.2.1 hw.2.2.1 rfl rfl rfl ⟨rfl, rfl⟩ hR hcs rfl hsz rfl hW hdg) kk
theorem yv_X1_first_X1 : YV RX1 37 yX1_first cX1_first 2 (some .int) 1 := ⟨(tw 206 (by decide +kernel) rfl), (tw 3 (by decide +kernel) rfl), (tw 215 (by decide +kernel) rfl), (tw 204 (by decide +kernel) rfl), (tw 205 (by decide +kernel) rfl), by decide +kernel⟩
theorem k_X1_first_o_ {p : Program} {l : Launch} {e : Env} {R : Room} {s : State} {m : MethodId} {args : Array Value} {below : List Frame} {meth : Method} {c : Code} {H : Heap} {locs : List Loc} {cells slots : Nat} {Q : State → Prop} {G : GX} {A : Nat → Prop} {ad : Nat → Nat} {u : OS} {cc : ByteArray} {nL pc : Nat} {y : MethodName} {ret : Option FieldType} {ls : Array Slot} {rest : List Value} {x1 : Int32} {z : Int32} (F : FX p m c cc nL s args y ret RX1 meth) (hw : WD G A s (ow G ad u) H locs) (h : f_X1_first x1 u = some z) (hR : rmX1_first.frames + 1 ≤ R.frames ∧ 8 + (2 + 11) + rmX1_first.locals ≤ R.locals) (hcs : cells ≤ R.cells ∧ slots ≤ R.slots) (hsz : ls.size = nL) (hW : (rest.map fun v => v.category).sum ≤ 8) (hdg : decode cc pc = .ok (.invokevirtual 37, 3)) (kk : W p l e R s m args below meth c H locs cells slots Q (F0 m (pc + 3) ls (.int z :: rest))) : W p l e R s m args below meth c H locs cells slots Q (F0 m pc ls (.int x1 :: .ref (ad 0) :: rest)) := callO (runV F yv_X1_first_X1 (c_X1_first h) hw.1 hw.2.1 hw.2.2.1 rfl rfl rfl ⟨rfl, rfl⟩ hR hcs rfl hsz rfl hW hdg) kk
def rmX1_length : Room := { frames := 1, cells := 0, slots := 0, locals := 21 }
noncomputable def f_X1_length (x1 : Int32) (u : OS) : Option (Int32) := (f_X1_end x1 u).bind (fun z1 => (f_X1_first x1 u).bind (fun z3 => some (z1 - z3)))
section
variable {p : Program} {l : Launch} {e : Env} {s : State} {m : MethodId} {args : Array Value} {below : List Frame} {meth : Method} {c : Code}
variable {G : GX} {A : Nat → Prop} {ad : Nat → Nat} 
set_option maxHeartbeats 4000000 in
set_option maxRecDepth 100000 in
theorem w_X1_length_0 (F : FX p m c cX1_length 2 s args yX1_length (some .int) RX1 meth) {z : Int32} : ∀ (x1 : Int32) (u : OS) (ls : Array Slot), WD G A s (ow G ad u) s.heap [] → lv_has ls 2 [(0, .ref (ad 0)), (1, .int x1)] → f_X1_length x1 u = some z → W p l e rmX1_length s m args below meth c s.heap [] 0 0 (MQ below (QO (some (.int z))) args s 0 0 (fun _ => False)) (F0 m 0 ls []) := by
  obtain ⟨⟨hx, hb, hml, hown, hts⟩, hr, hlocks⟩ := id F
  intro x1 u ls hw hl h
  unfold f_X1_length at h
  refine lv_aload_n hx hb dX1_length_0 rfl (lv_at hl 0 rfl) ?_
  refine lv_iload_n hx hb dX1_length_1 rfl (lv_at hl 1 rfl) ?_
  obtain ⟨z1, e2, h⟩ := bnd h
  refine k_X1_end_o_ F hw e2 ⟨Nat.le_of_ble_eq_true rfl, Nat.le_of_ble_eq_true rfl⟩ ⟨Nat.zero_le _, Nat.zero_le _⟩ hl.1 (Nat.le_of_ble_eq_true rfl) dX1_length_2 ?_
  refine lv_aload_n hx hb dX1_length_5 rfl (lv_at hl 0 rfl) ?_
  refine lv_iload_n hx hb dX1_length_6 rfl (lv_at hl 1 rfl) ?_
  obtain ⟨z3, e4, h⟩ := bnd h
  refine k_X1_first_o_ F hw e4 ⟨Nat.le_of_ble_eq_true rfl, Nat.le_of_ble_eq_true rfl⟩ ⟨Nat.zero_le _, Nat.zero_le _⟩ hl.1 (Nat.le_of_ble_eq_true rfl) dX1_length_7 ?_
  refine lv_isub hx hb dX1_length_10 ?_
  cases h
  exact retO_i F dX1_length_11
end
theorem c_X1_length {l : Launch} {G : GX} {ad : Nat → Nat} {x1 : Int32} {u : OS} {z : Int32} (h : f_X1_length x1 u = some z) : MO l yX1_length cX1_length 2 (some .int) rmX1_length G (ow G ad u) [.ref (ad 0), .int x1] (some (.int z)) := MO.of (by decide) (Nat.le_of_ble_eq_true rfl) (fun p e s m below meth c ls F hw hl => w_X1_length_0 F _ _ _ hw hl h)
/-! ===== X1_rowOfThing ===== -/
theorem dX1_rowOfThing_0 : decode cX1_rowOfThing 0 = .ok (.iload_n 1, 1) := by decide +kernel
theorem dX1_rowOfThing_1 : decode cX1_rowOfThing 1 = .ok (.ifCond .lt 19, 3) := by decide +kernel
theorem dX1_rowOfThing_4 : decode cX1_rowOfThing 4 = .ok (.iload_n 1, 1) := by decide +kernel
theorem dX1_rowOfThing_5 : decode cX1_rowOfThing 5 = .ok (.sipush 300, 3) := by decide +kernel
theorem dX1_rowOfThing_8 : decode cX1_rowOfThing 8 = .ok (.if_icmp .ge 12, 3) := by decide +kernel
theorem dX1_rowOfThing_11 : decode cX1_rowOfThing 11 = .ok (.aload_n 0, 1) := by decide +kernel
theorem dX1_rowOfThing_12 : decode cX1_rowOfThing 12 = .ok (.getfield 18, 3) := by decide +kernel
theorem dX1_rowOfThing_15 : decode cX1_rowOfThing 15 = .ok (.iload_n 1, 1) := by decide +kernel
theorem dX1_rowOfThing_16 : decode cX1_rowOfThing 16 = .ok (.iaload, 1) := by decide +kernel
theorem dX1_rowOfThing_17 : decode cX1_rowOfThing 17 = .ok (.goto 4, 3) := by decide +kernel
theorem dX1_rowOfThing_20 : decode cX1_rowOfThing 20 = .ok (.iconst (-1), 1) := by decide +kernel
theorem dX1_rowOfThing_21 : decode cX1_rowOfThing 21 = .ok (.ireturn, 1) := by decide +kernel
theorem o_g0_2 {p : Program} {l : Launch} {e : Env} {R : Room} {s : State} {m : MethodId} {args : Array Value} {below : List Frame} {meth : Method} {c : Code} {H : Heap} {locs : List Loc} {cells slots : Nat} {Q : State → Prop} {G : GX} {A : Nat → Prop} {ad : Nat → Nat} {u : OS} {cc : ByteArray} {nL pc : Nat} {y : MethodName} {ret : Option FieldType} {ls : Array Slot} {rest : List Value} (F : FX p m c cc nL s args y ret RX1 meth) (hw : WD G A s (ow G ad u) H locs) (hdg : decode cc pc = .ok (.getfield 18, 3)) (kk : W p l e R s m args below meth c H locs cells slots Q (F0 m (pc + 3) ls (.ref (ad 3) :: rest))) : W p l e R s m args below meth c H locs cells slots Q (F0 m pc ls (.ref (ad 0) :: rest)) := va_get (D := G.1) (ci := 1) (C := RX1) (T := TX1) (N := 3) (Ts := lw_gt) F.1.1 F.1.2.1 (fun _ h => F.tb h) inX1 F.1.2.2.2.1 hw.1.1 hw.2.1 0 rfl rfl 2 (by decide) (F.tb (tw 36 (by decide +kernel) rfl)) (fun _ h9 => h9) rfl hdg kk
theorem o_l3 {i : Int32} {p : Program} {l : Launch} {e : Env} {R : Room} {s : State} {m : MethodId} {args : Array Value} {below : List Frame} {meth : Method} {c : Code} {H : Heap} {locs : List Loc} {cells slots : Nat} {Q : State → Prop} {G : GX} {A : Nat → Prop} {ad : Nat → Nat} {u : OS} {cc : ByteArray} {nL pc : Nat} {y : MethodName} {ret : Option FieldType} {ls : Array Slot} {rest : List Value} (F : FX p m c cc nL s args y ret RX1 meth) (hw : WD G A s (ow G ad u) H locs) (hi : ix i 300 = true) (hdg : decode cc pc = .ok (.iaload, 1)) (kk : W p l e R s m args below meth c H locs cells slots Q (F0 m (pc + 1) ls (.int ((u 3) i.toNatClampNeg) :: rest))) : W p l e R s m args below meth c H locs cells slots Q (F0 m pc ls (.int i :: .ref (ad 3) :: rest)) := va_iald F.1.1 F.1.2.1 hw.1.1 hw.2.1 3 0 rfl rfl (ix_in hi) hdg kk
def rmX1_rowOfThing : Room := { frames := 0, cells := 0, slots := 0, locals := 0 }
noncomputable def f_X1_rowOfThing (x1 : Int32) (u : OS) : Option (Int32) := (if x1 < 0 then some (-1) else (if (300 : Int32) ≤ x1 then some (-1) else (if ix x1 300 = true then some ((u 3) (Int32.toNatClampNeg x1)) else none)))
section
variable {p : Program} {l : Launch} {e : Env} {s : State} {m : MethodId} {args : Array Value} {below : List Frame} {meth : Method} {c : Code}
variable {G : GX} {A : Nat → Prop} {ad : Nat → Nat} 
set_option maxHeartbeats 4000000 in
set_option maxRecDepth 100000 in
theorem w_X1_rowOfThing_0 (F : FX p m c cX1_rowOfThing 2 s args yX1_rowOfThing (some .int) RX1 meth) {z : Int32} : ∀ (x1 : Int32) (u : OS) (ls : Array Slot), WD G A s (ow G ad u) s.heap [] → lv_has ls 2 [(0, .ref (ad 0)), (1, .int x1)] → f_X1_rowOfThing x1 u = some z → W p l e rmX1_rowOfThing s m args below meth c s.heap [] 0 0 (MQ below (QO (some (.int z))) args s 0 0 (fun _ => False)) (F0 m 0 ls []) := by
  obtain ⟨⟨hx, hb, hml, hown, hts⟩, hr, hlocks⟩ := id F
  intro x1 u ls hw hl h
  unfold f_X1_rowOfThing at h
  refine lv_iload_n hx hb dX1_rowOfThing_0 rfl (lv_at hl 1 rfl) ?_
  refine lv_if_lt (tgt := 20) hx hb dX1_rowOfThing_1 rfl (fun c1 => ?_) (fun c1 => ?_)
  · replace h := itT h c1
    refine lv_iconst (v := (-1)) hx hb dX1_rowOfThing_20 rfl ?_
    cases h
    exact retO_i F dX1_rowOfThing_21
  · replace h := itF h c1
    refine lv_iload_n hx hb dX1_rowOfThing_4 rfl (lv_at hl 1 rfl) ?_
    refine lv_sipush (v := 300) hx hb dX1_rowOfThing_5 rfl ?_
    refine lv_icmp_ge (tgt := 20) hx hb dX1_rowOfThing_8 rfl (fun c2 => ?_) (fun c2 => ?_)
    · replace h := itT h c2
      refine lv_iconst (v := (-1)) hx hb dX1_rowOfThing_20 rfl ?_
      cases h
      exact retO_i F dX1_rowOfThing_21
    · replace h := itF h c2
      refine lv_aload_n hx hb dX1_rowOfThing_11 rfl (lv_at hl 0 rfl) ?_
      refine o_g0_2 F hw dX1_rowOfThing_12 ?_
      refine lv_iload_n hx hb dX1_rowOfThing_15 rfl (lv_at hl 1 rfl) ?_
      obtain ⟨g3, h⟩ := gd h
      refine o_l3 F hw g3 dX1_rowOfThing_16 ?_
      refine lv_goto (tgt := 21) hx hb dX1_rowOfThing_17 rfl ?_
      cases h
      exact retO_i F dX1_rowOfThing_21
end
theorem c_X1_rowOfThing {l : Launch} {G : GX} {ad : Nat → Nat} {x1 : Int32} {u : OS} {z : Int32} (h : f_X1_rowOfThing x1 u = some z) : MO l yX1_rowOfThing cX1_rowOfThing 2 (some .int) rmX1_rowOfThing G (ow G ad u) [.ref (ad 0), .int x1] (some (.int z)) := MO.of (by decide) (Nat.le_of_ble_eq_true rfl) (fun p e s m below meth c ls F hw hl => w_X1_rowOfThing_0 F _ _ _ hw hl h)
/-! ===== X1_standAt ===== -/
theorem dX1_standAt_0 : decode cX1_standAt 0 = .ok (.iload_n 1, 1) := by decide +kernel
theorem dX1_standAt_1 : decode cX1_standAt 1 = .ok (.ifCond .lt 19, 3) := by decide +kernel
theorem dX1_standAt_4 : decode cX1_standAt 4 = .ok (.iload_n 1, 1) := by decide +kernel
theorem dX1_standAt_5 : decode cX1_standAt 5 = .ok (.sipush 600, 3) := by decide +kernel
theorem dX1_standAt_8 : decode cX1_standAt 8 = .ok (.if_icmp .ge 12, 3) := by decide +kernel
theorem dX1_standAt_11 : decode cX1_standAt 11 = .ok (.aload_n 0, 1) := by decide +kernel
theorem dX1_standAt_12 : decode cX1_standAt 12 = .ok (.getfield 9, 3) := by decide +kernel
theorem dX1_standAt_15 : decode cX1_standAt 15 = .ok (.iload_n 1, 1) := by decide +kernel
theorem dX1_standAt_16 : decode cX1_standAt 16 = .ok (.iaload, 1) := by decide +kernel
theorem dX1_standAt_17 : decode cX1_standAt 17 = .ok (.goto 4, 3) := by decide +kernel
theorem dX1_standAt_20 : decode cX1_standAt 20 = .ok (.iconst (-1), 1) := by decide +kernel
theorem dX1_standAt_21 : decode cX1_standAt 21 = .ok (.ireturn, 1) := by decide +kernel
theorem o_g0_0 {p : Program} {l : Launch} {e : Env} {R : Room} {s : State} {m : MethodId} {args : Array Value} {below : List Frame} {meth : Method} {c : Code} {H : Heap} {locs : List Loc} {cells slots : Nat} {Q : State → Prop} {G : GX} {A : Nat → Prop} {ad : Nat → Nat} {u : OS} {cc : ByteArray} {nL pc : Nat} {y : MethodName} {ret : Option FieldType} {ls : Array Slot} {rest : List Value} (F : FX p m c cc nL s args y ret RX1 meth) (hw : WD G A s (ow G ad u) H locs) (hdg : decode cc pc = .ok (.getfield 9, 3)) (kk : W p l e R s m args below meth c H locs cells slots Q (F0 m (pc + 3) ls (.ref (ad 1) :: rest))) : W p l e R s m args below meth c H locs cells slots Q (F0 m pc ls (.ref (ad 0) :: rest)) := va_get (D := G.1) (ci := 1) (C := RX1) (T := TX1) (N := 3) (Ts := lw_gt) F.1.1 F.1.2.1 (fun _ h => F.tb h) inX1 F.1.2.2.2.1 hw.1.1 hw.2.1 0 rfl rfl 0 (by decide) (F.tb (tw 33 (by decide +kernel) rfl)) (fun _ h9 => h9) rfl hdg kk
theorem o_l1 {i : Int32} {p : Program} {l : Launch} {e : Env} {R : Room} {s : State} {m : MethodId} {args : Array Value} {below : List Frame} {meth : Method} {c : Code} {H : Heap} {locs : List Loc} {cells slots : Nat} {Q : State → Prop} {G : GX} {A : Nat → Prop} {ad : Nat → Nat} {u : OS} {cc : ByteArray} {nL pc : Nat} {y : MethodName} {ret : Option FieldType} {ls : Array Slot} {rest : List Value} (F : FX p m c cc nL s args y ret RX1 meth) (hw : WD G A s (ow G ad u) H locs) (hi : ix i 600 = true) (hdg : decode cc pc = .ok (.iaload, 1)) (kk : W p l e R s m args below meth c H locs cells slots Q (F0 m (pc + 1) ls (.int ((u 1) i.toNatClampNeg) :: rest))) : W p l e R s m args below meth c H locs cells slots Q (F0 m pc ls (.int i :: .ref (ad 1) :: rest)) := va_iald F.1.1 F.1.2.1 hw.1.1 hw.2.1 1 0 rfl rfl (ix_in hi) hdg kk
def rmX1_standAt : Room := { frames := 0, cells := 0, slots := 0, locals := 0 }
noncomputable def f_X1_standAt (x1 : Int32) (u : OS) : Option (Int32) := (if x1 < 0 then some (-1) else (if (600 : Int32) ≤ x1 then some (-1) else (if ix x1 600 = true then some ((u 1) (Int32.toNatClampNeg x1)) else none)))
section
variable {p : Program} {l : Launch} {e : Env} {s : State} {m : MethodId} {args : Array Value} {below : List Frame} {meth : Method} {c : Code}
variable {G : GX} {A : Nat → Prop} {ad : Nat → Nat} 
set_option maxHeartbeats 4000000 in
set_option maxRecDepth 100000 in
theorem w_X1_standAt_0 (F : FX p m c cX1_standAt 2 s args yX1_standAt (some .int) RX1 meth) {z : Int32} : ∀ (x1 : Int32) (u : OS) (ls : Array Slot), WD G A s (ow G ad u) s.heap [] → lv_has ls 2 [(0, .ref (ad 0)), (1, .int x1)] → f_X1_standAt x1 u = some z → W p l e rmX1_standAt s m args below meth c s.heap [] 0 0 (MQ below (QO (some (.int z))) args s 0 0 (fun _ => False)) (F0 m 0 ls []) := by
  obtain ⟨⟨hx, hb, hml, hown, hts⟩, hr, hlocks⟩ := id F
  intro x1 u ls hw hl h
  unfold f_X1_standAt at h
  refine lv_iload_n hx hb dX1_standAt_0 rfl (lv_at hl 1 rfl) ?_
  refine lv_if_lt (tgt := 20) hx hb dX1_standAt_1 rfl (fun c1 => ?_) (fun c1 => ?_)
  · replace h := itT h c1
    refine lv_iconst (v := (-1)) hx hb dX1_standAt_20 rfl ?_
    cases h
    exact retO_i F dX1_standAt_21
  · replace h := itF h c1
    refine lv_iload_n hx hb dX1_standAt_4 rfl (lv_at hl 1 rfl) ?_
    refine lv_sipush (v := 600) hx hb dX1_standAt_5 rfl ?_
    refine lv_icmp_ge (tgt := 20) hx hb dX1_standAt_8 rfl (fun c2 => ?_) (fun c2 => ?_)
    · replace h := itT h c2
      refine lv_iconst (v := (-1)) hx hb dX1_standAt_20 rfl ?_
      cases h
      exact retO_i F dX1_standAt_21
    · replace h := itF h c2
      refine lv_aload_n hx hb dX1_standAt_11 rfl (lv_at hl 0 rfl) ?_
      refine o_g0_0 F hw dX1_standAt_12 ?_
      refine lv_iload_n hx hb dX1_standAt_15 rfl (lv_at hl 1 rfl) ?_
      obtain ⟨g3, h⟩ := gd h
      refine o_l1 F hw g3 dX1_standAt_16 ?_
      refine lv_goto (tgt := 21) hx hb dX1_standAt_17 rfl ?_
      cases h
      exact retO_i F dX1_standAt_21
end
theorem c_X1_standAt {l : Launch} {G : GX} {ad : Nat → Nat} {x1 : Int32} {u : OS} {z : Int32} (h : f_X1_standAt x1 u = some z) : MO l yX1_standAt cX1_standAt 2 (some .int) rmX1_standAt G (ow G ad u) [.ref (ad 0), .int x1] (some (.int z)) := MO.of (by decide) (Nat.le_of_ble_eq_true rfl) (fun p e s m below meth c ls F hw hl => w_X1_standAt_0 F _ _ _ hw hl h)
/-! ===== X1_lastStand ===== -/
theorem dX1_lastStand_0 : decode cX1_lastStand 0 = .ok (.aload_n 0, 1) := by decide +kernel
theorem dX1_lastStand_1 : decode cX1_lastStand 1 = .ok (.iload_n 1, 1) := by decide +kernel
theorem dX1_lastStand_2 : decode cX1_lastStand 2 = .ok (.invokevirtual 40, 3) := by decide +kernel
theorem dX1_lastStand_5 : decode cX1_lastStand 5 = .ok (.ifCond .le 17, 3) := by decide +kernel
theorem dX1_lastStand_8 : decode cX1_lastStand 8 = .ok (.aload_n 0, 1) := by decide +kernel
theorem dX1_lastStand_9 : decode cX1_lastStand 9 = .ok (.aload_n 0, 1) := by decide +kernel
theorem dX1_lastStand_10 : decode cX1_lastStand 10 = .ok (.iload_n 1, 1) := by decide +kernel
theorem dX1_lastStand_11 : decode cX1_lastStand 11 = .ok (.invokevirtual 33, 3) := by decide +kernel
theorem dX1_lastStand_14 : decode cX1_lastStand 14 = .ok (.iconst 1, 1) := by decide +kernel
theorem dX1_lastStand_15 : decode cX1_lastStand 15 = .ok (.isub, 1) := by decide +kernel
theorem dX1_lastStand_16 : decode cX1_lastStand 16 = .ok (.invokevirtual 43, 3) := by decide +kernel
theorem dX1_lastStand_19 : decode cX1_lastStand 19 = .ok (.goto 4, 3) := by decide +kernel
theorem dX1_lastStand_22 : decode cX1_lastStand 22 = .ok (.iconst (-1), 1) := by decide +kernel
theorem dX1_lastStand_23 : decode cX1_lastStand 23 = .ok (.ireturn, 1) := by decide +kernel
theorem yv_X1_length_X1 : YV RX1 40 yX1_length cX1_length 2 (some .int) 1 := ⟨(tw 245 (by decide +kernel) rfl), (tw 3 (by decide +kernel) rfl), (tw 355 (by decide +kernel) rfl), (tw 243 (by decide +kernel) rfl), (tw 244 (by decide +kernel) rfl), by decide +kernel⟩
theorem k_X1_length_o_ {p : Program} {l : Launch} {e : Env} {R : Room} {s : State} {m : MethodId} {args : Array Value} {below : List Frame} {meth : Method} {c : Code} {H : Heap} {locs : List Loc} {cells slots : Nat} {Q : State → Prop} {G : GX} {A : Nat → Prop} {ad : Nat → Nat} {u : OS} {cc : ByteArray} {nL pc : Nat} {y : MethodName} {ret : Option FieldType} {ls : Array Slot} {rest : List Value} {x1 : Int32} {z : Int32} (F : FX p m c cc nL s args y ret RX1 meth) (hw : WD G A s (ow G ad u) H locs) (h : f_X1_length x1 u = some z) (hR : rmX1_length.frames + 1 ≤ R.frames ∧ 8 + (2 + 11) + rmX1_length.locals ≤ R.locals) (hcs : cells ≤ R.cells ∧ slots ≤ R.slots) (hsz : ls.size = nL) (hW : (rest.map fun v => v.category).sum ≤ 8) (hdg : decode cc pc = .ok (.invokevirtual 40, 3)) (kk : W p l e R s m args below meth c H locs cells slots Q (F0 m (pc + 3) ls (.int z :: rest))) : W p l e R s m args below meth c H locs cells slots Q (F0 m pc ls (.int x1 :: .ref (ad 0) :: rest)) := callO (runV F yv_X1_length_X1 (c_X1_length h) hw.1 hw.2.1 hw.2.2.1 rfl rfl rfl ⟨rfl, rfl⟩ hR hcs rfl hsz rfl hW hdg) kk
theorem yv_X1_standAt_X1 : YV RX1 43 yX1_standAt cX1_standAt 2 (some .int) 1 := ⟨(tw 227 (by decide +kernel) rfl), (tw 3 (by decide +kernel) rfl), (tw 356 (by decide +kernel) rfl), (tw 225 (by decide +kernel) rfl), (tw 226 (by decide +kernel) rfl), by decide +kernel⟩
theorem k_X1_standAt_o_ {p : Program} {l : Launch} {e : Env} {R : Room} {s : State} {m : MethodId} {args : Array Value} {below : List Frame} {meth : Method} {c : Code} {H : Heap} {locs : List Loc} {cells slots : Nat} {Q : State → Prop} {G : GX} {A : Nat → Prop} {ad : Nat → Nat} {u : OS} {cc : ByteArray} {nL pc : Nat} {y : MethodName} {ret : Option FieldType} {ls : Array Slot} {rest : List Value} {x1 : Int32} {z : Int32} (F : FX p m c cc nL s args y ret RX1 meth) (hw : WD G A s (ow G ad u) H locs) (h : f_X1_standAt x1 u = some z) (hR : rmX1_standAt.frames + 1 ≤ R.frames ∧ 8 + (2 + 11) + rmX1_standAt.locals ≤ R.locals) (hcs : cells ≤ R.cells ∧ slots ≤ R.slots) (hsz : ls.size = nL) (hW : (rest.map fun v => v.category).sum ≤ 8) (hdg : decode cc pc = .ok (.invokevirtual 43, 3)) (kk : W p l e R s m args below meth c H locs cells slots Q (F0 m (pc + 3) ls (.int z :: rest))) : W p l e R s m args below meth c H locs cells slots Q (F0 m pc ls (.int x1 :: .ref (ad 0) :: rest)) := callO (runV F yv_X1_standAt_X1 (c_X1_standAt h) hw.1 hw.2.1 hw.2.2.1 rfl rfl rfl ⟨rfl, rfl⟩ hR hcs rfl hsz rfl hW hdg) kk
def rmX1_lastStand : Room := { frames := 2, cells := 0, slots := 0, locals := 42 }
noncomputable def f_X1_lastStand (x1 : Int32) (u : OS) : Option (Int32) := (f_X1_length x1 u).bind (fun z1 => (if z1 ≤ 0 then some (-1) else (f_X1_end x1 u).bind (fun z4 => (f_X1_standAt (z4 - 1) u).bind (fun z6 => some z6))))
section
variable {p : Program} {l : Launch} {e : Env} {s : State} {m : MethodId} {args : Array Value} {below : List Frame} {meth : Method} {c : Code}
variable {G : GX} {A : Nat → Prop} {ad : Nat → Nat} 
set_option maxHeartbeats 4000000 in
set_option maxRecDepth 100000 in
theorem w_X1_lastStand_0 (F : FX p m c cX1_lastStand 2 s args yX1_lastStand (some .int) RX1 meth) {z : Int32} : ∀ (x1 : Int32) (u : OS) (ls : Array Slot), WD G A s (ow G ad u) s.heap [] → lv_has ls 2 [(0, .ref (ad 0)), (1, .int x1)] → f_X1_lastStand x1 u = some z → W p l e rmX1_lastStand s m args below meth c s.heap [] 0 0 (MQ below (QO (some (.int z))) args s 0 0 (fun _ => False)) (F0 m 0 ls []) := by
  obtain ⟨⟨hx, hb, hml, hown, hts⟩, hr, hlocks⟩ := id F
  intro x1 u ls hw hl h
  unfold f_X1_lastStand at h
  refine lv_aload_n hx hb dX1_lastStand_0 rfl (lv_at hl 0 rfl) ?_
  refine lv_iload_n hx hb dX1_lastStand_1 rfl (lv_at hl 1 rfl) ?_
  obtain ⟨z1, e2, h⟩ := bnd h
  refine k_X1_length_o_ F hw e2 ⟨Nat.le_of_ble_eq_true rfl, Nat.le_of_ble_eq_true rfl⟩ ⟨Nat.zero_le _, Nat.zero_le _⟩ hl.1 (Nat.le_of_ble_eq_true rfl) dX1_lastStand_2 ?_
  refine lv_if_le (tgt := 22) hx hb dX1_lastStand_5 rfl (fun c3 => ?_) (fun c3 => ?_)
  · replace h := itT h c3
    refine lv_iconst (v := (-1)) hx hb dX1_lastStand_22 rfl ?_
    cases h
    exact retO_i F dX1_lastStand_23
  · replace h := itF h c3
    refine lv_aload_n hx hb dX1_lastStand_8 rfl (lv_at hl 0 rfl) ?_
    refine lv_aload_n hx hb dX1_lastStand_9 rfl (lv_at hl 0 rfl) ?_
    refine lv_iload_n hx hb dX1_lastStand_10 rfl (lv_at hl 1 rfl) ?_
    obtain ⟨z4, e5, h⟩ := bnd h
    refine k_X1_end_o_ F hw e5 ⟨Nat.le_of_ble_eq_true rfl, Nat.le_of_ble_eq_true rfl⟩ ⟨Nat.zero_le _, Nat.zero_le _⟩ hl.1 (Nat.le_of_ble_eq_true rfl) dX1_lastStand_11 ?_
    refine lv_iconst (v := 1) hx hb dX1_lastStand_14 rfl ?_
    refine lv_isub hx hb dX1_lastStand_15 ?_
    obtain ⟨z6, e7, h⟩ := bnd h
    refine k_X1_standAt_o_ F hw e7 ⟨Nat.le_of_ble_eq_true rfl, Nat.le_of_ble_eq_true rfl⟩ ⟨Nat.zero_le _, Nat.zero_le _⟩ hl.1 (Nat.le_of_ble_eq_true rfl) dX1_lastStand_16 ?_
    refine lv_goto (tgt := 23) hx hb dX1_lastStand_19 rfl ?_
    cases h
    exact retO_i F dX1_lastStand_23
end
theorem c_X1_lastStand {l : Launch} {G : GX} {ad : Nat → Nat} {x1 : Int32} {u : OS} {z : Int32} (h : f_X1_lastStand x1 u = some z) : MO l yX1_lastStand cX1_lastStand 2 (some .int) rmX1_lastStand G (ow G ad u) [.ref (ad 0), .int x1] (some (.int z)) := MO.of (by decide) (Nat.le_of_ble_eq_true rfl) (fun p e s m below meth c ls F hw hl => w_X1_lastStand_0 F _ _ _ hw hl h)
/-! ===== X1_placeOf ===== -/
theorem dX1_placeOf_0 : decode cX1_placeOf 0 = .ok (.aload_n 0, 1) := by decide +kernel
theorem dX1_placeOf_1 : decode cX1_placeOf 1 = .ok (.iload_n 1, 1) := by decide +kernel
theorem dX1_placeOf_2 : decode cX1_placeOf 2 = .ok (.invokestatic 46, 3) := by decide +kernel
theorem dX1_placeOf_5 : decode cX1_placeOf 5 = .ok (.invokevirtual 49, 3) := by decide +kernel
theorem dX1_placeOf_8 : decode cX1_placeOf 8 = .ok (.istore_n 2, 1) := by decide +kernel
theorem dX1_placeOf_9 : decode cX1_placeOf 9 = .ok (.iload_n 2, 1) := by decide +kernel
theorem dX1_placeOf_10 : decode cX1_placeOf 10 = .ok (.iconst (-1), 1) := by decide +kernel
theorem dX1_placeOf_11 : decode cX1_placeOf 11 = .ok (.if_icmp .ne 5, 3) := by decide +kernel
theorem dX1_placeOf_14 : decode cX1_placeOf 14 = .ok (.iconst (-1), 1) := by decide +kernel
theorem dX1_placeOf_15 : decode cX1_placeOf 15 = .ok (.ireturn, 1) := by decide +kernel
theorem dX1_placeOf_16 : decode cX1_placeOf 16 = .ok (.aload_n 0, 1) := by decide +kernel
theorem dX1_placeOf_17 : decode cX1_placeOf 17 = .ok (.iload_n 2, 1) := by decide +kernel
theorem dX1_placeOf_18 : decode cX1_placeOf 18 = .ok (.invokevirtual 37, 3) := by decide +kernel
theorem dX1_placeOf_21 : decode cX1_placeOf 21 = .ok (.istore_n 3, 1) := by decide +kernel
theorem dX1_placeOf_22 : decode cX1_placeOf 22 = .ok (.iload_n 3, 1) := by decide +kernel
theorem dX1_placeOf_23 : decode cX1_placeOf 23 = .ok (.aload_n 0, 1) := by decide +kernel
theorem dX1_placeOf_24 : decode cX1_placeOf 24 = .ok (.iload_n 2, 1) := by decide +kernel
theorem dX1_placeOf_25 : decode cX1_placeOf 25 = .ok (.invokevirtual 33, 3) := by decide +kernel
theorem dX1_placeOf_28 : decode cX1_placeOf 28 = .ok (.if_icmp .ge 21, 3) := by decide +kernel
theorem dX1_placeOf_31 : decode cX1_placeOf 31 = .ok (.aload_n 0, 1) := by decide +kernel
theorem dX1_placeOf_32 : decode cX1_placeOf 32 = .ok (.getfield 9, 3) := by decide +kernel
theorem dX1_placeOf_35 : decode cX1_placeOf 35 = .ok (.iload_n 3, 1) := by decide +kernel
theorem dX1_placeOf_36 : decode cX1_placeOf 36 = .ok (.iaload, 1) := by decide +kernel
theorem dX1_placeOf_37 : decode cX1_placeOf 37 = .ok (.iload_n 1, 1) := by decide +kernel
theorem dX1_placeOf_38 : decode cX1_placeOf 38 = .ok (.if_icmp .ne 5, 3) := by decide +kernel
theorem dX1_placeOf_41 : decode cX1_placeOf 41 = .ok (.iload_n 3, 1) := by decide +kernel
theorem dX1_placeOf_42 : decode cX1_placeOf 42 = .ok (.ireturn, 1) := by decide +kernel
theorem dX1_placeOf_43 : decode cX1_placeOf 43 = .ok (.iinc 3 1, 3) := by decide +kernel
theorem dX1_placeOf_46 : decode cX1_placeOf 46 = .ok (.goto (-24), 3) := by decide +kernel
theorem dX1_placeOf_49 : decode cX1_placeOf 49 = .ok (.iconst (-1), 1) := by decide +kernel
theorem dX1_placeOf_50 : decode cX1_placeOf 50 = .ok (.ireturn, 1) := by decide +kernel
theorem yv_X3_thingOf_X1 : YN RX1 46 yX3_thingOf RX3 cX3_thingOf 1 (some .int) 1 := ⟨(tw 213 (by decide +kernel) rfl), (tw 1 (by decide +kernel) rfl), fun _ h => h.1, (tw 212 (by decide +kernel) rfl), by decide +kernel⟩
theorem k_X3_thingOf_o_ {p : Program} {l : Launch} {e : Env} {R : Room} {s : State} {m : MethodId} {args : Array Value} {below : List Frame} {meth : Method} {c : Code} {H : Heap} {locs : List Loc} {cells slots : Nat} {Q : State → Prop} {G : GX} {A : Nat → Prop} {ad : Nat → Nat} {u : OS} {cc : ByteArray} {nL pc : Nat} {y : MethodName} {ret : Option FieldType} {ls : Array Slot} {rest : List Value} {x0 : Int32} {z : Int32} (F : FX p m c cc nL s args y ret RX1 meth) (hw : WD G A s (ow G ad u) H locs) (h : f_X3_thingOf x0 = some z) (hR : rmX3_thingOf.frames + 1 ≤ R.frames ∧ 8 + (1 + 11) + rmX3_thingOf.locals ≤ R.locals) (hcs : cells ≤ R.cells ∧ slots ≤ R.slots) (hsz : ls.size = nL) (hW : (rest.map fun v => v.category).sum ≤ 8) (hdg : decode cc pc = .ok (.invokestatic 46, 3)) (kk : W p l e R s m args below meth c H locs cells slots Q (F0 m (pc + 3) ls (.int z :: rest))) : W p l e R s m args below meth c H locs cells slots Q (F0 m pc ls (.int x0 :: rest)) := callO (runN F yv_X3_thingOf_X1 (c_X3_thingOf h (G := G)) hw.1 nil_P (A := A) nil_D ⟨rfl, rfl⟩ hR hcs rfl hsz rfl hW hdg) kk
theorem yv_X1_rowOfThing_X1 : YV RX1 49 yX1_rowOfThing cX1_rowOfThing 2 (some .int) 1 := ⟨(tw 186 (by decide +kernel) rfl), (tw 3 (by decide +kernel) rfl), (tw 214 (by decide +kernel) rfl), (tw 184 (by decide +kernel) rfl), (tw 185 (by decide +kernel) rfl), by decide +kernel⟩
theorem k_X1_rowOfThing_o_ {p : Program} {l : Launch} {e : Env} {R : Room} {s : State} {m : MethodId} {args : Array Value} {below : List Frame} {meth : Method} {c : Code} {H : Heap} {locs : List Loc} {cells slots : Nat} {Q : State → Prop} {G : GX} {A : Nat → Prop} {ad : Nat → Nat} {u : OS} {cc : ByteArray} {nL pc : Nat} {y : MethodName} {ret : Option FieldType} {ls : Array Slot} {rest : List Value} {x1 : Int32} {z : Int32} (F : FX p m c cc nL s args y ret RX1 meth) (hw : WD G A s (ow G ad u) H locs) (h : f_X1_rowOfThing x1 u = some z) (hR : rmX1_rowOfThing.frames + 1 ≤ R.frames ∧ 8 + (2 + 11) + rmX1_rowOfThing.locals ≤ R.locals) (hcs : cells ≤ R.cells ∧ slots ≤ R.slots) (hsz : ls.size = nL) (hW : (rest.map fun v => v.category).sum ≤ 8) (hdg : decode cc pc = .ok (.invokevirtual 49, 3)) (kk : W p l e R s m args below meth c H locs cells slots Q (F0 m (pc + 3) ls (.int z :: rest))) : W p l e R s m args below meth c H locs cells slots Q (F0 m pc ls (.int x1 :: .ref (ad 0) :: rest)) := callO (runV F yv_X1_rowOfThing_X1 (c_X1_rowOfThing h) hw.1 hw.2.1 hw.2.2.1 rfl rfl rfl ⟨rfl, rfl⟩ hR hcs rfl hsz rfl hW hdg) kk
def rmX1_placeOf : Room := { frames := 1, cells := 0, slots := 0, locals := 21 }
noncomputable def f_X1_placeOf_22 : Nat → Int32 → Int32 → Int32 → OS → Option (Int32)
  | 0, _, _, _, _ => none
  | n + 1, x1, x2, x3, u => (f_X1_end x2 u).bind (fun z8 => (if z8 ≤ x3 then some (-1) else (if ix x3 600 = true then (if ((u 1) (Int32.toNatClampNeg x3)) = x1 then some x3 else f_X1_placeOf_22 n x1 x2 (x3 + 1) u) else none)))
noncomputable def f_X1_placeOf (x1 : Int32) (u : OS) : Option (Int32) := (f_X3_thingOf x1).bind (fun z1 => (f_X1_rowOfThing z1 u).bind (fun z3 => (if z3 = ((-1) : Int32) then some (-1) else (f_X1_first z3 u).bind (fun z6 => f_X1_placeOf_22 NF x1 z3 z6 u))))
section
variable {p : Program} {l : Launch} {e : Env} {s : State} {m : MethodId} {args : Array Value} {below : List Frame} {meth : Method} {c : Code}
variable {G : GX} {A : Nat → Prop} {ad : Nat → Nat} 
set_option maxHeartbeats 4000000 in
set_option maxRecDepth 100000 in
theorem w_X1_placeOf_22 (F : FX p m c cX1_placeOf 4 s args yX1_placeOf (some .int) RX1 meth) {z : Int32} : ∀ (n : Nat) (x1 : Int32) (x2 : Int32) (x3 : Int32) (u : OS) (ls : Array Slot), WD G A s (ow G ad u) s.heap [] → lv_has ls 4 [(0, .ref (ad 0)), (1, .int x1), (2, .int x2), (3, .int x3)] → f_X1_placeOf_22 n x1 x2 x3 u = some z → W p l e rmX1_placeOf s m args below meth c s.heap [] 0 0 (MQ below (QO (some (.int z))) args s 0 0 (fun _ => False)) (F0 m 22 ls []) := by
  obtain ⟨⟨hx, hb, hml, hown, hts⟩, hr, hlocks⟩ := id F
  intro n
  induction n with
  | zero =>
    intro x1 x2 x3 u ls hw hl h
    rw [f_X1_placeOf_22] at h
    cases h
  | succ n ih =>
    intro x1 x2 x3 u ls hw hl h
    rw [f_X1_placeOf_22] at h
    refine lv_iload_n hx hb dX1_placeOf_22 rfl (lv_at hl 3 rfl) ?_
    refine lv_aload_n hx hb dX1_placeOf_23 rfl (lv_at hl 0 rfl) ?_
    refine lv_iload_n hx hb dX1_placeOf_24 rfl (lv_at hl 2 rfl) ?_
    obtain ⟨z8, e9, h⟩ := bnd h
    refine k_X1_end_o_ F hw e9 ⟨Nat.le_of_ble_eq_true rfl, Nat.le_of_ble_eq_true rfl⟩ ⟨Nat.zero_le _, Nat.zero_le _⟩ hl.1 (Nat.le_of_ble_eq_true rfl) dX1_placeOf_25 ?_
    refine lv_icmp_ge (tgt := 49) hx hb dX1_placeOf_28 rfl (fun c10 => ?_) (fun c10 => ?_)
    · replace h := itT h c10
      refine lv_iconst (v := (-1)) hx hb dX1_placeOf_49 rfl ?_
      cases h
      exact retO_i F dX1_placeOf_50
    · replace h := itF h c10
      refine lv_aload_n hx hb dX1_placeOf_31 rfl (lv_at hl 0 rfl) ?_
      refine o_g0_0 F hw dX1_placeOf_32 ?_
      refine lv_iload_n hx hb dX1_placeOf_35 rfl (lv_at hl 3 rfl) ?_
      obtain ⟨g11, h⟩ := gd h
      refine o_l1 F hw g11 dX1_placeOf_36 ?_
      refine lv_iload_n hx hb dX1_placeOf_37 rfl (lv_at hl 1 rfl) ?_
      refine lv_icmp_ne (tgt := 43) hx hb dX1_placeOf_38 rfl (fun c12 => ?_) (fun c12 => ?_)
      · replace h := itF h c12
        refine lv_iinc (v := (x3 + 1)) (lv' := [(3, .int (x3 + 1)), (0, .ref (ad 0)), (1, .int x1), (2, .int x2)]) hx hb dX1_placeOf_43 hl (k := 3) rfl rfl (by decide) rfl (fun ls hl => ?_)
        refine lv_goto (tgt := 22) hx hb dX1_placeOf_46 rfl ?_
        exact ih _ _ _ _ _ hw (lv_sub hl [1, 2, 3, 0] rfl) h
      · replace h := itT h c12
        refine lv_iload_n hx hb dX1_placeOf_41 rfl (lv_at hl 3 rfl) ?_
        cases h
        exact retO_i F dX1_placeOf_42
set_option maxHeartbeats 4000000 in
set_option maxRecDepth 100000 in
theorem w_X1_placeOf_0 (F : FX p m c cX1_placeOf 4 s args yX1_placeOf (some .int) RX1 meth) {z : Int32} : ∀ (x1 : Int32) (u : OS) (ls : Array Slot), WD G A s (ow G ad u) s.heap [] → lv_has ls 4 [(0, .ref (ad 0)), (1, .int x1)] → f_X1_placeOf x1 u = some z → W p l e rmX1_placeOf s m args below meth c s.heap [] 0 0 (MQ below (QO (some (.int z))) args s 0 0 (fun _ => False)) (F0 m 0 ls []) := by
  obtain ⟨⟨hx, hb, hml, hown, hts⟩, hr, hlocks⟩ := id F
  intro x1 u ls hw hl h
  unfold f_X1_placeOf at h
  refine lv_aload_n hx hb dX1_placeOf_0 rfl (lv_at hl 0 rfl) ?_
  refine lv_iload_n hx hb dX1_placeOf_1 rfl (lv_at hl 1 rfl) ?_
  obtain ⟨z1, e2, h⟩ := bnd h
  refine k_X3_thingOf_o_ F hw e2 ⟨Nat.le_of_ble_eq_true rfl, Nat.le_of_ble_eq_true rfl⟩ ⟨Nat.zero_le _, Nat.zero_le _⟩ hl.1 (Nat.le_of_ble_eq_true rfl) dX1_placeOf_2 ?_
  obtain ⟨z3, e4, h⟩ := bnd h
  refine k_X1_rowOfThing_o_ F hw e4 ⟨Nat.le_of_ble_eq_true rfl, Nat.le_of_ble_eq_true rfl⟩ ⟨Nat.zero_le _, Nat.zero_le _⟩ hl.1 (Nat.le_of_ble_eq_true rfl) dX1_placeOf_5 ?_
  refine lv_istore_n (lv' := [(2, .int z3), (0, .ref (ad 0)), (1, .int x1)]) hx hb dX1_placeOf_8 rfl hl (by decide) rfl (fun ls hl => ?_)
  refine lv_iload_n hx hb dX1_placeOf_9 rfl (lv_at hl 0 rfl) ?_
  refine lv_iconst (v := (-1)) hx hb dX1_placeOf_10 rfl ?_
  refine lv_icmp_ne (tgt := 16) hx hb dX1_placeOf_11 rfl (fun c5 => ?_) (fun c5 => ?_)
  · replace h := itF h c5
    refine lv_aload_n hx hb dX1_placeOf_16 rfl (lv_at hl 1 rfl) ?_
    refine lv_iload_n hx hb dX1_placeOf_17 rfl (lv_at hl 0 rfl) ?_
    obtain ⟨z6, e7, h⟩ := bnd h
    refine k_X1_first_o_ F hw e7 ⟨Nat.le_of_ble_eq_true rfl, Nat.le_of_ble_eq_true rfl⟩ ⟨Nat.zero_le _, Nat.zero_le _⟩ hl.1 (Nat.le_of_ble_eq_true rfl) dX1_placeOf_18 ?_
    refine lv_istore_n (lv' := [(3, .int z6), (2, .int z3), (0, .ref (ad 0)), (1, .int x1)]) hx hb dX1_placeOf_21 rfl hl (by decide) rfl (fun ls hl => ?_)
    exact w_X1_placeOf_22 F NF _ _ _ _ _ hw (lv_sub hl [2, 3, 1, 0] rfl) h
  · replace h := itT h c5
    refine lv_iconst (v := (-1)) hx hb dX1_placeOf_14 rfl ?_
    cases h
    exact retO_i F dX1_placeOf_15
end
theorem c_X1_placeOf {l : Launch} {G : GX} {ad : Nat → Nat} {x1 : Int32} {u : OS} {z : Int32} (h : f_X1_placeOf x1 u = some z) : MO l yX1_placeOf cX1_placeOf 4 (some .int) rmX1_placeOf G (ow G ad u) [.ref (ad 0), .int x1] (some (.int z)) := MO.of (by decide) (Nat.le_of_ble_eq_true rfl) (fun p e s m below meth c ls F hw hl => w_X1_placeOf_0 F _ _ _ hw hl h)
/-! ===== X1_insert ===== -/
theorem dX1_insert_0 : decode cX1_insert 0 = .ok (.aload_n 0, 1) := by decide +kernel
theorem dX1_insert_1 : decode cX1_insert 1 = .ok (.getfield 15, 3) := by decide +kernel
theorem dX1_insert_4 : decode cX1_insert 4 = .ok (.bipush 8, 2) := by decide +kernel
theorem dX1_insert_6 : decode cX1_insert 6 = .ok (.iaload, 1) := by decide +kernel
theorem dX1_insert_7 : decode cX1_insert 7 = .ok (.istore 4, 2) := by decide +kernel
theorem dX1_insert_9 : decode cX1_insert 9 = .ok (.iload 4, 2) := by decide +kernel
theorem dX1_insert_11 : decode cX1_insert 11 = .ok (.sipush 600, 3) := by decide +kernel
theorem dX1_insert_14 : decode cX1_insert 14 = .ok (.if_icmp .ge 21, 3) := by decide +kernel
theorem dX1_insert_17 : decode cX1_insert 17 = .ok (.iload_n 2, 1) := by decide +kernel
theorem dX1_insert_18 : decode cX1_insert 18 = .ok (.aload_n 0, 1) := by decide +kernel
theorem dX1_insert_19 : decode cX1_insert 19 = .ok (.iload_n 1, 1) := by decide +kernel
theorem dX1_insert_20 : decode cX1_insert 20 = .ok (.invokevirtual 37, 3) := by decide +kernel
theorem dX1_insert_23 : decode cX1_insert 23 = .ok (.if_icmp .lt 12, 3) := by decide +kernel
theorem dX1_insert_26 : decode cX1_insert 26 = .ok (.iload_n 2, 1) := by decide +kernel
theorem dX1_insert_27 : decode cX1_insert 27 = .ok (.aload_n 0, 1) := by decide +kernel
theorem dX1_insert_28 : decode cX1_insert 28 = .ok (.iload_n 1, 1) := by decide +kernel
theorem dX1_insert_29 : decode cX1_insert 29 = .ok (.invokevirtual 33, 3) := by decide +kernel
theorem dX1_insert_32 : decode cX1_insert 32 = .ok (.if_icmp .le 4, 3) := by decide +kernel
theorem dX1_insert_35 : decode cX1_insert 35 = .ok (.return_, 1) := by decide +kernel
theorem dX1_insert_36 : decode cX1_insert 36 = .ok (.aload_n 0, 1) := by decide +kernel
theorem dX1_insert_37 : decode cX1_insert 37 = .ok (.getfield 9, 3) := by decide +kernel
theorem dX1_insert_40 : decode cX1_insert 40 = .ok (.iload_n 2, 1) := by decide +kernel
theorem dX1_insert_41 : decode cX1_insert 41 = .ok (.aload_n 0, 1) := by decide +kernel
theorem dX1_insert_42 : decode cX1_insert 42 = .ok (.getfield 9, 3) := by decide +kernel
theorem dX1_insert_45 : decode cX1_insert 45 = .ok (.iload_n 2, 1) := by decide +kernel
theorem dX1_insert_46 : decode cX1_insert 46 = .ok (.iconst 1, 1) := by decide +kernel
theorem dX1_insert_47 : decode cX1_insert 47 = .ok (.iadd, 1) := by decide +kernel
theorem dX1_insert_48 : decode cX1_insert 48 = .ok (.iload 4, 2) := by decide +kernel
theorem dX1_insert_50 : decode cX1_insert 50 = .ok (.iload_n 2, 1) := by decide +kernel
theorem dX1_insert_51 : decode cX1_insert 51 = .ok (.isub, 1) := by decide +kernel
theorem dX1_insert_52 : decode cX1_insert 52 = .ok (.invokestatic 27, 3) := by decide +kernel
theorem dX1_insert_55 : decode cX1_insert 55 = .ok (.aload_n 0, 1) := by decide +kernel
theorem dX1_insert_56 : decode cX1_insert 56 = .ok (.getfield 9, 3) := by decide +kernel
theorem dX1_insert_59 : decode cX1_insert 59 = .ok (.iload_n 2, 1) := by decide +kernel
theorem dX1_insert_60 : decode cX1_insert 60 = .ok (.iload_n 3, 1) := by decide +kernel
theorem dX1_insert_61 : decode cX1_insert 61 = .ok (.iastore, 1) := by decide +kernel
theorem dX1_insert_62 : decode cX1_insert 62 = .ok (.aload_n 0, 1) := by decide +kernel
theorem dX1_insert_63 : decode cX1_insert 63 = .ok (.getfield 18, 3) := by decide +kernel
theorem dX1_insert_66 : decode cX1_insert 66 = .ok (.iload_n 3, 1) := by decide +kernel
theorem dX1_insert_67 : decode cX1_insert 67 = .ok (.invokestatic 46, 3) := by decide +kernel
theorem dX1_insert_70 : decode cX1_insert 70 = .ok (.iload_n 1, 1) := by decide +kernel
theorem dX1_insert_71 : decode cX1_insert 71 = .ok (.iastore, 1) := by decide +kernel
theorem dX1_insert_72 : decode cX1_insert 72 = .ok (.iload_n 1, 1) := by decide +kernel
theorem dX1_insert_73 : decode cX1_insert 73 = .ok (.iconst 1, 1) := by decide +kernel
theorem dX1_insert_74 : decode cX1_insert 74 = .ok (.iadd, 1) := by decide +kernel
theorem dX1_insert_75 : decode cX1_insert 75 = .ok (.istore 5, 2) := by decide +kernel
theorem dX1_insert_77 : decode cX1_insert 77 = .ok (.iload 5, 2) := by decide +kernel
theorem dX1_insert_79 : decode cX1_insert 79 = .ok (.bipush 8, 2) := by decide +kernel
theorem dX1_insert_81 : decode cX1_insert 81 = .ok (.if_icmp .gt 20, 3) := by decide +kernel
theorem dX1_insert_84 : decode cX1_insert 84 = .ok (.aload_n 0, 1) := by decide +kernel
theorem dX1_insert_85 : decode cX1_insert 85 = .ok (.getfield 15, 3) := by decide +kernel
theorem dX1_insert_88 : decode cX1_insert 88 = .ok (.iload 5, 2) := by decide +kernel
theorem dX1_insert_90 : decode cX1_insert 90 = .ok (.dup2, 1) := by decide +kernel
theorem dX1_insert_91 : decode cX1_insert 91 = .ok (.iaload, 1) := by decide +kernel
theorem dX1_insert_92 : decode cX1_insert 92 = .ok (.iconst 1, 1) := by decide +kernel
theorem dX1_insert_93 : decode cX1_insert 93 = .ok (.iadd, 1) := by decide +kernel
theorem dX1_insert_94 : decode cX1_insert 94 = .ok (.iastore, 1) := by decide +kernel
theorem dX1_insert_95 : decode cX1_insert 95 = .ok (.iinc 5 1, 3) := by decide +kernel
theorem dX1_insert_98 : decode cX1_insert 98 = .ok (.goto (-21), 3) := by decide +kernel
theorem dX1_insert_101 : decode cX1_insert 101 = .ok (.return_, 1) := by decide +kernel
theorem o_c1_1 {i j n : Int32} {p : Program} {l : Launch} {e : Env} {R : Room} {s : State} {m : MethodId} {args : Array Value} {below : List Frame} {meth : Method} {c : Code} {H : Heap} {locs : List Loc} {cells slots : Nat} {Q : State → Prop} {G : GX} {A : Nat → Prop} {ad : Nat → Nat} {u : OS} {cc : ByteArray} {nL pc : Nat} {y : MethodName} {ret : Option FieldType} {ls : Array Slot} {rest : List Value} (F : FX p m c cc nL s args y ret RX1 meth) (hw : WD G A s (ow G ad u) H locs) (hi : acp i j n 600 600 = true) (hsz : ls.size = nL) (hfr : 1 ≤ R.frames) (hlo : (rest.map fun v => v.category).sum + 18 ≤ R.locals) (hdg : decode cc pc = .ok (.invokestatic 27, 3)) (kk : ∀ (H : Heap) (locs : List Loc), WD G A s (ow G ad (va_up u 1 (va_cpy (u 1) (u 1) i.toNatClampNeg j.toNatClampNeg n.toNatClampNeg))) H locs → W p l e R s m args below meth c H locs cells slots Q (F0 m (pc + 3) ls (rest))) : W p l e R s m args below meth c H locs cells slots Q (F0 m pc ls (.int n :: .int j :: .ref (ad 1) :: .int i :: .ref (ad 1) :: rest)) := va_copyi (ty := .int) F.1.1 F.1.2.1 (F.1.2.2.1.trans hsz.symm) F.1.2.2.2.1 (F.tb (tw 147 (by decide +kernel) rfl)) (F.tb (tw 149 (by decide +kernel) rfl)) (F.tb (tw 148 (by decide +kernel) rfl)) (F.tb (tw 7 (by decide +kernel) rfl)) hw.1.1 hw.2.1 hw.2.2.1 hw.2.2.2 1 1 0 0 rfl rfl rfl rfl rfl (acp_ok hi).1 (acp_ok hi).2.1 (acp_ok hi).2.2.1 (acp_ok hi).2.2.2.1 (acp_ok hi).2.2.2.2 (fun _ _ => rfl) hfr (by rw [nfw]; exact hlo) hdg (fun H1 l1 hP hD hS => kk H1 l1 ⟨hw.1, hP, hD, hS⟩)
theorem o_s1 {i : Int32} {x : Int32} {p : Program} {l : Launch} {e : Env} {R : Room} {s : State} {m : MethodId} {args : Array Value} {below : List Frame} {meth : Method} {c : Code} {H : Heap} {locs : List Loc} {cells slots : Nat} {Q : State → Prop} {G : GX} {A : Nat → Prop} {ad : Nat → Nat} {u : OS} {cc : ByteArray} {nL pc : Nat} {y : MethodName} {ret : Option FieldType} {ls : Array Slot} {rest : List Value} (F : FX p m c cc nL s args y ret RX1 meth) (hw : WD G A s (ow G ad u) H locs) (hi : ix i 600 = true) (hdg : decode cc pc = .ok (.iastore, 1)) (kk : ∀ (H : Heap) (locs : List Loc), WD G A s (ow G ad (oA u 1 i.toNatClampNeg x)) H locs → W p l e R s m args below meth c H locs cells slots Q (F0 m (pc + 1) ls (rest))) : W p l e R s m args below meth c H locs cells slots Q (F0 m pc ls (.int x :: .int i :: .ref (ad 1) :: rest)) := va_iast F.1.1 F.1.2.1 hw.1.1 hw.2.1 hw.2.2.1 hw.2.2.2 1 0 rfl rfl (ix_in hi) hdg (fun H1 l1 hP hD hS => kk H1 l1 ⟨hw.1, hP, hD, hS⟩)
theorem o_s3 {i : Int32} {x : Int32} {p : Program} {l : Launch} {e : Env} {R : Room} {s : State} {m : MethodId} {args : Array Value} {below : List Frame} {meth : Method} {c : Code} {H : Heap} {locs : List Loc} {cells slots : Nat} {Q : State → Prop} {G : GX} {A : Nat → Prop} {ad : Nat → Nat} {u : OS} {cc : ByteArray} {nL pc : Nat} {y : MethodName} {ret : Option FieldType} {ls : Array Slot} {rest : List Value} (F : FX p m c cc nL s args y ret RX1 meth) (hw : WD G A s (ow G ad u) H locs) (hi : ix i 300 = true) (hdg : decode cc pc = .ok (.iastore, 1)) (kk : ∀ (H : Heap) (locs : List Loc), WD G A s (ow G ad (oA u 3 i.toNatClampNeg x)) H locs → W p l e R s m args below meth c H locs cells slots Q (F0 m (pc + 1) ls (rest))) : W p l e R s m args below meth c H locs cells slots Q (F0 m pc ls (.int x :: .int i :: .ref (ad 3) :: rest)) := va_iast F.1.1 F.1.2.1 hw.1.1 hw.2.1 hw.2.2.1 hw.2.2.2 3 0 rfl rfl (ix_in hi) hdg (fun H1 l1 hP hD hS => kk H1 l1 ⟨hw.1, hP, hD, hS⟩)
theorem o_s2 {i : Int32} {x : Int32} {p : Program} {l : Launch} {e : Env} {R : Room} {s : State} {m : MethodId} {args : Array Value} {below : List Frame} {meth : Method} {c : Code} {H : Heap} {locs : List Loc} {cells slots : Nat} {Q : State → Prop} {G : GX} {A : Nat → Prop} {ad : Nat → Nat} {u : OS} {cc : ByteArray} {nL pc : Nat} {y : MethodName} {ret : Option FieldType} {ls : Array Slot} {rest : List Value} (F : FX p m c cc nL s args y ret RX1 meth) (hw : WD G A s (ow G ad u) H locs) (hi : ix i 9 = true) (hdg : decode cc pc = .ok (.iastore, 1)) (kk : ∀ (H : Heap) (locs : List Loc), WD G A s (ow G ad (oA u 2 i.toNatClampNeg x)) H locs → W p l e R s m args below meth c H locs cells slots Q (F0 m (pc + 1) ls (rest))) : W p l e R s m args below meth c H locs cells slots Q (F0 m pc ls (.int x :: .int i :: .ref (ad 2) :: rest)) := va_iast F.1.1 F.1.2.1 hw.1.1 hw.2.1 hw.2.2.1 hw.2.2.2 2 0 rfl rfl (ix_in hi) hdg (fun H1 l1 hP hD hS => kk H1 l1 ⟨hw.1, hP, hD, hS⟩)
def rmX1_insert : Room := { frames := 1, cells := 0, slots := 0, locals := 21 }
noncomputable def f_X1_insert_77 : Nat → Int32 → OS → Option (OS)
  | 0, _, _ => none
  | n + 1, x5, u => (if (8 : Int32) < x5 then some u else (if ix x5 9 = true then (if ix x5 9 = true then f_X1_insert_77 n (x5 + 1) (oA u 2 (Int32.toNatClampNeg x5) (((u 2) (Int32.toNatClampNeg x5)) + 1)) else none) else none))
noncomputable def f_X1_insert (x1 : Int32) (x2 : Int32) (x3 : Int32) (u : OS) : Option (OS) := (if ix 8 9 = true then (if (600 : Int32) ≤ ((u 2) (Int32.toNatClampNeg 8)) then some u else (f_X1_first x1 u).bind (fun z3 => (if x2 < z3 then some u else (f_X1_end x1 u).bind (fun z6 => (if x2 ≤ z6 then (if acp x2 (x2 + 1) (((u 2) (Int32.toNatClampNeg 8)) - x2) 600 600 = true then (if ix x2 600 = true then (f_X3_thingOf x3).bind (fun z11 => (if ix z11 300 = true then f_X1_insert_77 NF (x1 + 1) (oA (oA (va_up u 1 (va_cpy (u 1) (u 1) (Int32.toNatClampNeg x2) (Int32.toNatClampNeg (x2 + 1)) (Int32.toNatClampNeg (((u 2) (Int32.toNatClampNeg 8)) - x2)))) 1 (Int32.toNatClampNeg x2) x3) 3 (Int32.toNatClampNeg z11) x1) else none)) else none) else none) else some u))))) else none)
section
variable {p : Program} {l : Launch} {e : Env} {s : State} {m : MethodId} {args : Array Value} {below : List Frame} {meth : Method} {c : Code}
variable {G : GX} {A : Nat → Prop} {ad : Nat → Nat} 
set_option maxHeartbeats 4000000 in
set_option maxRecDepth 100000 in
theorem w_X1_insert_77 (F : FX p m c cX1_insert 6 s args yX1_insert none RX1 meth) {z : OS} : ∀ (n : Nat) (x5 : Int32) (u : OS) (H : Heap) (locs : List Loc) (ls : Array Slot), WD G A s (ow G ad u) H locs → lv_has ls 6 [(0, .ref (ad 0)), (5, .int x5)] → f_X1_insert_77 n x5 u = some z → W p l e rmX1_insert s m args below meth c H locs 0 0 (MQ below (QW G (ow G ad z) A none) args s 0 0 A) (F0 m 77 ls []) := by
  obtain ⟨⟨hx, hb, hml, hown, hts⟩, hr, hlocks⟩ := id F
  intro n
  induction n with
  | zero =>
    intro x5 u H locs ls hw hl h
    rw [f_X1_insert_77] at h
    cases h
  | succ n ih =>
    intro x5 u H locs ls hw hl h
    rw [f_X1_insert_77] at h
    refine lv_iload hx hb dX1_insert_77 (lv_at hl 1 rfl) ?_
    refine lv_bipush (v := 8) hx hb dX1_insert_79 rfl ?_
    refine lv_icmp_gt (tgt := 101) hx hb dX1_insert_81 rfl (fun c14 => ?_) (fun c14 => ?_)
    · replace h := itT h c14
      cases h
      exact retW_v F hw dX1_insert_101
    · replace h := itF h c14
      refine lv_aload_n hx hb dX1_insert_84 rfl (lv_at hl 0 rfl) ?_
      refine o_g0_1 F hw dX1_insert_85 ?_
      refine lv_iload hx hb dX1_insert_88 (lv_at hl 1 rfl) ?_
      refine lv_dup2_11 hx hb dX1_insert_90 rfl rfl ?_
      obtain ⟨g15, h⟩ := gd h
      refine o_l2 F hw g15 dX1_insert_91 ?_
      refine lv_iconst (v := 1) hx hb dX1_insert_92 rfl ?_
      refine lv_iadd hx hb dX1_insert_93 ?_
      obtain ⟨g16, h⟩ := gd h
      refine o_s2 F hw g16 dX1_insert_94 (fun H locs hw => ?_)
      refine lv_iinc (v := (x5 + 1)) (lv' := [(5, .int (x5 + 1)), (0, .ref (ad 0))]) hx hb dX1_insert_95 hl (k := 1) rfl rfl (by decide) rfl (fun ls hl => ?_)
      refine lv_goto (tgt := 77) hx hb dX1_insert_98 rfl ?_
      exact ih _ _ _ _ _ hw (lv_sub hl [1, 0] rfl) h
set_option maxHeartbeats 4000000 in
set_option maxRecDepth 100000 in
theorem w_X1_insert_0 (F : FX p m c cX1_insert 6 s args yX1_insert none RX1 meth) {z : OS} : ∀ (x1 : Int32) (x2 : Int32) (x3 : Int32) (u : OS) (H : Heap) (locs : List Loc) (ls : Array Slot), WD G A s (ow G ad u) H locs → lv_has ls 6 [(0, .ref (ad 0)), (1, .int x1), (2, .int x2), (3, .int x3)] → f_X1_insert x1 x2 x3 u = some z → W p l e rmX1_insert s m args below meth c H locs 0 0 (MQ below (QW G (ow G ad z) A none) args s 0 0 A) (F0 m 0 ls []) := by
  obtain ⟨⟨hx, hb, hml, hown, hts⟩, hr, hlocks⟩ := id F
  intro x1 x2 x3 u H locs ls hw hl h
  unfold f_X1_insert at h
  refine lv_aload_n hx hb dX1_insert_0 rfl (lv_at hl 0 rfl) ?_
  refine o_g0_1 F hw dX1_insert_1 ?_
  refine lv_bipush (v := 8) hx hb dX1_insert_4 rfl ?_
  obtain ⟨g1, h⟩ := gd h
  refine o_l2 F hw g1 dX1_insert_6 ?_
  refine lv_istore (lv' := [(4, .int ((u 2) (Int32.toNatClampNeg 8))), (0, .ref (ad 0)), (1, .int x1), (2, .int x2), (3, .int x3)]) hx hb dX1_insert_7 hl (by decide) rfl (fun ls hl => ?_)
  refine lv_iload hx hb dX1_insert_9 (lv_at hl 0 rfl) ?_
  refine lv_sipush (v := 600) hx hb dX1_insert_11 rfl ?_
  refine lv_icmp_ge (tgt := 35) hx hb dX1_insert_14 rfl (fun c2 => ?_) (fun c2 => ?_)
  · replace h := itT h c2
    cases h
    exact retW_v F hw dX1_insert_35
  · replace h := itF h c2
    refine lv_iload_n hx hb dX1_insert_17 rfl (lv_at hl 3 rfl) ?_
    refine lv_aload_n hx hb dX1_insert_18 rfl (lv_at hl 1 rfl) ?_
    refine lv_iload_n hx hb dX1_insert_19 rfl (lv_at hl 2 rfl) ?_
    obtain ⟨z3, e4, h⟩ := bnd h
    refine k_X1_first_o_ F hw e4 ⟨Nat.le_of_ble_eq_true rfl, Nat.le_of_ble_eq_true rfl⟩ ⟨Nat.zero_le _, Nat.zero_le _⟩ hl.1 (Nat.le_of_ble_eq_true rfl) dX1_insert_20 ?_
    refine lv_icmp_lt (tgt := 35) hx hb dX1_insert_23 rfl (fun c5 => ?_) (fun c5 => ?_)
    · replace h := itT h c5
      cases h
      exact retW_v F hw dX1_insert_35
    · replace h := itF h c5
      refine lv_iload_n hx hb dX1_insert_26 rfl (lv_at hl 3 rfl) ?_
      refine lv_aload_n hx hb dX1_insert_27 rfl (lv_at hl 1 rfl) ?_
      refine lv_iload_n hx hb dX1_insert_28 rfl (lv_at hl 2 rfl) ?_
      obtain ⟨z6, e7, h⟩ := bnd h
      refine k_X1_end_o_ F hw e7 ⟨Nat.le_of_ble_eq_true rfl, Nat.le_of_ble_eq_true rfl⟩ ⟨Nat.zero_le _, Nat.zero_le _⟩ hl.1 (Nat.le_of_ble_eq_true rfl) dX1_insert_29 ?_
      refine lv_icmp_le (tgt := 36) hx hb dX1_insert_32 rfl (fun c8 => ?_) (fun c8 => ?_)
      · replace h := itT h c8
        refine lv_aload_n hx hb dX1_insert_36 rfl (lv_at hl 1 rfl) ?_
        refine o_g0_0 F hw dX1_insert_37 ?_
        refine lv_iload_n hx hb dX1_insert_40 rfl (lv_at hl 3 rfl) ?_
        refine lv_aload_n hx hb dX1_insert_41 rfl (lv_at hl 1 rfl) ?_
        refine o_g0_0 F hw dX1_insert_42 ?_
        refine lv_iload_n hx hb dX1_insert_45 rfl (lv_at hl 3 rfl) ?_
        refine lv_iconst (v := 1) hx hb dX1_insert_46 rfl ?_
        refine lv_iadd hx hb dX1_insert_47 ?_
        refine lv_iload hx hb dX1_insert_48 (lv_at hl 0 rfl) ?_
        refine lv_iload_n hx hb dX1_insert_50 rfl (lv_at hl 3 rfl) ?_
        refine lv_isub hx hb dX1_insert_51 ?_
        obtain ⟨g9, h⟩ := gd h
        refine o_c1_1 F hw g9 hl.1 (Nat.le_of_ble_eq_true rfl) (Nat.le_of_ble_eq_true rfl) dX1_insert_52 (fun H locs hw => ?_)
        refine lv_aload_n hx hb dX1_insert_55 rfl (lv_at hl 1 rfl) ?_
        refine o_g0_0 F hw dX1_insert_56 ?_
        refine lv_iload_n hx hb dX1_insert_59 rfl (lv_at hl 3 rfl) ?_
        refine lv_iload_n hx hb dX1_insert_60 rfl (lv_at hl 4 rfl) ?_
        obtain ⟨g10, h⟩ := gd h
        refine o_s1 F hw g10 dX1_insert_61 (fun H locs hw => ?_)
        refine lv_aload_n hx hb dX1_insert_62 rfl (lv_at hl 1 rfl) ?_
        refine o_g0_2 F hw dX1_insert_63 ?_
        refine lv_iload_n hx hb dX1_insert_66 rfl (lv_at hl 4 rfl) ?_
        obtain ⟨z11, e12, h⟩ := bnd h
        refine k_X3_thingOf_o_ F hw e12 ⟨Nat.le_of_ble_eq_true rfl, Nat.le_of_ble_eq_true rfl⟩ ⟨Nat.zero_le _, Nat.zero_le _⟩ hl.1 (Nat.le_of_ble_eq_true rfl) dX1_insert_67 ?_
        refine lv_iload_n hx hb dX1_insert_70 rfl (lv_at hl 2 rfl) ?_
        obtain ⟨g13, h⟩ := gd h
        refine o_s3 F hw g13 dX1_insert_71 (fun H locs hw => ?_)
        refine lv_iload_n hx hb dX1_insert_72 rfl (lv_at hl 2 rfl) ?_
        refine lv_iconst (v := 1) hx hb dX1_insert_73 rfl ?_
        refine lv_iadd hx hb dX1_insert_74 ?_
        refine lv_istore (lv' := [(5, .int (x1 + 1)), (4, .int ((u 2) (Int32.toNatClampNeg 8))), (0, .ref (ad 0)), (1, .int x1), (2, .int x2), (3, .int x3)]) hx hb dX1_insert_75 hl (by decide) rfl (fun ls hl => ?_)
        exact w_X1_insert_77 F NF _ _ _ _ _ hw (lv_sub hl [2, 0] rfl) h
      · replace h := itF h c8
        cases h
        exact retW_v F hw dX1_insert_35
end
theorem c_X1_insert {l : Launch} {G : GX} {ad : Nat → Nat} {x1 : Int32} {x2 : Int32} {x3 : Int32} {u : OS} {z : OS} (h : f_X1_insert x1 x2 x3 u = some z) : MW l yX1_insert cX1_insert 6 none rmX1_insert G (ow G ad u) (ow G ad z) [.ref (ad 0), .int x1, .int x2, .int x3] none := MW.of (by decide) (Nat.le_of_ble_eq_true rfl) (fun p e s m below meth c ls F hw hl => w_X1_insert_0 F _ _ _ _ _ _ _ hw hl h)
/-! ===== X1_remove ===== -/
theorem dX1_remove_0 : decode cX1_remove 0 = .ok (.iload_n 2, 1) := by decide +kernel
theorem dX1_remove_1 : decode cX1_remove 1 = .ok (.aload_n 0, 1) := by decide +kernel
theorem dX1_remove_2 : decode cX1_remove 2 = .ok (.iload_n 1, 1) := by decide +kernel
theorem dX1_remove_3 : decode cX1_remove 3 = .ok (.invokevirtual 37, 3) := by decide +kernel
theorem dX1_remove_6 : decode cX1_remove 6 = .ok (.if_icmp .lt 17, 3) := by decide +kernel
theorem dX1_remove_9 : decode cX1_remove 9 = .ok (.iload_n 3, 1) := by decide +kernel
theorem dX1_remove_10 : decode cX1_remove 10 = .ok (.iload_n 2, 1) := by decide +kernel
theorem dX1_remove_11 : decode cX1_remove 11 = .ok (.if_icmp .lt 12, 3) := by decide +kernel
theorem dX1_remove_14 : decode cX1_remove 14 = .ok (.iload_n 3, 1) := by decide +kernel
theorem dX1_remove_15 : decode cX1_remove 15 = .ok (.aload_n 0, 1) := by decide +kernel
theorem dX1_remove_16 : decode cX1_remove 16 = .ok (.iload_n 1, 1) := by decide +kernel
theorem dX1_remove_17 : decode cX1_remove 17 = .ok (.invokevirtual 33, 3) := by decide +kernel
theorem dX1_remove_20 : decode cX1_remove 20 = .ok (.if_icmp .le 4, 3) := by decide +kernel
theorem dX1_remove_23 : decode cX1_remove 23 = .ok (.return_, 1) := by decide +kernel
theorem dX1_remove_24 : decode cX1_remove 24 = .ok (.iload_n 2, 1) := by decide +kernel
theorem dX1_remove_25 : decode cX1_remove 25 = .ok (.istore 4, 2) := by decide +kernel
theorem dX1_remove_27 : decode cX1_remove 27 = .ok (.iload 4, 2) := by decide +kernel
theorem dX1_remove_29 : decode cX1_remove 29 = .ok (.iload_n 3, 1) := by decide +kernel
theorem dX1_remove_30 : decode cX1_remove 30 = .ok (.if_icmp .ge 25, 3) := by decide +kernel
theorem dX1_remove_33 : decode cX1_remove 33 = .ok (.aload_n 0, 1) := by decide +kernel
theorem dX1_remove_34 : decode cX1_remove 34 = .ok (.getfield 18, 3) := by decide +kernel
theorem dX1_remove_37 : decode cX1_remove 37 = .ok (.aload_n 0, 1) := by decide +kernel
theorem dX1_remove_38 : decode cX1_remove 38 = .ok (.getfield 9, 3) := by decide +kernel
theorem dX1_remove_41 : decode cX1_remove 41 = .ok (.iload 4, 2) := by decide +kernel
theorem dX1_remove_43 : decode cX1_remove 43 = .ok (.iaload, 1) := by decide +kernel
theorem dX1_remove_44 : decode cX1_remove 44 = .ok (.invokestatic 46, 3) := by decide +kernel
theorem dX1_remove_47 : decode cX1_remove 47 = .ok (.iconst (-1), 1) := by decide +kernel
theorem dX1_remove_48 : decode cX1_remove 48 = .ok (.iastore, 1) := by decide +kernel
theorem dX1_remove_49 : decode cX1_remove 49 = .ok (.iinc 4 1, 3) := by decide +kernel
theorem dX1_remove_52 : decode cX1_remove 52 = .ok (.goto (-25), 3) := by decide +kernel
theorem dX1_remove_55 : decode cX1_remove 55 = .ok (.aload_n 0, 1) := by decide +kernel
theorem dX1_remove_56 : decode cX1_remove 56 = .ok (.getfield 9, 3) := by decide +kernel
theorem dX1_remove_59 : decode cX1_remove 59 = .ok (.iload_n 3, 1) := by decide +kernel
theorem dX1_remove_60 : decode cX1_remove 60 = .ok (.aload_n 0, 1) := by decide +kernel
theorem dX1_remove_61 : decode cX1_remove 61 = .ok (.getfield 9, 3) := by decide +kernel
theorem dX1_remove_64 : decode cX1_remove 64 = .ok (.iload_n 2, 1) := by decide +kernel
theorem dX1_remove_65 : decode cX1_remove 65 = .ok (.aload_n 0, 1) := by decide +kernel
theorem dX1_remove_66 : decode cX1_remove 66 = .ok (.getfield 15, 3) := by decide +kernel
theorem dX1_remove_69 : decode cX1_remove 69 = .ok (.bipush 8, 2) := by decide +kernel
theorem dX1_remove_71 : decode cX1_remove 71 = .ok (.iaload, 1) := by decide +kernel
theorem dX1_remove_72 : decode cX1_remove 72 = .ok (.iload_n 3, 1) := by decide +kernel
theorem dX1_remove_73 : decode cX1_remove 73 = .ok (.isub, 1) := by decide +kernel
theorem dX1_remove_74 : decode cX1_remove 74 = .ok (.invokestatic 27, 3) := by decide +kernel
theorem dX1_remove_77 : decode cX1_remove 77 = .ok (.iload_n 1, 1) := by decide +kernel
theorem dX1_remove_78 : decode cX1_remove 78 = .ok (.iconst 1, 1) := by decide +kernel
theorem dX1_remove_79 : decode cX1_remove 79 = .ok (.iadd, 1) := by decide +kernel
theorem dX1_remove_80 : decode cX1_remove 80 = .ok (.istore 4, 2) := by decide +kernel
theorem dX1_remove_82 : decode cX1_remove 82 = .ok (.iload 4, 2) := by decide +kernel
theorem dX1_remove_84 : decode cX1_remove 84 = .ok (.bipush 8, 2) := by decide +kernel
theorem dX1_remove_86 : decode cX1_remove 86 = .ok (.if_icmp .gt 22, 3) := by decide +kernel
theorem dX1_remove_89 : decode cX1_remove 89 = .ok (.aload_n 0, 1) := by decide +kernel
theorem dX1_remove_90 : decode cX1_remove 90 = .ok (.getfield 15, 3) := by decide +kernel
theorem dX1_remove_93 : decode cX1_remove 93 = .ok (.iload 4, 2) := by decide +kernel
theorem dX1_remove_95 : decode cX1_remove 95 = .ok (.dup2, 1) := by decide +kernel
theorem dX1_remove_96 : decode cX1_remove 96 = .ok (.iaload, 1) := by decide +kernel
theorem dX1_remove_97 : decode cX1_remove 97 = .ok (.iload_n 3, 1) := by decide +kernel
theorem dX1_remove_98 : decode cX1_remove 98 = .ok (.iload_n 2, 1) := by decide +kernel
theorem dX1_remove_99 : decode cX1_remove 99 = .ok (.isub, 1) := by decide +kernel
theorem dX1_remove_100 : decode cX1_remove 100 = .ok (.isub, 1) := by decide +kernel
theorem dX1_remove_101 : decode cX1_remove 101 = .ok (.iastore, 1) := by decide +kernel
theorem dX1_remove_102 : decode cX1_remove 102 = .ok (.iinc 4 1, 3) := by decide +kernel
theorem dX1_remove_105 : decode cX1_remove 105 = .ok (.goto (-23), 3) := by decide +kernel
theorem dX1_remove_108 : decode cX1_remove 108 = .ok (.return_, 1) := by decide +kernel
def rmX1_remove : Room := { frames := 1, cells := 0, slots := 0, locals := 21 }
noncomputable def f_X1_remove_82 : Nat → Int32 → Int32 → Int32 → OS → Option (OS)
  | 0, _, _, _, _ => none
  | n + 1, x2, x3, x4, u => (if (8 : Int32) < x4 then some u else (if ix x4 9 = true then (if ix x4 9 = true then f_X1_remove_82 n x2 x3 (x4 + 1) (oA u 2 (Int32.toNatClampNeg x4) (((u 2) (Int32.toNatClampNeg x4)) - (x3 - x2))) else none) else none))
noncomputable def f_X1_remove_27 : Nat → Int32 → Int32 → Int32 → Int32 → OS → Option (OS)
  | 0, _, _, _, _, _ => none
  | n + 1, x1, x2, x3, x4, u => (if x3 ≤ x4 then (if ix 8 9 = true then (if acp x3 x2 (((u 2) (Int32.toNatClampNeg 8)) - x3) 600 600 = true then f_X1_remove_82 NF x2 x3 (x1 + 1) (va_up u 1 (va_cpy (u 1) (u 1) (Int32.toNatClampNeg x3) (Int32.toNatClampNeg x2) (Int32.toNatClampNeg (((u 2) (Int32.toNatClampNeg 8)) - x3)))) else none) else none) else (if ix x4 600 = true then (f_X3_thingOf ((u 1) (Int32.toNatClampNeg x4))).bind (fun z12 => (if ix z12 300 = true then f_X1_remove_27 n x1 x2 x3 (x4 + 1) (oA u 3 (Int32.toNatClampNeg z12) (-1)) else none)) else none))
noncomputable def f_X1_remove (x1 : Int32) (x2 : Int32) (x3 : Int32) (u : OS) : Option (OS) := (f_X1_first x1 u).bind (fun z1 => (if x2 < z1 then some u else (if x3 < x2 then some u else (f_X1_end x1 u).bind (fun z5 => (if x3 ≤ z5 then f_X1_remove_27 NF x1 x2 x3 x2 u else some u)))))
section
variable {p : Program} {l : Launch} {e : Env} {s : State} {m : MethodId} {args : Array Value} {below : List Frame} {meth : Method} {c : Code}
variable {G : GX} {A : Nat → Prop} {ad : Nat → Nat} 
set_option maxHeartbeats 4000000 in
set_option maxRecDepth 100000 in
theorem w_X1_remove_82 (F : FX p m c cX1_remove 5 s args yX1_remove none RX1 meth) {z : OS} : ∀ (n : Nat) (x2 : Int32) (x3 : Int32) (x4 : Int32) (u : OS) (H : Heap) (locs : List Loc) (ls : Array Slot), WD G A s (ow G ad u) H locs → lv_has ls 5 [(0, .ref (ad 0)), (2, .int x2), (3, .int x3), (4, .int x4)] → f_X1_remove_82 n x2 x3 x4 u = some z → W p l e rmX1_remove s m args below meth c H locs 0 0 (MQ below (QW G (ow G ad z) A none) args s 0 0 A) (F0 m 82 ls []) := by
  obtain ⟨⟨hx, hb, hml, hown, hts⟩, hr, hlocks⟩ := id F
  intro n
  induction n with
  | zero =>
    intro x2 x3 x4 u H locs ls hw hl h
    rw [f_X1_remove_82] at h
    cases h
  | succ n ih =>
    intro x2 x3 x4 u H locs ls hw hl h
    rw [f_X1_remove_82] at h
    refine lv_iload hx hb dX1_remove_82 (lv_at hl 3 rfl) ?_
    refine lv_bipush (v := 8) hx hb dX1_remove_84 rfl ?_
    refine lv_icmp_gt (tgt := 108) hx hb dX1_remove_86 rfl (fun c15 => ?_) (fun c15 => ?_)
    · replace h := itT h c15
      cases h
      exact retW_v F hw dX1_remove_108
    · replace h := itF h c15
      refine lv_aload_n hx hb dX1_remove_89 rfl (lv_at hl 0 rfl) ?_
      refine o_g0_1 F hw dX1_remove_90 ?_
      refine lv_iload hx hb dX1_remove_93 (lv_at hl 3 rfl) ?_
      refine lv_dup2_11 hx hb dX1_remove_95 rfl rfl ?_
      obtain ⟨g16, h⟩ := gd h
      refine o_l2 F hw g16 dX1_remove_96 ?_
      refine lv_iload_n hx hb dX1_remove_97 rfl (lv_at hl 2 rfl) ?_
      refine lv_iload_n hx hb dX1_remove_98 rfl (lv_at hl 1 rfl) ?_
      refine lv_isub hx hb dX1_remove_99 ?_
      refine lv_isub hx hb dX1_remove_100 ?_
      obtain ⟨g17, h⟩ := gd h
      refine o_s2 F hw g17 dX1_remove_101 (fun H locs hw => ?_)
      refine lv_iinc (v := (x4 + 1)) (lv' := [(4, .int (x4 + 1)), (0, .ref (ad 0)), (2, .int x2), (3, .int x3)]) hx hb dX1_remove_102 hl (k := 3) rfl rfl (by decide) rfl (fun ls hl => ?_)
      refine lv_goto (tgt := 82) hx hb dX1_remove_105 rfl ?_
      exact ih _ _ _ _ _ _ _ hw (lv_sub hl [1, 2, 3, 0] rfl) h
set_option maxHeartbeats 4000000 in
set_option maxRecDepth 100000 in
theorem w_X1_remove_27 (F : FX p m c cX1_remove 5 s args yX1_remove none RX1 meth) {z : OS} : ∀ (n : Nat) (x1 : Int32) (x2 : Int32) (x3 : Int32) (x4 : Int32) (u : OS) (H : Heap) (locs : List Loc) (ls : Array Slot), WD G A s (ow G ad u) H locs → lv_has ls 5 [(0, .ref (ad 0)), (1, .int x1), (2, .int x2), (3, .int x3), (4, .int x4)] → f_X1_remove_27 n x1 x2 x3 x4 u = some z → W p l e rmX1_remove s m args below meth c H locs 0 0 (MQ below (QW G (ow G ad z) A none) args s 0 0 A) (F0 m 27 ls []) := by
  obtain ⟨⟨hx, hb, hml, hown, hts⟩, hr, hlocks⟩ := id F
  intro n
  induction n with
  | zero =>
    intro x1 x2 x3 x4 u H locs ls hw hl h
    rw [f_X1_remove_27] at h
    cases h
  | succ n ih =>
    intro x1 x2 x3 x4 u H locs ls hw hl h
    rw [f_X1_remove_27] at h
    refine lv_iload hx hb dX1_remove_27 (lv_at hl 4 rfl) ?_
    refine lv_iload_n hx hb dX1_remove_29 rfl (lv_at hl 3 rfl) ?_
    refine lv_icmp_ge (tgt := 55) hx hb dX1_remove_30 rfl (fun c8 => ?_) (fun c8 => ?_)
    · replace h := itT h c8
      refine lv_aload_n hx hb dX1_remove_55 rfl (lv_at hl 0 rfl) ?_
      refine o_g0_0 F hw dX1_remove_56 ?_
      refine lv_iload_n hx hb dX1_remove_59 rfl (lv_at hl 3 rfl) ?_
      refine lv_aload_n hx hb dX1_remove_60 rfl (lv_at hl 0 rfl) ?_
      refine o_g0_0 F hw dX1_remove_61 ?_
      refine lv_iload_n hx hb dX1_remove_64 rfl (lv_at hl 2 rfl) ?_
      refine lv_aload_n hx hb dX1_remove_65 rfl (lv_at hl 0 rfl) ?_
      refine o_g0_1 F hw dX1_remove_66 ?_
      refine lv_bipush (v := 8) hx hb dX1_remove_69 rfl ?_
      obtain ⟨g9, h⟩ := gd h
      refine o_l2 F hw g9 dX1_remove_71 ?_
      refine lv_iload_n hx hb dX1_remove_72 rfl (lv_at hl 3 rfl) ?_
      refine lv_isub hx hb dX1_remove_73 ?_
      obtain ⟨g10, h⟩ := gd h
      refine o_c1_1 F hw g10 hl.1 (Nat.le_of_ble_eq_true rfl) (Nat.le_of_ble_eq_true rfl) dX1_remove_74 (fun H locs hw => ?_)
      refine lv_iload_n hx hb dX1_remove_77 rfl (lv_at hl 1 rfl) ?_
      refine lv_iconst (v := 1) hx hb dX1_remove_78 rfl ?_
      refine lv_iadd hx hb dX1_remove_79 ?_
      refine lv_istore (lv' := [(4, .int (x1 + 1)), (0, .ref (ad 0)), (1, .int x1), (2, .int x2), (3, .int x3)]) hx hb dX1_remove_80 hl (by decide) rfl (fun ls hl => ?_)
      exact w_X1_remove_82 F NF _ _ _ _ _ _ _ hw (lv_sub hl [1, 3, 4, 0] rfl) h
    · replace h := itF h c8
      refine lv_aload_n hx hb dX1_remove_33 rfl (lv_at hl 0 rfl) ?_
      refine o_g0_2 F hw dX1_remove_34 ?_
      refine lv_aload_n hx hb dX1_remove_37 rfl (lv_at hl 0 rfl) ?_
      refine o_g0_0 F hw dX1_remove_38 ?_
      refine lv_iload hx hb dX1_remove_41 (lv_at hl 4 rfl) ?_
      obtain ⟨g11, h⟩ := gd h
      refine o_l1 F hw g11 dX1_remove_43 ?_
      obtain ⟨z12, e13, h⟩ := bnd h
      refine k_X3_thingOf_o_ F hw e13 ⟨Nat.le_of_ble_eq_true rfl, Nat.le_of_ble_eq_true rfl⟩ ⟨Nat.zero_le _, Nat.zero_le _⟩ hl.1 (Nat.le_of_ble_eq_true rfl) dX1_remove_44 ?_
      refine lv_iconst (v := (-1)) hx hb dX1_remove_47 rfl ?_
      obtain ⟨g14, h⟩ := gd h
      refine o_s3 F hw g14 dX1_remove_48 (fun H locs hw => ?_)
      refine lv_iinc (v := (x4 + 1)) (lv' := [(4, .int (x4 + 1)), (0, .ref (ad 0)), (1, .int x1), (2, .int x2), (3, .int x3)]) hx hb dX1_remove_49 hl (k := 4) rfl rfl (by decide) rfl (fun ls hl => ?_)
      refine lv_goto (tgt := 27) hx hb dX1_remove_52 rfl ?_
      exact ih _ _ _ _ _ _ _ _ hw (lv_sub hl [1, 2, 3, 4, 0] rfl) h
set_option maxHeartbeats 4000000 in
set_option maxRecDepth 100000 in
theorem w_X1_remove_0 (F : FX p m c cX1_remove 5 s args yX1_remove none RX1 meth) {z : OS} : ∀ (x1 : Int32) (x2 : Int32) (x3 : Int32) (u : OS) (H : Heap) (locs : List Loc) (ls : Array Slot), WD G A s (ow G ad u) H locs → lv_has ls 5 [(0, .ref (ad 0)), (1, .int x1), (2, .int x2), (3, .int x3)] → f_X1_remove x1 x2 x3 u = some z → W p l e rmX1_remove s m args below meth c H locs 0 0 (MQ below (QW G (ow G ad z) A none) args s 0 0 A) (F0 m 0 ls []) := by
  obtain ⟨⟨hx, hb, hml, hown, hts⟩, hr, hlocks⟩ := id F
  intro x1 x2 x3 u H locs ls hw hl h
  unfold f_X1_remove at h
  refine lv_iload_n hx hb dX1_remove_0 rfl (lv_at hl 2 rfl) ?_
  refine lv_aload_n hx hb dX1_remove_1 rfl (lv_at hl 0 rfl) ?_
  refine lv_iload_n hx hb dX1_remove_2 rfl (lv_at hl 1 rfl) ?_
  obtain ⟨z1, e2, h⟩ := bnd h
  refine k_X1_first_o_ F hw e2 ⟨Nat.le_of_ble_eq_true rfl, Nat.le_of_ble_eq_true rfl⟩ ⟨Nat.zero_le _, Nat.zero_le _⟩ hl.1 (Nat.le_of_ble_eq_true rfl) dX1_remove_3 ?_
  refine lv_icmp_lt (tgt := 23) hx hb dX1_remove_6 rfl (fun c3 => ?_) (fun c3 => ?_)
  · replace h := itT h c3
    cases h
    exact retW_v F hw dX1_remove_23
  · replace h := itF h c3
    refine lv_iload_n hx hb dX1_remove_9 rfl (lv_at hl 3 rfl) ?_
    refine lv_iload_n hx hb dX1_remove_10 rfl (lv_at hl 2 rfl) ?_
    refine lv_icmp_lt (tgt := 23) hx hb dX1_remove_11 rfl (fun c4 => ?_) (fun c4 => ?_)
    · replace h := itT h c4
      cases h
      exact retW_v F hw dX1_remove_23
    · replace h := itF h c4
      refine lv_iload_n hx hb dX1_remove_14 rfl (lv_at hl 3 rfl) ?_
      refine lv_aload_n hx hb dX1_remove_15 rfl (lv_at hl 0 rfl) ?_
      refine lv_iload_n hx hb dX1_remove_16 rfl (lv_at hl 1 rfl) ?_
      obtain ⟨z5, e6, h⟩ := bnd h
      refine k_X1_end_o_ F hw e6 ⟨Nat.le_of_ble_eq_true rfl, Nat.le_of_ble_eq_true rfl⟩ ⟨Nat.zero_le _, Nat.zero_le _⟩ hl.1 (Nat.le_of_ble_eq_true rfl) dX1_remove_17 ?_
      refine lv_icmp_le (tgt := 24) hx hb dX1_remove_20 rfl (fun c7 => ?_) (fun c7 => ?_)
      · replace h := itT h c7
        refine lv_iload_n hx hb dX1_remove_24 rfl (lv_at hl 2 rfl) ?_
        refine lv_istore (lv' := [(4, .int x2), (0, .ref (ad 0)), (1, .int x1), (2, .int x2), (3, .int x3)]) hx hb dX1_remove_25 hl (by decide) rfl (fun ls hl => ?_)
        exact w_X1_remove_27 F NF _ _ _ _ _ _ _ _ hw (lv_sub hl [1, 2, 3, 4, 0] rfl) h
      · replace h := itF h c7
        cases h
        exact retW_v F hw dX1_remove_23
end
theorem c_X1_remove {l : Launch} {G : GX} {ad : Nat → Nat} {x1 : Int32} {x2 : Int32} {x3 : Int32} {u : OS} {z : OS} (h : f_X1_remove x1 x2 x3 u = some z) : MW l yX1_remove cX1_remove 5 none rmX1_remove G (ow G ad u) (ow G ad z) [.ref (ad 0), .int x1, .int x2, .int x3] none := MW.of (by decide) (Nat.le_of_ble_eq_true rfl) (fun p e s m below meth c ls F hw hl => w_X1_remove_0 F _ _ _ _ _ _ _ hw hl h)
/-! ===== X0_isSet ===== -/
theorem dX0_isSet_0 : decode cX0_isSet 0 = .ok (.iload_n 1, 1) := by decide +kernel
theorem dX0_isSet_1 : decode cX0_isSet 1 = .ok (.ifCond .lt 23, 3) := by decide +kernel
theorem dX0_isSet_4 : decode cX0_isSet 4 = .ok (.iload_n 1, 1) := by decide +kernel
theorem dX0_isSet_5 : decode cX0_isSet 5 = .ok (.bipush 20, 2) := by decide +kernel
theorem dX0_isSet_7 : decode cX0_isSet 7 = .ok (.if_icmp .ge 17, 3) := by decide +kernel
theorem dX0_isSet_10 : decode cX0_isSet 10 = .ok (.aload_n 0, 1) := by decide +kernel
theorem dX0_isSet_11 : decode cX0_isSet 11 = .ok (.getfield 9, 3) := by decide +kernel
theorem dX0_isSet_14 : decode cX0_isSet 14 = .ok (.iload_n 1, 1) := by decide +kernel
theorem dX0_isSet_15 : decode cX0_isSet 15 = .ok (.iaload, 1) := by decide +kernel
theorem dX0_isSet_16 : decode cX0_isSet 16 = .ok (.iconst (-1), 1) := by decide +kernel
theorem dX0_isSet_17 : decode cX0_isSet 17 = .ok (.if_icmp .eq 7, 3) := by decide +kernel
theorem dX0_isSet_20 : decode cX0_isSet 20 = .ok (.iconst 1, 1) := by decide +kernel
theorem dX0_isSet_21 : decode cX0_isSet 21 = .ok (.goto 4, 3) := by decide +kernel
theorem dX0_isSet_24 : decode cX0_isSet 24 = .ok (.iconst 0, 1) := by decide +kernel
theorem dX0_isSet_25 : decode cX0_isSet 25 = .ok (.ireturn, 1) := by decide +kernel
theorem q_g0_0 {p : Program} {l : Launch} {e : Env} {R : Room} {s : State} {m : MethodId} {args : Array Value} {below : List Frame} {meth : Method} {c : Code} {H : Heap} {locs : List Loc} {cells slots : Nat} {Q : State → Prop} {G : GX} {A : Nat → Prop} {ad : Nat → Nat} {u : OS} {cc : ByteArray} {nL pc : Nat} {y : MethodName} {ret : Option FieldType} {ls : Array Slot} {rest : List Value} (F : FX p m c cc nL s args y ret RX0 meth) (hw : WD G A s (kw G ad u) H locs) (hdg : decode cc pc = .ok (.getfield 9, 3)) (kk : W p l e R s m args below meth c H locs cells slots Q (F0 m (pc + 3) ls (.ref (ad 1) :: rest))) : W p l e R s m args below meth c H locs cells slots Q (F0 m pc ls (.ref (ad 0) :: rest)) := va_get (D := G.1) (ci := 0) (C := RX0) (T := TX0) (N := 3) (Ts := lw_gt) F.1.1 F.1.2.1 (fun _ h => F.tb h) inX0 F.1.2.2.2.1 hw.1.1 hw.2.1 0 rfl rfl 0 (by decide) (F.tb (tw 52 (by decide +kernel) rfl)) (fun _ h9 => h9) rfl hdg kk
theorem q_l1 {i : Int32} {p : Program} {l : Launch} {e : Env} {R : Room} {s : State} {m : MethodId} {args : Array Value} {below : List Frame} {meth : Method} {c : Code} {H : Heap} {locs : List Loc} {cells slots : Nat} {Q : State → Prop} {G : GX} {A : Nat → Prop} {ad : Nat → Nat} {u : OS} {cc : ByteArray} {nL pc : Nat} {y : MethodName} {ret : Option FieldType} {ls : Array Slot} {rest : List Value} (F : FX p m c cc nL s args y ret RX0 meth) (hw : WD G A s (kw G ad u) H locs) (hi : ix i 20 = true) (hdg : decode cc pc = .ok (.iaload, 1)) (kk : W p l e R s m args below meth c H locs cells slots Q (F0 m (pc + 1) ls (.int ((u 1) i.toNatClampNeg) :: rest))) : W p l e R s m args below meth c H locs cells slots Q (F0 m pc ls (.int i :: .ref (ad 1) :: rest)) := va_iald F.1.1 F.1.2.1 hw.1.1 hw.2.1 1 0 rfl rfl (ix_in hi) hdg kk
def rmX0_isSet : Room := { frames := 0, cells := 0, slots := 0, locals := 0 }
noncomputable def f_X0_isSet (x1 : Int32) (u : OS) : Option (Int32) := (if x1 < 0 then some 0 else (if (20 : Int32) ≤ x1 then some 0 else (if ix x1 20 = true then (if ((u 1) (Int32.toNatClampNeg x1)) = ((-1) : Int32) then some 0 else some 1) else none)))
section
variable {p : Program} {l : Launch} {e : Env} {s : State} {m : MethodId} {args : Array Value} {below : List Frame} {meth : Method} {c : Code}
variable {G : GX} {A : Nat → Prop} {ad : Nat → Nat} 
set_option maxHeartbeats 4000000 in
set_option maxRecDepth 100000 in
theorem w_X0_isSet_0 (F : FX p m c cX0_isSet 2 s args yX0_isSet (some .boolean) RX0 meth) {z : Int32} : ∀ (x1 : Int32) (u : OS) (ls : Array Slot), WD G A s (kw G ad u) s.heap [] → lv_has ls 2 [(0, .ref (ad 0)), (1, .int x1)] → f_X0_isSet x1 u = some z → W p l e rmX0_isSet s m args below meth c s.heap [] 0 0 (MQ below (QO (some (.int z))) args s 0 0 (fun _ => False)) (F0 m 0 ls []) := by
  obtain ⟨⟨hx, hb, hml, hown, hts⟩, hr, hlocks⟩ := id F
  intro x1 u ls hw hl h
  unfold f_X0_isSet at h
  refine lv_iload_n hx hb dX0_isSet_0 rfl (lv_at hl 1 rfl) ?_
  refine lv_if_lt (tgt := 24) hx hb dX0_isSet_1 rfl (fun c1 => ?_) (fun c1 => ?_)
  · replace h := itT h c1
    refine lv_iconst (v := 0) hx hb dX0_isSet_24 rfl ?_
    cases h
    exact retO_z F narrow_b0 dX0_isSet_25
  · replace h := itF h c1
    refine lv_iload_n hx hb dX0_isSet_4 rfl (lv_at hl 1 rfl) ?_
    refine lv_bipush (v := 20) hx hb dX0_isSet_5 rfl ?_
    refine lv_icmp_ge (tgt := 24) hx hb dX0_isSet_7 rfl (fun c2 => ?_) (fun c2 => ?_)
    · replace h := itT h c2
      refine lv_iconst (v := 0) hx hb dX0_isSet_24 rfl ?_
      cases h
      exact retO_z F narrow_b0 dX0_isSet_25
    · replace h := itF h c2
      refine lv_aload_n hx hb dX0_isSet_10 rfl (lv_at hl 0 rfl) ?_
      refine q_g0_0 F hw dX0_isSet_11 ?_
      refine lv_iload_n hx hb dX0_isSet_14 rfl (lv_at hl 1 rfl) ?_
      obtain ⟨g3, h⟩ := gd h
      refine q_l1 F hw g3 dX0_isSet_15 ?_
      refine lv_iconst (v := (-1)) hx hb dX0_isSet_16 rfl ?_
      refine lv_icmp_eq (tgt := 24) hx hb dX0_isSet_17 rfl (fun c4 => ?_) (fun c4 => ?_)
      · replace h := itT h c4
        refine lv_iconst (v := 0) hx hb dX0_isSet_24 rfl ?_
        cases h
        exact retO_z F narrow_b0 dX0_isSet_25
      · replace h := itF h c4
        refine lv_iconst (v := 1) hx hb dX0_isSet_20 rfl ?_
        refine lv_goto (tgt := 25) hx hb dX0_isSet_21 rfl ?_
        cases h
        exact retO_z F narrow_b1 dX0_isSet_25
end
theorem c_X0_isSet {l : Launch} {G : GX} {ad : Nat → Nat} {x1 : Int32} {u : OS} {z : Int32} (h : f_X0_isSet x1 u = some z) : MO l yX0_isSet cX0_isSet 2 (some .boolean) rmX0_isSet G (kw G ad u) [.ref (ad 0), .int x1] (some (.int z)) := MO.of (by decide) (Nat.le_of_ble_eq_true rfl) (fun p e s m below meth c ls F hw hl => w_X0_isSet_0 F _ _ _ hw hl h)
/-! ===== X0_setCount ===== -/
theorem dX0_setCount_0 : decode cX0_setCount 0 = .ok (.iconst 0, 1) := by decide +kernel
theorem dX0_setCount_1 : decode cX0_setCount 1 = .ok (.istore_n 1, 1) := by decide +kernel
theorem dX0_setCount_2 : decode cX0_setCount 2 = .ok (.iconst 0, 1) := by decide +kernel
theorem dX0_setCount_3 : decode cX0_setCount 3 = .ok (.istore_n 2, 1) := by decide +kernel
theorem dX0_setCount_4 : decode cX0_setCount 4 = .ok (.iload_n 2, 1) := by decide +kernel
theorem dX0_setCount_5 : decode cX0_setCount 5 = .ok (.bipush 20, 2) := by decide +kernel
theorem dX0_setCount_7 : decode cX0_setCount 7 = .ok (.if_icmp .ge 22, 3) := by decide +kernel
theorem dX0_setCount_10 : decode cX0_setCount 10 = .ok (.aload_n 0, 1) := by decide +kernel
theorem dX0_setCount_11 : decode cX0_setCount 11 = .ok (.getfield 9, 3) := by decide +kernel
theorem dX0_setCount_14 : decode cX0_setCount 14 = .ok (.iload_n 2, 1) := by decide +kernel
theorem dX0_setCount_15 : decode cX0_setCount 15 = .ok (.iaload, 1) := by decide +kernel
theorem dX0_setCount_16 : decode cX0_setCount 16 = .ok (.iconst (-1), 1) := by decide +kernel
theorem dX0_setCount_17 : decode cX0_setCount 17 = .ok (.if_icmp .eq 6, 3) := by decide +kernel
theorem dX0_setCount_20 : decode cX0_setCount 20 = .ok (.iinc 1 1, 3) := by decide +kernel
theorem dX0_setCount_23 : decode cX0_setCount 23 = .ok (.iinc 2 1, 3) := by decide +kernel
theorem dX0_setCount_26 : decode cX0_setCount 26 = .ok (.goto (-22), 3) := by decide +kernel
theorem dX0_setCount_29 : decode cX0_setCount 29 = .ok (.iload_n 1, 1) := by decide +kernel
theorem dX0_setCount_30 : decode cX0_setCount 30 = .ok (.ireturn, 1) := by decide +kernel
def rmX0_setCount : Room := { frames := 0, cells := 0, slots := 0, locals := 0 }
noncomputable def f_X0_setCount_4 : Nat → Int32 → Int32 → OS → Option (Int32)
  | 0, _, _, _ => none
  | n + 1, x1, x2, u => (if (20 : Int32) ≤ x2 then some x1 else (if ix x2 20 = true then (if ((u 1) (Int32.toNatClampNeg x2)) = ((-1) : Int32) then f_X0_setCount_4 n x1 (x2 + 1) u else f_X0_setCount_4 n (x1 + 1) (x2 + 1) u) else none))
noncomputable def f_X0_setCount (u : OS) : Option (Int32) := f_X0_setCount_4 NF 0 0 u
section
variable {p : Program} {l : Launch} {e : Env} {s : State} {m : MethodId} {args : Array Value} {below : List Frame} {meth : Method} {c : Code}
variable {G : GX} {A : Nat → Prop} {ad : Nat → Nat} 
set_option maxHeartbeats 4000000 in
set_option maxRecDepth 100000 in
theorem w_X0_setCount_4 (F : FX p m c cX0_setCount 3 s args yX0_setCount (some .int) RX0 meth) {z : Int32} : ∀ (n : Nat) (x1 : Int32) (x2 : Int32) (u : OS) (ls : Array Slot), WD G A s (kw G ad u) s.heap [] → lv_has ls 3 [(0, .ref (ad 0)), (1, .int x1), (2, .int x2)] → f_X0_setCount_4 n x1 x2 u = some z → W p l e rmX0_setCount s m args below meth c s.heap [] 0 0 (MQ below (QO (some (.int z))) args s 0 0 (fun _ => False)) (F0 m 4 ls []) := by
  obtain ⟨⟨hx, hb, hml, hown, hts⟩, hr, hlocks⟩ := id F
  intro n
  induction n with
  | zero =>
    intro x1 x2 u ls hw hl h
    rw [f_X0_setCount_4] at h
    cases h
  | succ n ih =>
    intro x1 x2 u ls hw hl h
    rw [f_X0_setCount_4] at h
    refine lv_iload_n hx hb dX0_setCount_4 rfl (lv_at hl 2 rfl) ?_
    refine lv_bipush (v := 20) hx hb dX0_setCount_5 rfl ?_
    refine lv_icmp_ge (tgt := 29) hx hb dX0_setCount_7 rfl (fun c1 => ?_) (fun c1 => ?_)
    · replace h := itT h c1
      refine lv_iload_n hx hb dX0_setCount_29 rfl (lv_at hl 1 rfl) ?_
      cases h
      exact retO_i F dX0_setCount_30
    · replace h := itF h c1
      refine lv_aload_n hx hb dX0_setCount_10 rfl (lv_at hl 0 rfl) ?_
      refine q_g0_0 F hw dX0_setCount_11 ?_
      refine lv_iload_n hx hb dX0_setCount_14 rfl (lv_at hl 2 rfl) ?_
      obtain ⟨g2, h⟩ := gd h
      refine q_l1 F hw g2 dX0_setCount_15 ?_
      refine lv_iconst (v := (-1)) hx hb dX0_setCount_16 rfl ?_
      refine lv_icmp_eq (tgt := 23) hx hb dX0_setCount_17 rfl (fun c3 => ?_) (fun c3 => ?_)
      · replace h := itT h c3
        refine lv_iinc (v := (x2 + 1)) (lv' := [(2, .int (x2 + 1)), (0, .ref (ad 0)), (1, .int x1)]) hx hb dX0_setCount_23 hl (k := 2) rfl rfl (by decide) rfl (fun ls hl => ?_)
        refine lv_goto (tgt := 4) hx hb dX0_setCount_26 rfl ?_
        exact ih _ _ _ _ hw (lv_sub hl [1, 2, 0] rfl) h
      · replace h := itF h c3
        refine lv_iinc (v := (x1 + 1)) (lv' := [(1, .int (x1 + 1)), (0, .ref (ad 0)), (2, .int x2)]) hx hb dX0_setCount_20 hl (k := 1) rfl rfl (by decide) rfl (fun ls hl => ?_)
        refine lv_iinc (v := (x2 + 1)) (lv' := [(2, .int (x2 + 1)), (1, .int (x1 + 1)), (0, .ref (ad 0))]) hx hb dX0_setCount_23 hl (k := 2) rfl rfl (by decide) rfl (fun ls hl => ?_)
        refine lv_goto (tgt := 4) hx hb dX0_setCount_26 rfl ?_
        exact ih _ _ _ _ hw (lv_sub hl [2, 1, 0] rfl) h
set_option maxHeartbeats 4000000 in
set_option maxRecDepth 100000 in
theorem w_X0_setCount_0 (F : FX p m c cX0_setCount 3 s args yX0_setCount (some .int) RX0 meth) {z : Int32} : ∀ (u : OS) (ls : Array Slot), WD G A s (kw G ad u) s.heap [] → lv_has ls 3 [(0, .ref (ad 0))] → f_X0_setCount u = some z → W p l e rmX0_setCount s m args below meth c s.heap [] 0 0 (MQ below (QO (some (.int z))) args s 0 0 (fun _ => False)) (F0 m 0 ls []) := by
  obtain ⟨⟨hx, hb, hml, hown, hts⟩, hr, hlocks⟩ := id F
  intro u ls hw hl h
  unfold f_X0_setCount at h
  refine lv_iconst (v := 0) hx hb dX0_setCount_0 rfl ?_
  refine lv_istore_n (lv' := [(1, .int 0), (0, .ref (ad 0))]) hx hb dX0_setCount_1 rfl hl (by decide) rfl (fun ls hl => ?_)
  refine lv_iconst (v := 0) hx hb dX0_setCount_2 rfl ?_
  refine lv_istore_n (lv' := [(2, .int 0), (1, .int 0), (0, .ref (ad 0))]) hx hb dX0_setCount_3 rfl hl (by decide) rfl (fun ls hl => ?_)
  exact w_X0_setCount_4 F NF _ _ _ _ hw (lv_sub hl [2, 1, 0] rfl) h
end
theorem c_X0_setCount {l : Launch} {G : GX} {ad : Nat → Nat} {u : OS} {z : Int32} (h : f_X0_setCount u = some z) : MO l yX0_setCount cX0_setCount 3 (some .int) rmX0_setCount G (kw G ad u) [.ref (ad 0)] (some (.int z)) := MO.of (by decide) (Nat.le_of_ble_eq_true rfl) (fun p e s m below meth c ls F hw hl => w_X0_setCount_0 F  _ _ hw hl h)
/-! ===== X0_set ===== -/
theorem dX0_set_0 : decode cX0_set 0 = .ok (.aload_n 0, 1) := by decide +kernel
theorem dX0_set_1 : decode cX0_set 1 = .ok (.getfield 9, 3) := by decide +kernel
theorem dX0_set_4 : decode cX0_set 4 = .ok (.iload_n 1, 1) := by decide +kernel
theorem dX0_set_5 : decode cX0_set 5 = .ok (.iload_n 2, 1) := by decide +kernel
theorem dX0_set_6 : decode cX0_set 6 = .ok (.iastore, 1) := by decide +kernel
theorem dX0_set_7 : decode cX0_set 7 = .ok (.aload_n 0, 1) := by decide +kernel
theorem dX0_set_8 : decode cX0_set 8 = .ok (.getfield 15, 3) := by decide +kernel
theorem dX0_set_11 : decode cX0_set 11 = .ok (.iload_n 1, 1) := by decide +kernel
theorem dX0_set_12 : decode cX0_set 12 = .ok (.iload_n 3, 1) := by decide +kernel
theorem dX0_set_13 : decode cX0_set 13 = .ok (.iastore, 1) := by decide +kernel
theorem dX0_set_14 : decode cX0_set 14 = .ok (.aload_n 0, 1) := by decide +kernel
theorem dX0_set_15 : decode cX0_set 15 = .ok (.getfield 18, 3) := by decide +kernel
theorem dX0_set_18 : decode cX0_set 18 = .ok (.iload_n 1, 1) := by decide +kernel
theorem dX0_set_19 : decode cX0_set 19 = .ok (.iload 4, 2) := by decide +kernel
theorem dX0_set_21 : decode cX0_set 21 = .ok (.iastore, 1) := by decide +kernel
theorem dX0_set_22 : decode cX0_set 22 = .ok (.return_, 1) := by decide +kernel
theorem q_s1 {i : Int32} {x : Int32} {p : Program} {l : Launch} {e : Env} {R : Room} {s : State} {m : MethodId} {args : Array Value} {below : List Frame} {meth : Method} {c : Code} {H : Heap} {locs : List Loc} {cells slots : Nat} {Q : State → Prop} {G : GX} {A : Nat → Prop} {ad : Nat → Nat} {u : OS} {cc : ByteArray} {nL pc : Nat} {y : MethodName} {ret : Option FieldType} {ls : Array Slot} {rest : List Value} (F : FX p m c cc nL s args y ret RX0 meth) (hw : WD G A s (kw G ad u) H locs) (hi : ix i 20 = true) (hdg : decode cc pc = .ok (.iastore, 1)) (kk : ∀ (H : Heap) (locs : List Loc), WD G A s (kw G ad (oA u 1 i.toNatClampNeg x)) H locs → W p l e R s m args below meth c H locs cells slots Q (F0 m (pc + 1) ls (rest))) : W p l e R s m args below meth c H locs cells slots Q (F0 m pc ls (.int x :: .int i :: .ref (ad 1) :: rest)) := va_iast F.1.1 F.1.2.1 hw.1.1 hw.2.1 hw.2.2.1 hw.2.2.2 1 0 rfl rfl (ix_in hi) hdg (fun H1 l1 hP hD hS => kk H1 l1 ⟨hw.1, hP, hD, hS⟩)
theorem q_g0_1 {p : Program} {l : Launch} {e : Env} {R : Room} {s : State} {m : MethodId} {args : Array Value} {below : List Frame} {meth : Method} {c : Code} {H : Heap} {locs : List Loc} {cells slots : Nat} {Q : State → Prop} {G : GX} {A : Nat → Prop} {ad : Nat → Nat} {u : OS} {cc : ByteArray} {nL pc : Nat} {y : MethodName} {ret : Option FieldType} {ls : Array Slot} {rest : List Value} (F : FX p m c cc nL s args y ret RX0 meth) (hw : WD G A s (kw G ad u) H locs) (hdg : decode cc pc = .ok (.getfield 15, 3)) (kk : W p l e R s m args below meth c H locs cells slots Q (F0 m (pc + 3) ls (.ref (ad 2) :: rest))) : W p l e R s m args below meth c H locs cells slots Q (F0 m pc ls (.ref (ad 0) :: rest)) := va_get (D := G.1) (ci := 0) (C := RX0) (T := TX0) (N := 3) (Ts := lw_gt) F.1.1 F.1.2.1 (fun _ h => F.tb h) inX0 F.1.2.2.2.1 hw.1.1 hw.2.1 0 rfl rfl 1 (by decide) (F.tb (tw 55 (by decide +kernel) rfl)) (fun _ h9 => h9) rfl hdg kk
theorem q_s2 {i : Int32} {x : Int32} {p : Program} {l : Launch} {e : Env} {R : Room} {s : State} {m : MethodId} {args : Array Value} {below : List Frame} {meth : Method} {c : Code} {H : Heap} {locs : List Loc} {cells slots : Nat} {Q : State → Prop} {G : GX} {A : Nat → Prop} {ad : Nat → Nat} {u : OS} {cc : ByteArray} {nL pc : Nat} {y : MethodName} {ret : Option FieldType} {ls : Array Slot} {rest : List Value} (F : FX p m c cc nL s args y ret RX0 meth) (hw : WD G A s (kw G ad u) H locs) (hi : ix i 20 = true) (hdg : decode cc pc = .ok (.iastore, 1)) (kk : ∀ (H : Heap) (locs : List Loc), WD G A s (kw G ad (oA u 2 i.toNatClampNeg x)) H locs → W p l e R s m args below meth c H locs cells slots Q (F0 m (pc + 1) ls (rest))) : W p l e R s m args below meth c H locs cells slots Q (F0 m pc ls (.int x :: .int i :: .ref (ad 2) :: rest)) := va_iast F.1.1 F.1.2.1 hw.1.1 hw.2.1 hw.2.2.1 hw.2.2.2 2 0 rfl rfl (ix_in hi) hdg (fun H1 l1 hP hD hS => kk H1 l1 ⟨hw.1, hP, hD, hS⟩)
theorem q_g0_2 {p : Program} {l : Launch} {e : Env} {R : Room} {s : State} {m : MethodId} {args : Array Value} {below : List Frame} {meth : Method} {c : Code} {H : Heap} {locs : List Loc} {cells slots : Nat} {Q : State → Prop} {G : GX} {A : Nat → Prop} {ad : Nat → Nat} {u : OS} {cc : ByteArray} {nL pc : Nat} {y : MethodName} {ret : Option FieldType} {ls : Array Slot} {rest : List Value} (F : FX p m c cc nL s args y ret RX0 meth) (hw : WD G A s (kw G ad u) H locs) (hdg : decode cc pc = .ok (.getfield 18, 3)) (kk : W p l e R s m args below meth c H locs cells slots Q (F0 m (pc + 3) ls (.ref (ad 3) :: rest))) : W p l e R s m args below meth c H locs cells slots Q (F0 m pc ls (.ref (ad 0) :: rest)) := va_get (D := G.1) (ci := 0) (C := RX0) (T := TX0) (N := 3) (Ts := lw_gt) F.1.1 F.1.2.1 (fun _ h => F.tb h) inX0 F.1.2.2.2.1 hw.1.1 hw.2.1 0 rfl rfl 2 (by decide) (F.tb (tw 58 (by decide +kernel) rfl)) (fun _ h9 => h9) rfl hdg kk
theorem q_s3 {i : Int32} {x : Int32} {p : Program} {l : Launch} {e : Env} {R : Room} {s : State} {m : MethodId} {args : Array Value} {below : List Frame} {meth : Method} {c : Code} {H : Heap} {locs : List Loc} {cells slots : Nat} {Q : State → Prop} {G : GX} {A : Nat → Prop} {ad : Nat → Nat} {u : OS} {cc : ByteArray} {nL pc : Nat} {y : MethodName} {ret : Option FieldType} {ls : Array Slot} {rest : List Value} (F : FX p m c cc nL s args y ret RX0 meth) (hw : WD G A s (kw G ad u) H locs) (hi : ix i 20 = true) (hdg : decode cc pc = .ok (.iastore, 1)) (kk : ∀ (H : Heap) (locs : List Loc), WD G A s (kw G ad (oA u 3 i.toNatClampNeg x)) H locs → W p l e R s m args below meth c H locs cells slots Q (F0 m (pc + 1) ls (rest))) : W p l e R s m args below meth c H locs cells slots Q (F0 m pc ls (.int x :: .int i :: .ref (ad 3) :: rest)) := va_iast F.1.1 F.1.2.1 hw.1.1 hw.2.1 hw.2.2.1 hw.2.2.2 3 0 rfl rfl (ix_in hi) hdg (fun H1 l1 hP hD hS => kk H1 l1 ⟨hw.1, hP, hD, hS⟩)
def rmX0_set : Room := { frames := 0, cells := 0, slots := 0, locals := 0 }
noncomputable def f_X0_set (x1 : Int32) (x2 : Int32) (x3 : Int32) (x4 : Int32) (u : OS) : Option (OS) := (if ix x1 20 = true then (if ix x1 20 = true then (if ix x1 20 = true then some (oA (oA (oA u 1 (Int32.toNatClampNeg x1) x2) 2 (Int32.toNatClampNeg x1) x3) 3 (Int32.toNatClampNeg x1) x4) else none) else none) else none)
section
variable {p : Program} {l : Launch} {e : Env} {s : State} {m : MethodId} {args : Array Value} {below : List Frame} {meth : Method} {c : Code}
variable {G : GX} {A : Nat → Prop} {ad : Nat → Nat} 
set_option maxHeartbeats 4000000 in
set_option maxRecDepth 100000 in
theorem w_X0_set_0 (F : FX p m c cX0_set 5 s args yX0_set none RX0 meth) {z : OS} : ∀ (x1 : Int32) (x2 : Int32) (x3 : Int32) (x4 : Int32) (u : OS) (H : Heap) (locs : List Loc) (ls : Array Slot), WD G A s (kw G ad u) H locs → lv_has ls 5 [(0, .ref (ad 0)), (1, .int x1), (2, .int x2), (3, .int x3), (4, .int x4)] → f_X0_set x1 x2 x3 x4 u = some z → W p l e rmX0_set s m args below meth c H locs 0 0 (MQ below (QW G (kw G ad z) A none) args s 0 0 A) (F0 m 0 ls []) := by
  obtain ⟨⟨hx, hb, hml, hown, hts⟩, hr, hlocks⟩ := id F
  intro x1 x2 x3 x4 u H locs ls hw hl h
  unfold f_X0_set at h
  refine lv_aload_n hx hb dX0_set_0 rfl (lv_at hl 0 rfl) ?_
  refine q_g0_0 F hw dX0_set_1 ?_
  refine lv_iload_n hx hb dX0_set_4 rfl (lv_at hl 1 rfl) ?_
  refine lv_iload_n hx hb dX0_set_5 rfl (lv_at hl 2 rfl) ?_
  obtain ⟨g1, h⟩ := gd h
  refine q_s1 F hw g1 dX0_set_6 (fun H locs hw => ?_)
  refine lv_aload_n hx hb dX0_set_7 rfl (lv_at hl 0 rfl) ?_
  refine q_g0_1 F hw dX0_set_8 ?_
  refine lv_iload_n hx hb dX0_set_11 rfl (lv_at hl 1 rfl) ?_
  refine lv_iload_n hx hb dX0_set_12 rfl (lv_at hl 3 rfl) ?_
  obtain ⟨g2, h⟩ := gd h
  refine q_s2 F hw g2 dX0_set_13 (fun H locs hw => ?_)
  refine lv_aload_n hx hb dX0_set_14 rfl (lv_at hl 0 rfl) ?_
  refine q_g0_2 F hw dX0_set_15 ?_
  refine lv_iload_n hx hb dX0_set_18 rfl (lv_at hl 1 rfl) ?_
  refine lv_iload hx hb dX0_set_19 (lv_at hl 4 rfl) ?_
  obtain ⟨g3, h⟩ := gd h
  refine q_s3 F hw g3 dX0_set_21 (fun H locs hw => ?_)
  cases h
  exact retW_v F hw dX0_set_22
end
theorem c_X0_set {l : Launch} {G : GX} {ad : Nat → Nat} {x1 : Int32} {x2 : Int32} {x3 : Int32} {x4 : Int32} {u : OS} {z : OS} (h : f_X0_set x1 x2 x3 x4 u = some z) : MW l yX0_set cX0_set 5 none rmX0_set G (kw G ad u) (kw G ad z) [.ref (ad 0), .int x1, .int x2, .int x3, .int x4] none := MW.of (by decide) (Nat.le_of_ble_eq_true rfl) (fun p e s m below meth c ls F hw hl => w_X0_set_0 F _ _ _ _ _ _ _ _ hw hl h)
/-! ===== X0_follow ===== -/
theorem dX0_follow_0 : decode cX0_follow 0 = .ok (.iconst 0, 1) := by decide +kernel
theorem dX0_follow_1 : decode cX0_follow 1 = .ok (.istore 4, 2) := by decide +kernel
theorem dX0_follow_3 : decode cX0_follow 3 = .ok (.iload 4, 2) := by decide +kernel
theorem dX0_follow_5 : decode cX0_follow 5 = .ok (.bipush 20, 2) := by decide +kernel
theorem dX0_follow_7 : decode cX0_follow 7 = .ok (.if_icmp .ge 50, 3) := by decide +kernel
theorem dX0_follow_10 : decode cX0_follow 10 = .ok (.aload_n 0, 1) := by decide +kernel
theorem dX0_follow_11 : decode cX0_follow 11 = .ok (.getfield 9, 3) := by decide +kernel
theorem dX0_follow_14 : decode cX0_follow 14 = .ok (.iload 4, 2) := by decide +kernel
theorem dX0_follow_16 : decode cX0_follow 16 = .ok (.iaload, 1) := by decide +kernel
theorem dX0_follow_17 : decode cX0_follow 17 = .ok (.iload_n 1, 1) := by decide +kernel
theorem dX0_follow_18 : decode cX0_follow 18 = .ok (.if_icmp .ne 33, 3) := by decide +kernel
theorem dX0_follow_21 : decode cX0_follow 21 = .ok (.aload_n 0, 1) := by decide +kernel
theorem dX0_follow_22 : decode cX0_follow 22 = .ok (.getfield 15, 3) := by decide +kernel
theorem dX0_follow_25 : decode cX0_follow 25 = .ok (.iload 4, 2) := by decide +kernel
theorem dX0_follow_27 : decode cX0_follow 27 = .ok (.iaload, 1) := by decide +kernel
theorem dX0_follow_28 : decode cX0_follow 28 = .ok (.iload_n 2, 1) := by decide +kernel
theorem dX0_follow_29 : decode cX0_follow 29 = .ok (.if_icmp .ne 22, 3) := by decide +kernel
theorem dX0_follow_32 : decode cX0_follow 32 = .ok (.aload_n 0, 1) := by decide +kernel
theorem dX0_follow_33 : decode cX0_follow 33 = .ok (.getfield 18, 3) := by decide +kernel
theorem dX0_follow_36 : decode cX0_follow 36 = .ok (.iload 4, 2) := by decide +kernel
theorem dX0_follow_38 : decode cX0_follow 38 = .ok (.iaload, 1) := by decide +kernel
theorem dX0_follow_39 : decode cX0_follow 39 = .ok (.iconst 1, 1) := by decide +kernel
theorem dX0_follow_40 : decode cX0_follow 40 = .ok (.if_icmp .ne 11, 3) := by decide +kernel
theorem dX0_follow_43 : decode cX0_follow 43 = .ok (.aload_n 0, 1) := by decide +kernel
theorem dX0_follow_44 : decode cX0_follow 44 = .ok (.getfield 15, 3) := by decide +kernel
theorem dX0_follow_47 : decode cX0_follow 47 = .ok (.iload 4, 2) := by decide +kernel
theorem dX0_follow_49 : decode cX0_follow 49 = .ok (.iload_n 3, 1) := by decide +kernel
theorem dX0_follow_50 : decode cX0_follow 50 = .ok (.iastore, 1) := by decide +kernel
theorem dX0_follow_51 : decode cX0_follow 51 = .ok (.iinc 4 1, 3) := by decide +kernel
theorem dX0_follow_54 : decode cX0_follow 54 = .ok (.goto (-51), 3) := by decide +kernel
theorem dX0_follow_57 : decode cX0_follow 57 = .ok (.return_, 1) := by decide +kernel
theorem q_l2 {i : Int32} {p : Program} {l : Launch} {e : Env} {R : Room} {s : State} {m : MethodId} {args : Array Value} {below : List Frame} {meth : Method} {c : Code} {H : Heap} {locs : List Loc} {cells slots : Nat} {Q : State → Prop} {G : GX} {A : Nat → Prop} {ad : Nat → Nat} {u : OS} {cc : ByteArray} {nL pc : Nat} {y : MethodName} {ret : Option FieldType} {ls : Array Slot} {rest : List Value} (F : FX p m c cc nL s args y ret RX0 meth) (hw : WD G A s (kw G ad u) H locs) (hi : ix i 20 = true) (hdg : decode cc pc = .ok (.iaload, 1)) (kk : W p l e R s m args below meth c H locs cells slots Q (F0 m (pc + 1) ls (.int ((u 2) i.toNatClampNeg) :: rest))) : W p l e R s m args below meth c H locs cells slots Q (F0 m pc ls (.int i :: .ref (ad 2) :: rest)) := va_iald F.1.1 F.1.2.1 hw.1.1 hw.2.1 2 0 rfl rfl (ix_in hi) hdg kk
theorem q_l3 {i : Int32} {p : Program} {l : Launch} {e : Env} {R : Room} {s : State} {m : MethodId} {args : Array Value} {below : List Frame} {meth : Method} {c : Code} {H : Heap} {locs : List Loc} {cells slots : Nat} {Q : State → Prop} {G : GX} {A : Nat → Prop} {ad : Nat → Nat} {u : OS} {cc : ByteArray} {nL pc : Nat} {y : MethodName} {ret : Option FieldType} {ls : Array Slot} {rest : List Value} (F : FX p m c cc nL s args y ret RX0 meth) (hw : WD G A s (kw G ad u) H locs) (hi : ix i 20 = true) (hdg : decode cc pc = .ok (.iaload, 1)) (kk : W p l e R s m args below meth c H locs cells slots Q (F0 m (pc + 1) ls (.int ((u 3) i.toNatClampNeg) :: rest))) : W p l e R s m args below meth c H locs cells slots Q (F0 m pc ls (.int i :: .ref (ad 3) :: rest)) := va_iald F.1.1 F.1.2.1 hw.1.1 hw.2.1 3 0 rfl rfl (ix_in hi) hdg kk
def rmX0_follow : Room := { frames := 0, cells := 0, slots := 0, locals := 0 }
noncomputable def f_X0_follow_3 : Nat → Int32 → Int32 → Int32 → Int32 → OS → Option (OS)
  | 0, _, _, _, _, _ => none
  | n + 1, x1, x2, x3, x4, u => (if (20 : Int32) ≤ x4 then some u else (if ix x4 20 = true then (if ((u 1) (Int32.toNatClampNeg x4)) = x1 then (if ix x4 20 = true then (if ((u 2) (Int32.toNatClampNeg x4)) = x2 then (if ix x4 20 = true then (if ((u 3) (Int32.toNatClampNeg x4)) = (1 : Int32) then (if ix x4 20 = true then f_X0_follow_3 n x1 x2 x3 (x4 + 1) (oA u 2 (Int32.toNatClampNeg x4) x3) else none) else f_X0_follow_3 n x1 x2 x3 (x4 + 1) u) else none) else f_X0_follow_3 n x1 x2 x3 (x4 + 1) u) else none) else f_X0_follow_3 n x1 x2 x3 (x4 + 1) u) else none))
noncomputable def f_X0_follow (x1 : Int32) (x2 : Int32) (x3 : Int32) (u : OS) : Option (OS) := f_X0_follow_3 NF x1 x2 x3 0 u
section
variable {p : Program} {l : Launch} {e : Env} {s : State} {m : MethodId} {args : Array Value} {below : List Frame} {meth : Method} {c : Code}
variable {G : GX} {A : Nat → Prop} {ad : Nat → Nat} 
set_option maxHeartbeats 4000000 in
set_option maxRecDepth 100000 in
theorem w_X0_follow_3 (F : FX p m c cX0_follow 5 s args yX0_follow none RX0 meth) {z : OS} : ∀ (n : Nat) (x1 : Int32) (x2 : Int32) (x3 : Int32) (x4 : Int32) (u : OS) (H : Heap) (locs : List Loc) (ls : Array Slot), WD G A s (kw G ad u) H locs → lv_has ls 5 [(0, .ref (ad 0)), (1, .int x1), (2, .int x2), (3, .int x3), (4, .int x4)] → f_X0_follow_3 n x1 x2 x3 x4 u = some z → W p l e rmX0_follow s m args below meth c H locs 0 0 (MQ below (QW G (kw G ad z) A none) args s 0 0 A) (F0 m 3 ls []) := by
  obtain ⟨⟨hx, hb, hml, hown, hts⟩, hr, hlocks⟩ := id F
  intro n
  induction n with
  | zero =>
    intro x1 x2 x3 x4 u H locs ls hw hl h
    rw [f_X0_follow_3] at h
    cases h
  | succ n ih =>
    intro x1 x2 x3 x4 u H locs ls hw hl h
    rw [f_X0_follow_3] at h
    refine lv_iload hx hb dX0_follow_3 (lv_at hl 4 rfl) ?_
    refine lv_bipush (v := 20) hx hb dX0_follow_5 rfl ?_
    refine lv_icmp_ge (tgt := 57) hx hb dX0_follow_7 rfl (fun c1 => ?_) (fun c1 => ?_)
    · replace h := itT h c1
      cases h
      exact retW_v F hw dX0_follow_57
    · replace h := itF h c1
      refine lv_aload_n hx hb dX0_follow_10 rfl (lv_at hl 0 rfl) ?_
      refine q_g0_0 F hw dX0_follow_11 ?_
      refine lv_iload hx hb dX0_follow_14 (lv_at hl 4 rfl) ?_
      obtain ⟨g2, h⟩ := gd h
      refine q_l1 F hw g2 dX0_follow_16 ?_
      refine lv_iload_n hx hb dX0_follow_17 rfl (lv_at hl 1 rfl) ?_
      refine lv_icmp_ne (tgt := 51) hx hb dX0_follow_18 rfl (fun c3 => ?_) (fun c3 => ?_)
      · replace h := itF h c3
        refine lv_iinc (v := (x4 + 1)) (lv' := [(4, .int (x4 + 1)), (0, .ref (ad 0)), (1, .int x1), (2, .int x2), (3, .int x3)]) hx hb dX0_follow_51 hl (k := 4) rfl rfl (by decide) rfl (fun ls hl => ?_)
        refine lv_goto (tgt := 3) hx hb dX0_follow_54 rfl ?_
        exact ih _ _ _ _ _ _ _ _ hw (lv_sub hl [1, 2, 3, 4, 0] rfl) h
      · replace h := itT h c3
        refine lv_aload_n hx hb dX0_follow_21 rfl (lv_at hl 0 rfl) ?_
        refine q_g0_1 F hw dX0_follow_22 ?_
        refine lv_iload hx hb dX0_follow_25 (lv_at hl 4 rfl) ?_
        obtain ⟨g4, h⟩ := gd h
        refine q_l2 F hw g4 dX0_follow_27 ?_
        refine lv_iload_n hx hb dX0_follow_28 rfl (lv_at hl 2 rfl) ?_
        refine lv_icmp_ne (tgt := 51) hx hb dX0_follow_29 rfl (fun c5 => ?_) (fun c5 => ?_)
        · replace h := itF h c5
          refine lv_iinc (v := (x4 + 1)) (lv' := [(4, .int (x4 + 1)), (0, .ref (ad 0)), (1, .int x1), (2, .int x2), (3, .int x3)]) hx hb dX0_follow_51 hl (k := 4) rfl rfl (by decide) rfl (fun ls hl => ?_)
          refine lv_goto (tgt := 3) hx hb dX0_follow_54 rfl ?_
          exact ih _ _ _ _ _ _ _ _ hw (lv_sub hl [1, 2, 3, 4, 0] rfl) h
        · replace h := itT h c5
          refine lv_aload_n hx hb dX0_follow_32 rfl (lv_at hl 0 rfl) ?_
          refine q_g0_2 F hw dX0_follow_33 ?_
          refine lv_iload hx hb dX0_follow_36 (lv_at hl 4 rfl) ?_
          obtain ⟨g6, h⟩ := gd h
          refine q_l3 F hw g6 dX0_follow_38 ?_
          refine lv_iconst (v := 1) hx hb dX0_follow_39 rfl ?_
          refine lv_icmp_ne (tgt := 51) hx hb dX0_follow_40 rfl (fun c7 => ?_) (fun c7 => ?_)
          · replace h := itF h c7
            refine lv_iinc (v := (x4 + 1)) (lv' := [(4, .int (x4 + 1)), (0, .ref (ad 0)), (1, .int x1), (2, .int x2), (3, .int x3)]) hx hb dX0_follow_51 hl (k := 4) rfl rfl (by decide) rfl (fun ls hl => ?_)
            refine lv_goto (tgt := 3) hx hb dX0_follow_54 rfl ?_
            exact ih _ _ _ _ _ _ _ _ hw (lv_sub hl [1, 2, 3, 4, 0] rfl) h
          · replace h := itT h c7
            refine lv_aload_n hx hb dX0_follow_43 rfl (lv_at hl 0 rfl) ?_
            refine q_g0_1 F hw dX0_follow_44 ?_
            refine lv_iload hx hb dX0_follow_47 (lv_at hl 4 rfl) ?_
            refine lv_iload_n hx hb dX0_follow_49 rfl (lv_at hl 3 rfl) ?_
            obtain ⟨g8, h⟩ := gd h
            refine q_s2 F hw g8 dX0_follow_50 (fun H locs hw => ?_)
            refine lv_iinc (v := (x4 + 1)) (lv' := [(4, .int (x4 + 1)), (0, .ref (ad 0)), (1, .int x1), (2, .int x2), (3, .int x3)]) hx hb dX0_follow_51 hl (k := 4) rfl rfl (by decide) rfl (fun ls hl => ?_)
            refine lv_goto (tgt := 3) hx hb dX0_follow_54 rfl ?_
            exact ih _ _ _ _ _ _ _ _ hw (lv_sub hl [1, 2, 3, 4, 0] rfl) h
set_option maxHeartbeats 4000000 in
set_option maxRecDepth 100000 in
theorem w_X0_follow_0 (F : FX p m c cX0_follow 5 s args yX0_follow none RX0 meth) {z : OS} : ∀ (x1 : Int32) (x2 : Int32) (x3 : Int32) (u : OS) (H : Heap) (locs : List Loc) (ls : Array Slot), WD G A s (kw G ad u) H locs → lv_has ls 5 [(0, .ref (ad 0)), (1, .int x1), (2, .int x2), (3, .int x3)] → f_X0_follow x1 x2 x3 u = some z → W p l e rmX0_follow s m args below meth c H locs 0 0 (MQ below (QW G (kw G ad z) A none) args s 0 0 A) (F0 m 0 ls []) := by
  obtain ⟨⟨hx, hb, hml, hown, hts⟩, hr, hlocks⟩ := id F
  intro x1 x2 x3 u H locs ls hw hl h
  unfold f_X0_follow at h
  refine lv_iconst (v := 0) hx hb dX0_follow_0 rfl ?_
  refine lv_istore (lv' := [(4, .int 0), (0, .ref (ad 0)), (1, .int x1), (2, .int x2), (3, .int x3)]) hx hb dX0_follow_1 hl (by decide) rfl (fun ls hl => ?_)
  exact w_X0_follow_3 F NF _ _ _ _ _ _ _ _ hw (lv_sub hl [1, 2, 3, 4, 0] rfl) h
end
theorem c_X0_follow {l : Launch} {G : GX} {ad : Nat → Nat} {x1 : Int32} {x2 : Int32} {x3 : Int32} {u : OS} {z : OS} (h : f_X0_follow x1 x2 x3 u = some z) : MW l yX0_follow cX0_follow 5 none rmX0_follow G (kw G ad u) (kw G ad z) [.ref (ad 0), .int x1, .int x2, .int x3] none := MW.of (by decide) (Nat.le_of_ble_eq_true rfl) (fun p e s m below meth c ls F hw hl => w_X0_follow_0 F _ _ _ _ _ _ _ hw hl h)
end
section
/-! ===== X2_isRow ===== -/
theorem dX2_isRow_0 : decode cX2_isRow 0 = .ok (.iload_n 1, 1) := by decide +kernel
theorem dX2_isRow_1 : decode cX2_isRow 1 = .ok (.ifCond .lt 23, 3) := by decide +kernel
theorem dX2_isRow_4 : decode cX2_isRow 4 = .ok (.iload_n 1, 1) := by decide +kernel
theorem dX2_isRow_5 : decode cX2_isRow 5 = .ok (.bipush 8, 2) := by decide +kernel
theorem dX2_isRow_7 : decode cX2_isRow 7 = .ok (.if_icmp .ge 17, 3) := by decide +kernel
theorem dX2_isRow_10 : decode cX2_isRow 10 = .ok (.aload_n 0, 1) := by decide +kernel
theorem dX2_isRow_11 : decode cX2_isRow 11 = .ok (.getfield 25, 3) := by decide +kernel
theorem dX2_isRow_14 : decode cX2_isRow 14 = .ok (.iload_n 1, 1) := by decide +kernel
theorem dX2_isRow_15 : decode cX2_isRow 15 = .ok (.iaload, 1) := by decide +kernel
theorem dX2_isRow_16 : decode cX2_isRow 16 = .ok (.iconst (-1), 1) := by decide +kernel
theorem dX2_isRow_17 : decode cX2_isRow 17 = .ok (.if_icmp .eq 7, 3) := by decide +kernel
theorem dX2_isRow_20 : decode cX2_isRow 20 = .ok (.iconst 1, 1) := by decide +kernel
theorem dX2_isRow_21 : decode cX2_isRow 21 = .ok (.goto 4, 3) := by decide +kernel
theorem dX2_isRow_24 : decode cX2_isRow 24 = .ok (.iconst 0, 1) := by decide +kernel
theorem dX2_isRow_25 : decode cX2_isRow 25 = .ok (.ireturn, 1) := by decide +kernel
theorem s_g0_2 {p : Program} {l : Launch} {e : Env} {R : Room} {s : State} {m : MethodId} {args : Array Value} {below : List Frame} {meth : Method} {c : Code} {H : Heap} {locs : List Loc} {cells slots : Nat} {Q : State → Prop} {G : GX} {A : Nat → Prop} {ad : Nat → Nat} {u : SS} {cc : ByteArray} {nL pc : Nat} {y : MethodName} {ret : Option FieldType} {ls : Array Slot} {rest : List Value} (F : FX p m c cc nL s args y ret RX2 meth) (hw : WD G A s (sw G ad u) H locs) (hdg : decode cc pc = .ok (.getfield 25, 3)) (kk : W p l e R s m args below meth c H locs cells slots Q (F0 m (pc + 3) ls (.ref (ad 9) :: rest))) : W p l e R s m args below meth c H locs cells slots Q (F0 m pc ls (.ref (ad 0) :: rest)) := va_get (D := G.1) (ci := 2) (C := RX2) (T := TX2) (N := 8) (Ts := lw_gt) F.1.1 F.1.2.1 (fun _ h => F.tb h) inX2 F.1.2.2.2.1 hw.1.1 hw.2.1 0 rfl rfl 2 (by decide) (F.tb (tw 71 (by decide +kernel) rfl)) (fun _ h9 => h9) rfl hdg kk
theorem s_l9 {i : Int32} {p : Program} {l : Launch} {e : Env} {R : Room} {s : State} {m : MethodId} {args : Array Value} {below : List Frame} {meth : Method} {c : Code} {H : Heap} {locs : List Loc} {cells slots : Nat} {Q : State → Prop} {G : GX} {A : Nat → Prop} {ad : Nat → Nat} {u : SS} {cc : ByteArray} {nL pc : Nat} {y : MethodName} {ret : Option FieldType} {ls : Array Slot} {rest : List Value} (F : FX p m c cc nL s args y ret RX2 meth) (hw : WD G A s (sw G ad u) H locs) (hi : ix i 8 = true) (hdg : decode cc pc = .ok (.iaload, 1)) (kk : W p l e R s m args below meth c H locs cells slots Q (F0 m (pc + 1) ls (.int ((u.2.2.1 2) i.toNatClampNeg) :: rest))) : W p l e R s m args below meth c H locs cells slots Q (F0 m pc ls (.int i :: .ref (ad 9) :: rest)) := va_iald F.1.1 F.1.2.1 hw.1.1 hw.2.1 9 0 rfl rfl (ix_in hi) hdg kk
def rmX2_isRow : Room := { frames := 0, cells := 0, slots := 0, locals := 0 }
noncomputable def f_X2_isRow (x1 : Int32) (u : SS) : Option (Int32) := (if x1 < 0 then some 0 else (if (8 : Int32) ≤ x1 then some 0 else (if ix x1 8 = true then (if ((u.2.2.1 2) (Int32.toNatClampNeg x1)) = ((-1) : Int32) then some 0 else some 1) else none)))
section
variable {p : Program} {l : Launch} {e : Env} {s : State} {m : MethodId} {args : Array Value} {below : List Frame} {meth : Method} {c : Code}
variable {G : GX} {A : Nat → Prop} {ad : Nat → Nat} 
set_option maxHeartbeats 4000000 in
set_option maxRecDepth 100000 in
theorem w_X2_isRow_0 (F : FX p m c cX2_isRow 2 s args yX2_isRow (some .boolean) RX2 meth) {z : Int32} : ∀ (x1 : Int32) (u : SS) (ls : Array Slot), WD G A s (sw G ad u) s.heap [] → lv_has ls 2 [(0, .ref (ad 0)), (1, .int x1)] → f_X2_isRow x1 u = some z → W p l e rmX2_isRow s m args below meth c s.heap [] 0 0 (MQ below (QO (some (.int z))) args s 0 0 (fun _ => False)) (F0 m 0 ls []) := by
  obtain ⟨⟨hx, hb, hml, hown, hts⟩, hr, hlocks⟩ := id F
  intro x1 u ls hw hl h
  unfold f_X2_isRow at h
  refine lv_iload_n hx hb dX2_isRow_0 rfl (lv_at hl 1 rfl) ?_
  refine lv_if_lt (tgt := 24) hx hb dX2_isRow_1 rfl (fun c1 => ?_) (fun c1 => ?_)
  · replace h := itT h c1
    refine lv_iconst (v := 0) hx hb dX2_isRow_24 rfl ?_
    cases h
    exact retO_z F narrow_b0 dX2_isRow_25
  · replace h := itF h c1
    refine lv_iload_n hx hb dX2_isRow_4 rfl (lv_at hl 1 rfl) ?_
    refine lv_bipush (v := 8) hx hb dX2_isRow_5 rfl ?_
    refine lv_icmp_ge (tgt := 24) hx hb dX2_isRow_7 rfl (fun c2 => ?_) (fun c2 => ?_)
    · replace h := itT h c2
      refine lv_iconst (v := 0) hx hb dX2_isRow_24 rfl ?_
      cases h
      exact retO_z F narrow_b0 dX2_isRow_25
    · replace h := itF h c2
      refine lv_aload_n hx hb dX2_isRow_10 rfl (lv_at hl 0 rfl) ?_
      refine s_g0_2 F hw dX2_isRow_11 ?_
      refine lv_iload_n hx hb dX2_isRow_14 rfl (lv_at hl 1 rfl) ?_
      obtain ⟨g3, h⟩ := gd h
      refine s_l9 F hw g3 dX2_isRow_15 ?_
      refine lv_iconst (v := (-1)) hx hb dX2_isRow_16 rfl ?_
      refine lv_icmp_eq (tgt := 24) hx hb dX2_isRow_17 rfl (fun c4 => ?_) (fun c4 => ?_)
      · replace h := itT h c4
        refine lv_iconst (v := 0) hx hb dX2_isRow_24 rfl ?_
        cases h
        exact retO_z F narrow_b0 dX2_isRow_25
      · replace h := itF h c4
        refine lv_iconst (v := 1) hx hb dX2_isRow_20 rfl ?_
        refine lv_goto (tgt := 25) hx hb dX2_isRow_21 rfl ?_
        cases h
        exact retO_z F narrow_b1 dX2_isRow_25
end
theorem c_X2_isRow {l : Launch} {G : GX} {ad : Nat → Nat} {x1 : Int32} {u : SS} {z : Int32} (h : f_X2_isRow x1 u = some z) : MO l yX2_isRow cX2_isRow 2 (some .boolean) rmX2_isRow G (sw G ad u) [.ref (ad 0), .int x1] (some (.int z)) := MO.of (by decide) (Nat.le_of_ble_eq_true rfl) (fun p e s m below meth c ls F hw hl => w_X2_isRow_0 F _ _ _ hw hl h)
/-! ===== X2_hasBlocks ===== -/
theorem dX2_hasBlocks_0 : decode cX2_hasBlocks 0 = .ok (.aload_n 0, 1) := by decide +kernel
theorem dX2_hasBlocks_1 : decode cX2_hasBlocks 1 = .ok (.iload_n 1, 1) := by decide +kernel
theorem dX2_hasBlocks_2 : decode cX2_hasBlocks 2 = .ok (.invokevirtual 65, 3) := by decide +kernel
theorem dX2_hasBlocks_5 : decode cX2_hasBlocks 5 = .ok (.ifCond .eq 17, 3) := by decide +kernel
theorem dX2_hasBlocks_8 : decode cX2_hasBlocks 8 = .ok (.aload_n 0, 1) := by decide +kernel
theorem dX2_hasBlocks_9 : decode cX2_hasBlocks 9 = .ok (.getfield 25, 3) := by decide +kernel
theorem dX2_hasBlocks_12 : decode cX2_hasBlocks 12 = .ok (.iload_n 1, 1) := by decide +kernel
theorem dX2_hasBlocks_13 : decode cX2_hasBlocks 13 = .ok (.iaload, 1) := by decide +kernel
theorem dX2_hasBlocks_14 : decode cX2_hasBlocks 14 = .ok (.iconst 2, 1) := by decide +kernel
theorem dX2_hasBlocks_15 : decode cX2_hasBlocks 15 = .ok (.if_icmp .lt 7, 3) := by decide +kernel
theorem dX2_hasBlocks_18 : decode cX2_hasBlocks 18 = .ok (.iconst 1, 1) := by decide +kernel
theorem dX2_hasBlocks_19 : decode cX2_hasBlocks 19 = .ok (.goto 4, 3) := by decide +kernel
theorem dX2_hasBlocks_22 : decode cX2_hasBlocks 22 = .ok (.iconst 0, 1) := by decide +kernel
theorem dX2_hasBlocks_23 : decode cX2_hasBlocks 23 = .ok (.ireturn, 1) := by decide +kernel
theorem yv_X2_isRow_X2 : YV RX2 65 yX2_isRow cX2_isRow 2 (some .boolean) 1 := ⟨(tw 130 (by decide +kernel) rfl), (tw 2 (by decide +kernel) rfl), (tw 241 (by decide +kernel) rfl), (tw 128 (by decide +kernel) rfl), (tw 129 (by decide +kernel) rfl), by decide +kernel⟩
theorem k_X2_isRow_s_ {p : Program} {l : Launch} {e : Env} {R : Room} {s : State} {m : MethodId} {args : Array Value} {below : List Frame} {meth : Method} {c : Code} {H : Heap} {locs : List Loc} {cells slots : Nat} {Q : State → Prop} {G : GX} {A : Nat → Prop} {ad : Nat → Nat} {u : SS} {cc : ByteArray} {nL pc : Nat} {y : MethodName} {ret : Option FieldType} {ls : Array Slot} {rest : List Value} {x1 : Int32} {z : Int32} (F : FX p m c cc nL s args y ret RX2 meth) (hw : WD G A s (sw G ad u) H locs) (h : f_X2_isRow x1 u = some z) (hR : rmX2_isRow.frames + 1 ≤ R.frames ∧ 8 + (2 + 11) + rmX2_isRow.locals ≤ R.locals) (hcs : cells ≤ R.cells ∧ slots ≤ R.slots) (hsz : ls.size = nL) (hW : (rest.map fun v => v.category).sum ≤ 8) (hdg : decode cc pc = .ok (.invokevirtual 65, 3)) (kk : W p l e R s m args below meth c H locs cells slots Q (F0 m (pc + 3) ls (.int z :: rest))) : W p l e R s m args below meth c H locs cells slots Q (F0 m pc ls (.int x1 :: .ref (ad 0) :: rest)) := callO (runV F yv_X2_isRow_X2 (c_X2_isRow h) hw.1 hw.2.1 hw.2.2.1 rfl rfl rfl ⟨rfl, rfl⟩ hR hcs rfl hsz rfl hW hdg) kk
def rmX2_hasBlocks : Room := { frames := 1, cells := 0, slots := 0, locals := 21 }
noncomputable def f_X2_hasBlocks (x1 : Int32) (u : SS) : Option (Int32) := (f_X2_isRow x1 u).bind (fun z1 => (if z1 = 0 then some 0 else (if ix x1 8 = true then (if ((u.2.2.1 2) (Int32.toNatClampNeg x1)) < (2 : Int32) then some 0 else some 1) else none)))
section
variable {p : Program} {l : Launch} {e : Env} {s : State} {m : MethodId} {args : Array Value} {below : List Frame} {meth : Method} {c : Code}
variable {G : GX} {A : Nat → Prop} {ad : Nat → Nat} 
set_option maxHeartbeats 4000000 in
set_option maxRecDepth 100000 in
theorem w_X2_hasBlocks_0 (F : FX p m c cX2_hasBlocks 2 s args yX2_hasBlocks (some .boolean) RX2 meth) {z : Int32} : ∀ (x1 : Int32) (u : SS) (ls : Array Slot), WD G A s (sw G ad u) s.heap [] → lv_has ls 2 [(0, .ref (ad 0)), (1, .int x1)] → f_X2_hasBlocks x1 u = some z → W p l e rmX2_hasBlocks s m args below meth c s.heap [] 0 0 (MQ below (QO (some (.int z))) args s 0 0 (fun _ => False)) (F0 m 0 ls []) := by
  obtain ⟨⟨hx, hb, hml, hown, hts⟩, hr, hlocks⟩ := id F
  intro x1 u ls hw hl h
  unfold f_X2_hasBlocks at h
  refine lv_aload_n hx hb dX2_hasBlocks_0 rfl (lv_at hl 0 rfl) ?_
  refine lv_iload_n hx hb dX2_hasBlocks_1 rfl (lv_at hl 1 rfl) ?_
  obtain ⟨z1, e2, h⟩ := bnd h
  refine k_X2_isRow_s_ F hw e2 ⟨Nat.le_of_ble_eq_true rfl, Nat.le_of_ble_eq_true rfl⟩ ⟨Nat.zero_le _, Nat.zero_le _⟩ hl.1 (Nat.le_of_ble_eq_true rfl) dX2_hasBlocks_2 ?_
  refine lv_if_eq (tgt := 22) hx hb dX2_hasBlocks_5 rfl (fun c3 => ?_) (fun c3 => ?_)
  · replace h := itT h c3
    refine lv_iconst (v := 0) hx hb dX2_hasBlocks_22 rfl ?_
    cases h
    exact retO_z F narrow_b0 dX2_hasBlocks_23
  · replace h := itF h c3
    refine lv_aload_n hx hb dX2_hasBlocks_8 rfl (lv_at hl 0 rfl) ?_
    refine s_g0_2 F hw dX2_hasBlocks_9 ?_
    refine lv_iload_n hx hb dX2_hasBlocks_12 rfl (lv_at hl 1 rfl) ?_
    obtain ⟨g4, h⟩ := gd h
    refine s_l9 F hw g4 dX2_hasBlocks_13 ?_
    refine lv_iconst (v := 2) hx hb dX2_hasBlocks_14 rfl ?_
    refine lv_icmp_lt (tgt := 22) hx hb dX2_hasBlocks_15 rfl (fun c5 => ?_) (fun c5 => ?_)
    · replace h := itT h c5
      refine lv_iconst (v := 0) hx hb dX2_hasBlocks_22 rfl ?_
      cases h
      exact retO_z F narrow_b0 dX2_hasBlocks_23
    · replace h := itF h c5
      refine lv_iconst (v := 1) hx hb dX2_hasBlocks_18 rfl ?_
      refine lv_goto (tgt := 23) hx hb dX2_hasBlocks_19 rfl ?_
      cases h
      exact retO_z F narrow_b1 dX2_hasBlocks_23
end
theorem c_X2_hasBlocks {l : Launch} {G : GX} {ad : Nat → Nat} {x1 : Int32} {u : SS} {z : Int32} (h : f_X2_hasBlocks x1 u = some z) : MO l yX2_hasBlocks cX2_hasBlocks 2 (some .boolean) rmX2_hasBlocks G (sw G ad u) [.ref (ad 0), .int x1] (some (.int z)) := MO.of (by decide) (Nat.le_of_ble_eq_true rfl) (fun p e s m below meth c ls F hw hl => w_X2_hasBlocks_0 F _ _ _ hw hl h)
/-! ===== X2_rowCount ===== -/
theorem dX2_rowCount_0 : decode cX2_rowCount 0 = .ok (.iconst 0, 1) := by decide +kernel
theorem dX2_rowCount_1 : decode cX2_rowCount 1 = .ok (.istore_n 1, 1) := by decide +kernel
theorem dX2_rowCount_2 : decode cX2_rowCount 2 = .ok (.iconst 0, 1) := by decide +kernel
theorem dX2_rowCount_3 : decode cX2_rowCount 3 = .ok (.istore_n 2, 1) := by decide +kernel
theorem dX2_rowCount_4 : decode cX2_rowCount 4 = .ok (.iload_n 2, 1) := by decide +kernel
theorem dX2_rowCount_5 : decode cX2_rowCount 5 = .ok (.bipush 8, 2) := by decide +kernel
theorem dX2_rowCount_7 : decode cX2_rowCount 7 = .ok (.if_icmp .ge 22, 3) := by decide +kernel
theorem dX2_rowCount_10 : decode cX2_rowCount 10 = .ok (.aload_n 0, 1) := by decide +kernel
theorem dX2_rowCount_11 : decode cX2_rowCount 11 = .ok (.getfield 25, 3) := by decide +kernel
theorem dX2_rowCount_14 : decode cX2_rowCount 14 = .ok (.iload_n 2, 1) := by decide +kernel
theorem dX2_rowCount_15 : decode cX2_rowCount 15 = .ok (.iaload, 1) := by decide +kernel
theorem dX2_rowCount_16 : decode cX2_rowCount 16 = .ok (.iconst (-1), 1) := by decide +kernel
theorem dX2_rowCount_17 : decode cX2_rowCount 17 = .ok (.if_icmp .eq 6, 3) := by decide +kernel
theorem dX2_rowCount_20 : decode cX2_rowCount 20 = .ok (.iinc 1 1, 3) := by decide +kernel
theorem dX2_rowCount_23 : decode cX2_rowCount 23 = .ok (.iinc 2 1, 3) := by decide +kernel
theorem dX2_rowCount_26 : decode cX2_rowCount 26 = .ok (.goto (-22), 3) := by decide +kernel
theorem dX2_rowCount_29 : decode cX2_rowCount 29 = .ok (.iload_n 1, 1) := by decide +kernel
theorem dX2_rowCount_30 : decode cX2_rowCount 30 = .ok (.ireturn, 1) := by decide +kernel
def rmX2_rowCount : Room := { frames := 0, cells := 0, slots := 0, locals := 0 }
noncomputable def f_X2_rowCount_4 : Nat → Int32 → Int32 → SS → Option (Int32)
  | 0, _, _, _ => none
  | n + 1, x1, x2, u => (if (8 : Int32) ≤ x2 then some x1 else (if ix x2 8 = true then (if ((u.2.2.1 2) (Int32.toNatClampNeg x2)) = ((-1) : Int32) then f_X2_rowCount_4 n x1 (x2 + 1) u else f_X2_rowCount_4 n (x1 + 1) (x2 + 1) u) else none))
noncomputable def f_X2_rowCount (u : SS) : Option (Int32) := f_X2_rowCount_4 NF 0 0 u
section
variable {p : Program} {l : Launch} {e : Env} {s : State} {m : MethodId} {args : Array Value} {below : List Frame} {meth : Method} {c : Code}
variable {G : GX} {A : Nat → Prop} {ad : Nat → Nat} 
set_option maxHeartbeats 4000000 in
set_option maxRecDepth 100000 in
theorem w_X2_rowCount_4 (F : FX p m c cX2_rowCount 3 s args yX2_rowCount (some .int) RX2 meth) {z : Int32} : ∀ (n : Nat) (x1 : Int32) (x2 : Int32) (u : SS) (ls : Array Slot), WD G A s (sw G ad u) s.heap [] → lv_has ls 3 [(0, .ref (ad 0)), (1, .int x1), (2, .int x2)] → f_X2_rowCount_4 n x1 x2 u = some z → W p l e rmX2_rowCount s m args below meth c s.heap [] 0 0 (MQ below (QO (some (.int z))) args s 0 0 (fun _ => False)) (F0 m 4 ls []) := by
  obtain ⟨⟨hx, hb, hml, hown, hts⟩, hr, hlocks⟩ := id F
  intro n
  induction n with
  | zero =>
    intro x1 x2 u ls hw hl h
    rw [f_X2_rowCount_4] at h
    cases h
  | succ n ih =>
    intro x1 x2 u ls hw hl h
    rw [f_X2_rowCount_4] at h
    refine lv_iload_n hx hb dX2_rowCount_4 rfl (lv_at hl 2 rfl) ?_
    refine lv_bipush (v := 8) hx hb dX2_rowCount_5 rfl ?_
    refine lv_icmp_ge (tgt := 29) hx hb dX2_rowCount_7 rfl (fun c1 => ?_) (fun c1 => ?_)
    · replace h := itT h c1
      refine lv_iload_n hx hb dX2_rowCount_29 rfl (lv_at hl 1 rfl) ?_
      cases h
      exact retO_i F dX2_rowCount_30
    · replace h := itF h c1
      refine lv_aload_n hx hb dX2_rowCount_10 rfl (lv_at hl 0 rfl) ?_
      refine s_g0_2 F hw dX2_rowCount_11 ?_
      refine lv_iload_n hx hb dX2_rowCount_14 rfl (lv_at hl 2 rfl) ?_
      obtain ⟨g2, h⟩ := gd h
      refine s_l9 F hw g2 dX2_rowCount_15 ?_
      refine lv_iconst (v := (-1)) hx hb dX2_rowCount_16 rfl ?_
      refine lv_icmp_eq (tgt := 23) hx hb dX2_rowCount_17 rfl (fun c3 => ?_) (fun c3 => ?_)
      · replace h := itT h c3
        refine lv_iinc (v := (x2 + 1)) (lv' := [(2, .int (x2 + 1)), (0, .ref (ad 0)), (1, .int x1)]) hx hb dX2_rowCount_23 hl (k := 2) rfl rfl (by decide) rfl (fun ls hl => ?_)
        refine lv_goto (tgt := 4) hx hb dX2_rowCount_26 rfl ?_
        exact ih _ _ _ _ hw (lv_sub hl [1, 2, 0] rfl) h
      · replace h := itF h c3
        refine lv_iinc (v := (x1 + 1)) (lv' := [(1, .int (x1 + 1)), (0, .ref (ad 0)), (2, .int x2)]) hx hb dX2_rowCount_20 hl (k := 1) rfl rfl (by decide) rfl (fun ls hl => ?_)
        refine lv_iinc (v := (x2 + 1)) (lv' := [(2, .int (x2 + 1)), (1, .int (x1 + 1)), (0, .ref (ad 0))]) hx hb dX2_rowCount_23 hl (k := 2) rfl rfl (by decide) rfl (fun ls hl => ?_)
        refine lv_goto (tgt := 4) hx hb dX2_rowCount_26 rfl ?_
        exact ih _ _ _ _ hw (lv_sub hl [2, 1, 0] rfl) h
set_option maxHeartbeats 4000000 in
set_option maxRecDepth 100000 in
theorem w_X2_rowCount_0 (F : FX p m c cX2_rowCount 3 s args yX2_rowCount (some .int) RX2 meth) {z : Int32} : ∀ (u : SS) (ls : Array Slot), WD G A s (sw G ad u) s.heap [] → lv_has ls 3 [(0, .ref (ad 0))] → f_X2_rowCount u = some z → W p l e rmX2_rowCount s m args below meth c s.heap [] 0 0 (MQ below (QO (some (.int z))) args s 0 0 (fun _ => False)) (F0 m 0 ls []) := by
  obtain ⟨⟨hx, hb, hml, hown, hts⟩, hr, hlocks⟩ := id F
  intro u ls hw hl h
  unfold f_X2_rowCount at h
  refine lv_iconst (v := 0) hx hb dX2_rowCount_0 rfl ?_
  refine lv_istore_n (lv' := [(1, .int 0), (0, .ref (ad 0))]) hx hb dX2_rowCount_1 rfl hl (by decide) rfl (fun ls hl => ?_)
  refine lv_iconst (v := 0) hx hb dX2_rowCount_2 rfl ?_
  refine lv_istore_n (lv' := [(2, .int 0), (1, .int 0), (0, .ref (ad 0))]) hx hb dX2_rowCount_3 rfl hl (by decide) rfl (fun ls hl => ?_)
  exact w_X2_rowCount_4 F NF _ _ _ _ hw (lv_sub hl [2, 1, 0] rfl) h
end
theorem c_X2_rowCount {l : Launch} {G : GX} {ad : Nat → Nat} {u : SS} {z : Int32} (h : f_X2_rowCount u = some z) : MO l yX2_rowCount cX2_rowCount 3 (some .int) rmX2_rowCount G (sw G ad u) [.ref (ad 0)] (some (.int z)) := MO.of (by decide) (Nat.le_of_ble_eq_true rfl) (fun p e s m below meth c ls F hw hl => w_X2_rowCount_0 F  _ _ hw hl h)
/-! ===== X2_thingsIn ===== -/
theorem dX2_thingsIn_0 : decode cX2_thingsIn 0 = .ok (.aload_n 0, 1) := by decide +kernel
theorem dX2_thingsIn_1 : decode cX2_thingsIn 1 = .ok (.getfield 25, 3) := by decide +kernel
theorem dX2_thingsIn_4 : decode cX2_thingsIn 4 = .ok (.iload_n 1, 1) := by decide +kernel
theorem dX2_thingsIn_5 : decode cX2_thingsIn 5 = .ok (.iaload, 1) := by decide +kernel
theorem dX2_thingsIn_6 : decode cX2_thingsIn 6 = .ok (.iconst 3, 1) := by decide +kernel
theorem dX2_thingsIn_7 : decode cX2_thingsIn 7 = .ok (.if_icmp .ne 16, 3) := by decide +kernel
theorem dX2_thingsIn_10 : decode cX2_thingsIn 10 = .ok (.aload_n 0, 1) := by decide +kernel
theorem dX2_thingsIn_11 : decode cX2_thingsIn 11 = .ok (.getfield 12, 3) := by decide +kernel
theorem dX2_thingsIn_14 : decode cX2_thingsIn 14 = .ok (.iload_n 1, 1) := by decide +kernel
theorem dX2_thingsIn_15 : decode cX2_thingsIn 15 = .ok (.invokevirtual 69, 3) := by decide +kernel
theorem dX2_thingsIn_18 : decode cX2_thingsIn 18 = .ok (.iconst 2, 1) := by decide +kernel
theorem dX2_thingsIn_19 : decode cX2_thingsIn 19 = .ok (.idiv, 1) := by decide +kernel
theorem dX2_thingsIn_20 : decode cX2_thingsIn 20 = .ok (.goto 11, 3) := by decide +kernel
theorem dX2_thingsIn_23 : decode cX2_thingsIn 23 = .ok (.aload_n 0, 1) := by decide +kernel
theorem dX2_thingsIn_24 : decode cX2_thingsIn 24 = .ok (.getfield 12, 3) := by decide +kernel
theorem dX2_thingsIn_27 : decode cX2_thingsIn 27 = .ok (.iload_n 1, 1) := by decide +kernel
theorem dX2_thingsIn_28 : decode cX2_thingsIn 28 = .ok (.invokevirtual 69, 3) := by decide +kernel
theorem dX2_thingsIn_31 : decode cX2_thingsIn 31 = .ok (.ireturn, 1) := by decide +kernel
theorem s_g0_0 {p : Program} {l : Launch} {e : Env} {R : Room} {s : State} {m : MethodId} {args : Array Value} {below : List Frame} {meth : Method} {c : Code} {H : Heap} {locs : List Loc} {cells slots : Nat} {Q : State → Prop} {G : GX} {A : Nat → Prop} {ad : Nat → Nat} {u : SS} {cc : ByteArray} {nL pc : Nat} {y : MethodName} {ret : Option FieldType} {ls : Array Slot} {rest : List Value} (F : FX p m c cc nL s args y ret RX2 meth) (hw : WD G A s (sw G ad u) H locs) (hdg : decode cc pc = .ok (.getfield 12, 3)) (kk : W p l e R s m args below meth c H locs cells slots Q (F0 m (pc + 3) ls (.ref (ad 1) :: rest))) : W p l e R s m args below meth c H locs cells slots Q (F0 m pc ls (.ref (ad 0) :: rest)) := va_get (D := G.1) (ci := 2) (C := RX2) (T := TX2) (N := 8) (Ts := lw_gt) F.1.1 F.1.2.1 (fun _ h => F.tb h) inX2 F.1.2.2.2.1 hw.1.1 hw.2.1 0 rfl rfl 0 (by decide) (F.tb (tw 67 (by decide +kernel) rfl)) (fun _ h9 => h9) rfl hdg kk
theorem yv_X1_length_X2 : YV RX2 69 yX1_length cX1_length 2 (some .int) 1 := ⟨(tw 245 (by decide +kernel) rfl), (tw 3 (by decide +kernel) rfl), (tw 242 (by decide +kernel) rfl), (tw 243 (by decide +kernel) rfl), (tw 244 (by decide +kernel) rfl), by decide +kernel⟩
theorem k_X1_length_s_ {p : Program} {l : Launch} {e : Env} {R : Room} {s : State} {m : MethodId} {args : Array Value} {below : List Frame} {meth : Method} {c : Code} {H : Heap} {locs : List Loc} {cells slots : Nat} {Q : State → Prop} {G : GX} {A : Nat → Prop} {ad : Nat → Nat} {u : SS} {cc : ByteArray} {nL pc : Nat} {y : MethodName} {ret : Option FieldType} {ls : Array Slot} {rest : List Value} {x1 : Int32} {z : Int32} (F : FX p m c cc nL s args y ret RX2 meth) (hw : WD G A s (sw G ad u) H locs) (h : f_X1_length x1 u.1 = some z) (hR : rmX1_length.frames + 1 ≤ R.frames ∧ 8 + (2 + 11) + rmX1_length.locals ≤ R.locals) (hcs : cells ≤ R.cells ∧ slots ≤ R.slots) (hsz : ls.size = nL) (hW : (rest.map fun v => v.category).sum ≤ 8) (hdg : decode cc pc = .ok (.invokevirtual 69, 3)) (kk : W p l e R s m args below meth c H locs cells slots Q (F0 m (pc + 3) ls (.int z :: rest))) : W p l e R s m args below meth c H locs cells slots Q (F0 m pc ls (.int x1 :: .ref (ad 1) :: rest)) := callO (runV F yv_X1_length_X2 (c_X1_length h (ad := (fun k => ad (k + 1)))) hw.1 (hw.2.1.sub [1, 2, 3, 4] rfl) (hw.2.2.1.sub [1, 2, 3, 4] (by decide) rfl) rfl rfl rfl ⟨rfl, rfl⟩ hR hcs rfl hsz rfl hW hdg) kk
def rmX2_thingsIn : Room := { frames := 2, cells := 0, slots := 0, locals := 42 }
noncomputable def f_X2_thingsIn (x1 : Int32) (u : SS) : Option (Int32) := (if ix x1 8 = true then (if ((u.2.2.1 2) (Int32.toNatClampNeg x1)) = (3 : Int32) then (f_X1_length x1 u.1).bind (fun z5 => some (z5 / 2)) else (f_X1_length x1 u.1).bind (fun z3 => some z3)) else none)
section
variable {p : Program} {l : Launch} {e : Env} {s : State} {m : MethodId} {args : Array Value} {below : List Frame} {meth : Method} {c : Code}
variable {G : GX} {A : Nat → Prop} {ad : Nat → Nat} 
set_option maxHeartbeats 4000000 in
set_option maxRecDepth 100000 in
theorem w_X2_thingsIn_0 (F : FX p m c cX2_thingsIn 2 s args yX2_thingsIn (some .int) RX2 meth) {z : Int32} : ∀ (x1 : Int32) (u : SS) (ls : Array Slot), WD G A s (sw G ad u) s.heap [] → lv_has ls 2 [(0, .ref (ad 0)), (1, .int x1)] → f_X2_thingsIn x1 u = some z → W p l e rmX2_thingsIn s m args below meth c s.heap [] 0 0 (MQ below (QO (some (.int z))) args s 0 0 (fun _ => False)) (F0 m 0 ls []) := by
  obtain ⟨⟨hx, hb, hml, hown, hts⟩, hr, hlocks⟩ := id F
  intro x1 u ls hw hl h
  unfold f_X2_thingsIn at h
  refine lv_aload_n hx hb dX2_thingsIn_0 rfl (lv_at hl 0 rfl) ?_
  refine s_g0_2 F hw dX2_thingsIn_1 ?_
  refine lv_iload_n hx hb dX2_thingsIn_4 rfl (lv_at hl 1 rfl) ?_
  obtain ⟨g1, h⟩ := gd h
  refine s_l9 F hw g1 dX2_thingsIn_5 ?_
  refine lv_iconst (v := 3) hx hb dX2_thingsIn_6 rfl ?_
  refine lv_icmp_ne (tgt := 23) hx hb dX2_thingsIn_7 rfl (fun c2 => ?_) (fun c2 => ?_)
  · replace h := itF h c2
    refine lv_aload_n hx hb dX2_thingsIn_23 rfl (lv_at hl 0 rfl) ?_
    refine s_g0_0 F hw dX2_thingsIn_24 ?_
    refine lv_iload_n hx hb dX2_thingsIn_27 rfl (lv_at hl 1 rfl) ?_
    obtain ⟨z3, e4, h⟩ := bnd h
    refine k_X1_length_s_ F hw e4 ⟨Nat.le_of_ble_eq_true rfl, Nat.le_of_ble_eq_true rfl⟩ ⟨Nat.zero_le _, Nat.zero_le _⟩ hl.1 (Nat.le_of_ble_eq_true rfl) dX2_thingsIn_28 ?_
    cases h
    exact retO_i F dX2_thingsIn_31
  · replace h := itT h c2
    refine lv_aload_n hx hb dX2_thingsIn_10 rfl (lv_at hl 0 rfl) ?_
    refine s_g0_0 F hw dX2_thingsIn_11 ?_
    refine lv_iload_n hx hb dX2_thingsIn_14 rfl (lv_at hl 1 rfl) ?_
    obtain ⟨z5, e6, h⟩ := bnd h
    refine k_X1_length_s_ F hw e6 ⟨Nat.le_of_ble_eq_true rfl, Nat.le_of_ble_eq_true rfl⟩ ⟨Nat.zero_le _, Nat.zero_le _⟩ hl.1 (Nat.le_of_ble_eq_true rfl) dX2_thingsIn_15 ?_
    refine lv_iconst (v := 2) hx hb dX2_thingsIn_18 rfl ?_
    refine lv_idiv hx hb dX2_thingsIn_19 (by decide) ?_
    refine lv_goto (tgt := 31) hx hb dX2_thingsIn_20 rfl ?_
    cases h
    exact retO_i F dX2_thingsIn_31
end
theorem c_X2_thingsIn {l : Launch} {G : GX} {ad : Nat → Nat} {x1 : Int32} {u : SS} {z : Int32} (h : f_X2_thingsIn x1 u = some z) : MO l yX2_thingsIn cX2_thingsIn 2 (some .int) rmX2_thingsIn G (sw G ad u) [.ref (ad 0), .int x1] (some (.int z)) := MO.of (by decide) (Nat.le_of_ble_eq_true rfl) (fun p e s m below meth c ls F hw hl => w_X2_thingsIn_0 F _ _ _ hw hl h)
/-! ===== X2_thingsInAll ===== -/
theorem dX2_thingsInAll_0 : decode cX2_thingsInAll 0 = .ok (.iconst 0, 1) := by decide +kernel
theorem dX2_thingsInAll_1 : decode cX2_thingsInAll 1 = .ok (.istore_n 1, 1) := by decide +kernel
theorem dX2_thingsInAll_2 : decode cX2_thingsInAll 2 = .ok (.iconst 0, 1) := by decide +kernel
theorem dX2_thingsInAll_3 : decode cX2_thingsInAll 3 = .ok (.istore_n 2, 1) := by decide +kernel
theorem dX2_thingsInAll_4 : decode cX2_thingsInAll 4 = .ok (.iload_n 2, 1) := by decide +kernel
theorem dX2_thingsInAll_5 : decode cX2_thingsInAll 5 = .ok (.bipush 8, 2) := by decide +kernel
theorem dX2_thingsInAll_7 : decode cX2_thingsInAll 7 = .ok (.if_icmp .ge 17, 3) := by decide +kernel
theorem dX2_thingsInAll_10 : decode cX2_thingsInAll 10 = .ok (.iload_n 1, 1) := by decide +kernel
theorem dX2_thingsInAll_11 : decode cX2_thingsInAll 11 = .ok (.aload_n 0, 1) := by decide +kernel
theorem dX2_thingsInAll_12 : decode cX2_thingsInAll 12 = .ok (.iload_n 2, 1) := by decide +kernel
theorem dX2_thingsInAll_13 : decode cX2_thingsInAll 13 = .ok (.invokevirtual 73, 3) := by decide +kernel
theorem dX2_thingsInAll_16 : decode cX2_thingsInAll 16 = .ok (.iadd, 1) := by decide +kernel
theorem dX2_thingsInAll_17 : decode cX2_thingsInAll 17 = .ok (.istore_n 1, 1) := by decide +kernel
theorem dX2_thingsInAll_18 : decode cX2_thingsInAll 18 = .ok (.iinc 2 1, 3) := by decide +kernel
theorem dX2_thingsInAll_21 : decode cX2_thingsInAll 21 = .ok (.goto (-17), 3) := by decide +kernel
theorem dX2_thingsInAll_24 : decode cX2_thingsInAll 24 = .ok (.iload_n 1, 1) := by decide +kernel
theorem dX2_thingsInAll_25 : decode cX2_thingsInAll 25 = .ok (.ireturn, 1) := by decide +kernel
theorem yv_X2_thingsIn_X2 : YV RX2 73 yX2_thingsIn cX2_thingsIn 2 (some .int) 1 := ⟨(tw 477 (by decide +kernel) rfl), (tw 2 (by decide +kernel) rfl), (tw 494 (by decide +kernel) rfl), (tw 475 (by decide +kernel) rfl), (tw 476 (by decide +kernel) rfl), by decide +kernel⟩
theorem k_X2_thingsIn_s_ {p : Program} {l : Launch} {e : Env} {R : Room} {s : State} {m : MethodId} {args : Array Value} {below : List Frame} {meth : Method} {c : Code} {H : Heap} {locs : List Loc} {cells slots : Nat} {Q : State → Prop} {G : GX} {A : Nat → Prop} {ad : Nat → Nat} {u : SS} {cc : ByteArray} {nL pc : Nat} {y : MethodName} {ret : Option FieldType} {ls : Array Slot} {rest : List Value} {x1 : Int32} {z : Int32} (F : FX p m c cc nL s args y ret RX2 meth) (hw : WD G A s (sw G ad u) H locs) (h : f_X2_thingsIn x1 u = some z) (hR : rmX2_thingsIn.frames + 1 ≤ R.frames ∧ 8 + (2 + 11) + rmX2_thingsIn.locals ≤ R.locals) (hcs : cells ≤ R.cells ∧ slots ≤ R.slots) (hsz : ls.size = nL) (hW : (rest.map fun v => v.category).sum ≤ 8) (hdg : decode cc pc = .ok (.invokevirtual 73, 3)) (kk : W p l e R s m args below meth c H locs cells slots Q (F0 m (pc + 3) ls (.int z :: rest))) : W p l e R s m args below meth c H locs cells slots Q (F0 m pc ls (.int x1 :: .ref (ad 0) :: rest)) := callO (runV F yv_X2_thingsIn_X2 (c_X2_thingsIn h) hw.1 hw.2.1 hw.2.2.1 rfl rfl rfl ⟨rfl, rfl⟩ hR hcs rfl hsz rfl hW hdg) kk
def rmX2_thingsInAll : Room := { frames := 3, cells := 0, slots := 0, locals := 63 }
noncomputable def f_X2_thingsInAll_4 : Nat → Int32 → Int32 → SS → Option (Int32)
  | 0, _, _, _ => none
  | n + 1, x1, x2, u => (if (8 : Int32) ≤ x2 then some x1 else (f_X2_thingsIn x2 u).bind (fun z2 => f_X2_thingsInAll_4 n (x1 + z2) (x2 + 1) u))
noncomputable def f_X2_thingsInAll (u : SS) : Option (Int32) := f_X2_thingsInAll_4 NF 0 0 u
section
variable {p : Program} {l : Launch} {e : Env} {s : State} {m : MethodId} {args : Array Value} {below : List Frame} {meth : Method} {c : Code}
variable {G : GX} {A : Nat → Prop} {ad : Nat → Nat} 
set_option maxHeartbeats 4000000 in
set_option maxRecDepth 100000 in
theorem w_X2_thingsInAll_4 (F : FX p m c cX2_thingsInAll 3 s args yX2_thingsInAll (some .int) RX2 meth) {z : Int32} : ∀ (n : Nat) (x1 : Int32) (x2 : Int32) (u : SS) (ls : Array Slot), WD G A s (sw G ad u) s.heap [] → lv_has ls 3 [(0, .ref (ad 0)), (1, .int x1), (2, .int x2)] → f_X2_thingsInAll_4 n x1 x2 u = some z → W p l e rmX2_thingsInAll s m args below meth c s.heap [] 0 0 (MQ below (QO (some (.int z))) args s 0 0 (fun _ => False)) (F0 m 4 ls []) := by
  obtain ⟨⟨hx, hb, hml, hown, hts⟩, hr, hlocks⟩ := id F
  intro n
  induction n with
  | zero =>
    intro x1 x2 u ls hw hl h
    rw [f_X2_thingsInAll_4] at h
    cases h
  | succ n ih =>
    intro x1 x2 u ls hw hl h
    rw [f_X2_thingsInAll_4] at h
    refine lv_iload_n hx hb dX2_thingsInAll_4 rfl (lv_at hl 2 rfl) ?_
    refine lv_bipush (v := 8) hx hb dX2_thingsInAll_5 rfl ?_
    refine lv_icmp_ge (tgt := 24) hx hb dX2_thingsInAll_7 rfl (fun c1 => ?_) (fun c1 => ?_)
    · replace h := itT h c1
      refine lv_iload_n hx hb dX2_thingsInAll_24 rfl (lv_at hl 1 rfl) ?_
      cases h
      exact retO_i F dX2_thingsInAll_25
    · replace h := itF h c1
      refine lv_iload_n hx hb dX2_thingsInAll_10 rfl (lv_at hl 1 rfl) ?_
      refine lv_aload_n hx hb dX2_thingsInAll_11 rfl (lv_at hl 0 rfl) ?_
      refine lv_iload_n hx hb dX2_thingsInAll_12 rfl (lv_at hl 2 rfl) ?_
      obtain ⟨z2, e3, h⟩ := bnd h
      refine k_X2_thingsIn_s_ F hw e3 ⟨Nat.le_of_ble_eq_true rfl, Nat.le_of_ble_eq_true rfl⟩ ⟨Nat.zero_le _, Nat.zero_le _⟩ hl.1 (Nat.le_of_ble_eq_true rfl) dX2_thingsInAll_13 ?_
      refine lv_iadd hx hb dX2_thingsInAll_16 ?_
      refine lv_istore_n (lv' := [(1, .int (x1 + z2)), (0, .ref (ad 0)), (2, .int x2)]) hx hb dX2_thingsInAll_17 rfl hl (by decide) rfl (fun ls hl => ?_)
      refine lv_iinc (v := (x2 + 1)) (lv' := [(2, .int (x2 + 1)), (1, .int (x1 + z2)), (0, .ref (ad 0))]) hx hb dX2_thingsInAll_18 hl (k := 2) rfl rfl (by decide) rfl (fun ls hl => ?_)
      refine lv_goto (tgt := 4) hx hb dX2_thingsInAll_21 rfl ?_
      exact ih _ _ _ _ hw (lv_sub hl [2, 1, 0] rfl) h
set_option maxHeartbeats 4000000 in
set_option maxRecDepth 100000 in
theorem w_X2_thingsInAll_0 (F : FX p m c cX2_thingsInAll 3 s args yX2_thingsInAll (some .int) RX2 meth) {z : Int32} : ∀ (u : SS) (ls : Array Slot), WD G A s (sw G ad u) s.heap [] → lv_has ls 3 [(0, .ref (ad 0))] → f_X2_thingsInAll u = some z → W p l e rmX2_thingsInAll s m args below meth c s.heap [] 0 0 (MQ below (QO (some (.int z))) args s 0 0 (fun _ => False)) (F0 m 0 ls []) := by
  obtain ⟨⟨hx, hb, hml, hown, hts⟩, hr, hlocks⟩ := id F
  intro u ls hw hl h
  unfold f_X2_thingsInAll at h
  refine lv_iconst (v := 0) hx hb dX2_thingsInAll_0 rfl ?_
  refine lv_istore_n (lv' := [(1, .int 0), (0, .ref (ad 0))]) hx hb dX2_thingsInAll_1 rfl hl (by decide) rfl (fun ls hl => ?_)
  refine lv_iconst (v := 0) hx hb dX2_thingsInAll_2 rfl ?_
  refine lv_istore_n (lv' := [(2, .int 0), (1, .int 0), (0, .ref (ad 0))]) hx hb dX2_thingsInAll_3 rfl hl (by decide) rfl (fun ls hl => ?_)
  exact w_X2_thingsInAll_4 F NF _ _ _ _ hw (lv_sub hl [2, 1, 0] rfl) h
end
theorem c_X2_thingsInAll {l : Launch} {G : GX} {ad : Nat → Nat} {u : SS} {z : Int32} (h : f_X2_thingsInAll u = some z) : MO l yX2_thingsInAll cX2_thingsInAll 3 (some .int) rmX2_thingsInAll G (sw G ad u) [.ref (ad 0)] (some (.int z)) := MO.of (by decide) (Nat.le_of_ble_eq_true rfl) (fun p e s m below meth c ls F hw hl => w_X2_thingsInAll_0 F  _ _ hw hl h)
/-! ===== X2_labelAt ===== -/
theorem dX2_labelAt_0 : decode cX2_labelAt 0 = .ok (.iload_n 1, 1) := by decide +kernel
theorem dX2_labelAt_1 : decode cX2_labelAt 1 = .ok (.ifCond .lt 27, 3) := by decide +kernel
theorem dX2_labelAt_4 : decode cX2_labelAt 4 = .ok (.iload_n 1, 1) := by decide +kernel
theorem dX2_labelAt_5 : decode cX2_labelAt 5 = .ok (.sipush 600, 3) := by decide +kernel
theorem dX2_labelAt_8 : decode cX2_labelAt 8 = .ok (.if_icmp .ge 20, 3) := by decide +kernel
theorem dX2_labelAt_11 : decode cX2_labelAt 11 = .ok (.aload_n 0, 1) := by decide +kernel
theorem dX2_labelAt_12 : decode cX2_labelAt 12 = .ok (.getfield 35, 3) := by decide +kernel
theorem dX2_labelAt_15 : decode cX2_labelAt 15 = .ok (.aload_n 0, 1) := by decide +kernel
theorem dX2_labelAt_16 : decode cX2_labelAt 16 = .ok (.getfield 12, 3) := by decide +kernel
theorem dX2_labelAt_19 : decode cX2_labelAt 19 = .ok (.getfield 104, 3) := by decide +kernel
theorem dX2_labelAt_22 : decode cX2_labelAt 22 = .ok (.iload_n 1, 1) := by decide +kernel
theorem dX2_labelAt_23 : decode cX2_labelAt 23 = .ok (.iaload, 1) := by decide +kernel
theorem dX2_labelAt_24 : decode cX2_labelAt 24 = .ok (.laload, 1) := by decide +kernel
theorem dX2_labelAt_25 : decode cX2_labelAt 25 = .ok (.goto 6, 3) := by decide +kernel
theorem dX2_labelAt_28 : decode cX2_labelAt 28 = .ok (.ldc2_w 79, 3) := by decide +kernel
theorem dX2_labelAt_31 : decode cX2_labelAt 31 = .ok (.lreturn, 1) := by decide +kernel
theorem s_g0_5 {p : Program} {l : Launch} {e : Env} {R : Room} {s : State} {m : MethodId} {args : Array Value} {below : List Frame} {meth : Method} {c : Code} {H : Heap} {locs : List Loc} {cells slots : Nat} {Q : State → Prop} {G : GX} {A : Nat → Prop} {ad : Nat → Nat} {u : SS} {cc : ByteArray} {nL pc : Nat} {y : MethodName} {ret : Option FieldType} {ls : Array Slot} {rest : List Value} (F : FX p m c cc nL s args y ret RX2 meth) (hw : WD G A s (sw G ad u) H locs) (hdg : decode cc pc = .ok (.getfield 35, 3)) (kk : W p l e R s m args below meth c H locs cells slots Q (F0 m (pc + 3) ls (.ref (ad 12) :: rest))) : W p l e R s m args below meth c H locs cells slots Q (F0 m pc ls (.ref (ad 0) :: rest)) := va_get (D := G.1) (ci := 2) (C := RX2) (T := TX2) (N := 8) (Ts := lw_gt) F.1.1 F.1.2.1 (fun _ h => F.tb h) inX2 F.1.2.2.2.1 hw.1.1 hw.2.1 0 rfl rfl 5 (by decide) (F.tb (tw 77 (by decide +kernel) rfl)) (fun _ h9 => h9) rfl hdg kk
theorem s_g1_0 {p : Program} {l : Launch} {e : Env} {R : Room} {s : State} {m : MethodId} {args : Array Value} {below : List Frame} {meth : Method} {c : Code} {H : Heap} {locs : List Loc} {cells slots : Nat} {Q : State → Prop} {G : GX} {A : Nat → Prop} {ad : Nat → Nat} {u : SS} {cc : ByteArray} {nL pc : Nat} {y : MethodName} {ret : Option FieldType} {ls : Array Slot} {rest : List Value} (F : FX p m c cc nL s args y ret RX2 meth) (hw : WD G A s (sw G ad u) H locs) (hdg : decode cc pc = .ok (.getfield 104, 3)) (kk : W p l e R s m args below meth c H locs cells slots Q (F0 m (pc + 3) ls (.ref (ad 2) :: rest))) : W p l e R s m args below meth c H locs cells slots Q (F0 m pc ls (.ref (ad 1) :: rest)) := va_get (D := G.1) (ci := 1) (C := RX1) (T := TX1) (N := 3) (Ts := lw_gt) F.1.1 F.1.2.1 (fun _ h => F.tb h) inX1 F.1.2.2.2.1 hw.1.1 hw.2.1 1 rfl rfl 0 (by decide) (F.tb (tw 34 (by decide +kernel) rfl)) (fun _ h9 => h9) rfl hdg kk
theorem s_l2 {i : Int32} {p : Program} {l : Launch} {e : Env} {R : Room} {s : State} {m : MethodId} {args : Array Value} {below : List Frame} {meth : Method} {c : Code} {H : Heap} {locs : List Loc} {cells slots : Nat} {Q : State → Prop} {G : GX} {A : Nat → Prop} {ad : Nat → Nat} {u : SS} {cc : ByteArray} {nL pc : Nat} {y : MethodName} {ret : Option FieldType} {ls : Array Slot} {rest : List Value} (F : FX p m c cc nL s args y ret RX2 meth) (hw : WD G A s (sw G ad u) H locs) (hi : ix i 600 = true) (hdg : decode cc pc = .ok (.iaload, 1)) (kk : W p l e R s m args below meth c H locs cells slots Q (F0 m (pc + 1) ls (.int ((u.1 1) i.toNatClampNeg) :: rest))) : W p l e R s m args below meth c H locs cells slots Q (F0 m pc ls (.int i :: .ref (ad 2) :: rest)) := va_iald F.1.1 F.1.2.1 hw.1.1 hw.2.1 2 0 rfl rfl (ix_in hi) hdg kk
theorem s_l12 {i : Int32} {p : Program} {l : Launch} {e : Env} {R : Room} {s : State} {m : MethodId} {args : Array Value} {below : List Frame} {meth : Method} {c : Code} {H : Heap} {locs : List Loc} {cells slots : Nat} {Q : State → Prop} {G : GX} {A : Nat → Prop} {ad : Nat → Nat} {u : SS} {cc : ByteArray} {nL pc : Nat} {y : MethodName} {ret : Option FieldType} {ls : Array Slot} {rest : List Value} (F : FX p m c cc nL s args y ret RX2 meth) (hw : WD G A s (sw G ad u) H locs) (hi : ix i 600 = true) (hdg : decode cc pc = .ok (.laload, 1)) (kk : W p l e R s m args below meth c H locs cells slots Q (F0 m (pc + 1) ls (.long (u.2.2.2.1 i.toNatClampNeg) :: rest))) : W p l e R s m args below meth c H locs cells slots Q (F0 m pc ls (.int i :: .ref (ad 12) :: rest)) := va_lald F.1.1 F.1.2.1 hw.1.1 hw.2.1 12 1 rfl rfl (ix_in hi) hdg kk
def rmX2_labelAt : Room := { frames := 0, cells := 0, slots := 0, locals := 0 }
noncomputable def f_X2_labelAt (x1 : Int32) (u : SS) : Option (Int64) := (if x1 < 0 then some (-1) else (if (600 : Int32) ≤ x1 then some (-1) else (if ix x1 600 = true then (if ix ((u.1 1) (Int32.toNatClampNeg x1)) 600 = true then some (u.2.2.2.1 (Int32.toNatClampNeg ((u.1 1) (Int32.toNatClampNeg x1)))) else none) else none)))
section
variable {p : Program} {l : Launch} {e : Env} {s : State} {m : MethodId} {args : Array Value} {below : List Frame} {meth : Method} {c : Code}
variable {G : GX} {A : Nat → Prop} {ad : Nat → Nat} 
set_option maxHeartbeats 4000000 in
set_option maxRecDepth 100000 in
theorem w_X2_labelAt_0 (F : FX p m c cX2_labelAt 2 s args yX2_labelAt (some .long) RX2 meth) {z : Int64} : ∀ (x1 : Int32) (u : SS) (ls : Array Slot), WD G A s (sw G ad u) s.heap [] → lv_has ls 2 [(0, .ref (ad 0)), (1, .int x1)] → f_X2_labelAt x1 u = some z → W p l e rmX2_labelAt s m args below meth c s.heap [] 0 0 (MQ below (QO (some (.long z))) args s 0 0 (fun _ => False)) (F0 m 0 ls []) := by
  obtain ⟨⟨hx, hb, hml, hown, hts⟩, hr, hlocks⟩ := id F
  intro x1 u ls hw hl h
  unfold f_X2_labelAt at h
  refine lv_iload_n hx hb dX2_labelAt_0 rfl (lv_at hl 1 rfl) ?_
  refine lv_if_lt (tgt := 28) hx hb dX2_labelAt_1 rfl (fun c1 => ?_) (fun c1 => ?_)
  · replace h := itT h c1
    refine lv_ldc2 (own := RX2) (v := (-1)) hx hb hown (F.tb (tw 236 (by decide +kernel) rfl)) dX2_labelAt_28 ?_
    cases h
    exact retO_l F dX2_labelAt_31
  · replace h := itF h c1
    refine lv_iload_n hx hb dX2_labelAt_4 rfl (lv_at hl 1 rfl) ?_
    refine lv_sipush (v := 600) hx hb dX2_labelAt_5 rfl ?_
    refine lv_icmp_ge (tgt := 28) hx hb dX2_labelAt_8 rfl (fun c2 => ?_) (fun c2 => ?_)
    · replace h := itT h c2
      refine lv_ldc2 (own := RX2) (v := (-1)) hx hb hown (F.tb (tw 236 (by decide +kernel) rfl)) dX2_labelAt_28 ?_
      cases h
      exact retO_l F dX2_labelAt_31
    · replace h := itF h c2
      refine lv_aload_n hx hb dX2_labelAt_11 rfl (lv_at hl 0 rfl) ?_
      refine s_g0_5 F hw dX2_labelAt_12 ?_
      refine lv_aload_n hx hb dX2_labelAt_15 rfl (lv_at hl 0 rfl) ?_
      refine s_g0_0 F hw dX2_labelAt_16 ?_
      refine s_g1_0 F hw dX2_labelAt_19 ?_
      refine lv_iload_n hx hb dX2_labelAt_22 rfl (lv_at hl 1 rfl) ?_
      obtain ⟨g3, h⟩ := gd h
      refine s_l2 F hw g3 dX2_labelAt_23 ?_
      obtain ⟨g4, h⟩ := gd h
      refine s_l12 F hw g4 dX2_labelAt_24 ?_
      refine lv_goto (tgt := 31) hx hb dX2_labelAt_25 rfl ?_
      cases h
      exact retO_l F dX2_labelAt_31
end
theorem c_X2_labelAt {l : Launch} {G : GX} {ad : Nat → Nat} {x1 : Int32} {u : SS} {z : Int64} (h : f_X2_labelAt x1 u = some z) : MO l yX2_labelAt cX2_labelAt 2 (some .long) rmX2_labelAt G (sw G ad u) [.ref (ad 0), .int x1] (some (.long z)) := MO.of (by decide) (Nat.le_of_ble_eq_true rfl) (fun p e s m below meth c ls F hw hl => w_X2_labelAt_0 F _ _ _ hw hl h)
/-! ===== X2_blocksIn ===== -/
theorem dX2_blocksIn_0 : decode cX2_blocksIn 0 = .ok (.aload_n 0, 1) := by decide +kernel
theorem dX2_blocksIn_1 : decode cX2_blocksIn 1 = .ok (.iload_n 1, 1) := by decide +kernel
theorem dX2_blocksIn_2 : decode cX2_blocksIn 2 = .ok (.invokevirtual 76, 3) := by decide +kernel
theorem dX2_blocksIn_5 : decode cX2_blocksIn 5 = .ok (.ifCond .ne 5, 3) := by decide +kernel
theorem dX2_blocksIn_8 : decode cX2_blocksIn 8 = .ok (.iconst 0, 1) := by decide +kernel
theorem dX2_blocksIn_9 : decode cX2_blocksIn 9 = .ok (.ireturn, 1) := by decide +kernel
theorem dX2_blocksIn_10 : decode cX2_blocksIn 10 = .ok (.iconst 0, 1) := by decide +kernel
theorem dX2_blocksIn_11 : decode cX2_blocksIn 11 = .ok (.istore_n 2, 1) := by decide +kernel
theorem dX2_blocksIn_12 : decode cX2_blocksIn 12 = .ok (.ldc2_w 79, 3) := by decide +kernel
theorem dX2_blocksIn_15 : decode cX2_blocksIn 15 = .ok (.lstore_n 3, 1) := by decide +kernel
theorem dX2_blocksIn_16 : decode cX2_blocksIn 16 = .ok (.aload_n 0, 1) := by decide +kernel
theorem dX2_blocksIn_17 : decode cX2_blocksIn 17 = .ok (.getfield 12, 3) := by decide +kernel
theorem dX2_blocksIn_20 : decode cX2_blocksIn 20 = .ok (.iload_n 1, 1) := by decide +kernel
theorem dX2_blocksIn_21 : decode cX2_blocksIn 21 = .ok (.invokevirtual 81, 3) := by decide +kernel
theorem dX2_blocksIn_24 : decode cX2_blocksIn 24 = .ok (.istore 5, 2) := by decide +kernel
theorem dX2_blocksIn_26 : decode cX2_blocksIn 26 = .ok (.iload 5, 2) := by decide +kernel
theorem dX2_blocksIn_28 : decode cX2_blocksIn 28 = .ok (.aload_n 0, 1) := by decide +kernel
theorem dX2_blocksIn_29 : decode cX2_blocksIn 29 = .ok (.getfield 12, 3) := by decide +kernel
theorem dX2_blocksIn_32 : decode cX2_blocksIn 32 = .ok (.iload_n 1, 1) := by decide +kernel
theorem dX2_blocksIn_33 : decode cX2_blocksIn 33 = .ok (.invokevirtual 84, 3) := by decide +kernel
theorem dX2_blocksIn_36 : decode cX2_blocksIn 36 = .ok (.if_icmp .ge 30, 3) := by decide +kernel
theorem dX2_blocksIn_39 : decode cX2_blocksIn 39 = .ok (.aload_n 0, 1) := by decide +kernel
theorem dX2_blocksIn_40 : decode cX2_blocksIn 40 = .ok (.iload 5, 2) := by decide +kernel
theorem dX2_blocksIn_42 : decode cX2_blocksIn 42 = .ok (.invokevirtual 87, 3) := by decide +kernel
theorem dX2_blocksIn_45 : decode cX2_blocksIn 45 = .ok (.lload_n 3, 1) := by decide +kernel
theorem dX2_blocksIn_46 : decode cX2_blocksIn 46 = .ok (.lcmp, 1) := by decide +kernel
theorem dX2_blocksIn_47 : decode cX2_blocksIn 47 = .ok (.ifCond .eq 6, 3) := by decide +kernel
theorem dX2_blocksIn_50 : decode cX2_blocksIn 50 = .ok (.iinc 2 1, 3) := by decide +kernel
theorem dX2_blocksIn_53 : decode cX2_blocksIn 53 = .ok (.aload_n 0, 1) := by decide +kernel
theorem dX2_blocksIn_54 : decode cX2_blocksIn 54 = .ok (.iload 5, 2) := by decide +kernel
theorem dX2_blocksIn_56 : decode cX2_blocksIn 56 = .ok (.invokevirtual 87, 3) := by decide +kernel
theorem dX2_blocksIn_59 : decode cX2_blocksIn 59 = .ok (.lstore_n 3, 1) := by decide +kernel
theorem dX2_blocksIn_60 : decode cX2_blocksIn 60 = .ok (.iinc 5 1, 3) := by decide +kernel
theorem dX2_blocksIn_63 : decode cX2_blocksIn 63 = .ok (.goto (-37), 3) := by decide +kernel
theorem dX2_blocksIn_66 : decode cX2_blocksIn 66 = .ok (.iload_n 2, 1) := by decide +kernel
theorem dX2_blocksIn_67 : decode cX2_blocksIn 67 = .ok (.ireturn, 1) := by decide +kernel
theorem yv_X2_hasBlocks_X2 : YV RX2 76 yX2_hasBlocks cX2_hasBlocks 2 (some .boolean) 1 := ⟨(tw 240 (by decide +kernel) rfl), (tw 2 (by decide +kernel) rfl), (tw 237 (by decide +kernel) rfl), (tw 238 (by decide +kernel) rfl), (tw 239 (by decide +kernel) rfl), by decide +kernel⟩
theorem k_X2_hasBlocks_s_ {p : Program} {l : Launch} {e : Env} {R : Room} {s : State} {m : MethodId} {args : Array Value} {below : List Frame} {meth : Method} {c : Code} {H : Heap} {locs : List Loc} {cells slots : Nat} {Q : State → Prop} {G : GX} {A : Nat → Prop} {ad : Nat → Nat} {u : SS} {cc : ByteArray} {nL pc : Nat} {y : MethodName} {ret : Option FieldType} {ls : Array Slot} {rest : List Value} {x1 : Int32} {z : Int32} (F : FX p m c cc nL s args y ret RX2 meth) (hw : WD G A s (sw G ad u) H locs) (h : f_X2_hasBlocks x1 u = some z) (hR : rmX2_hasBlocks.frames + 1 ≤ R.frames ∧ 8 + (2 + 11) + rmX2_hasBlocks.locals ≤ R.locals) (hcs : cells ≤ R.cells ∧ slots ≤ R.slots) (hsz : ls.size = nL) (hW : (rest.map fun v => v.category).sum ≤ 8) (hdg : decode cc pc = .ok (.invokevirtual 76, 3)) (kk : W p l e R s m args below meth c H locs cells slots Q (F0 m (pc + 3) ls (.int z :: rest))) : W p l e R s m args below meth c H locs cells slots Q (F0 m pc ls (.int x1 :: .ref (ad 0) :: rest)) := callO (runV F yv_X2_hasBlocks_X2 (c_X2_hasBlocks h) hw.1 hw.2.1 hw.2.2.1 rfl rfl rfl ⟨rfl, rfl⟩ hR hcs rfl hsz rfl hW hdg) kk
theorem yv_X1_first_X2 : YV RX2 81 yX1_first cX1_first 2 (some .int) 1 := ⟨(tw 206 (by decide +kernel) rfl), (tw 3 (by decide +kernel) rfl), (tw 203 (by decide +kernel) rfl), (tw 204 (by decide +kernel) rfl), (tw 205 (by decide +kernel) rfl), by decide +kernel⟩
theorem k_X1_first_s_ {p : Program} {l : Launch} {e : Env} {R : Room} {s : State} {m : MethodId} {args : Array Value} {below : List Frame} {meth : Method} {c : Code} {H : Heap} {locs : List Loc} {cells slots : Nat} {Q : State → Prop} {G : GX} {A : Nat → Prop} {ad : Nat → Nat} {u : SS} {cc : ByteArray} {nL pc : Nat} {y : MethodName} {ret : Option FieldType} {ls : Array Slot} {rest : List Value} {x1 : Int32} {z : Int32} (F : FX p m c cc nL s args y ret RX2 meth) (hw : WD G A s (sw G ad u) H locs) (h : f_X1_first x1 u.1 = some z) (hR : rmX1_first.frames + 1 ≤ R.frames ∧ 8 + (2 + 11) + rmX1_first.locals ≤ R.locals) (hcs : cells ≤ R.cells ∧ slots ≤ R.slots) (hsz : ls.size = nL) (hW : (rest.map fun v => v.category).sum ≤ 8) (hdg : decode cc pc = .ok (.invokevirtual 81, 3)) (kk : W p l e R s m args below meth c H locs cells slots Q (F0 m (pc + 3) ls (.int z :: rest))) : W p l e R s m args below meth c H locs cells slots Q (F0 m pc ls (.int x1 :: .ref (ad 1) :: rest)) := callO (runV F yv_X1_first_X2 (c_X1_first h (ad := (fun k => ad (k + 1)))) hw.1 (hw.2.1.sub [1, 2, 3, 4] rfl) (hw.2.2.1.sub [1, 2, 3, 4] (by decide) rfl) rfl rfl rfl ⟨rfl, rfl⟩ hR hcs rfl hsz rfl hW hdg) kk
theorem yv_X1_end_X2 : YV RX2 84 yX1_end cX1_end 2 (some .int) 1 := ⟨(tw 219 (by decide +kernel) rfl), (tw 3 (by decide +kernel) rfl), (tw 254 (by decide +kernel) rfl), (tw 217 (by decide +kernel) rfl), (tw 218 (by decide +kernel) rfl), by decide +kernel⟩
theorem k_X1_end_s_ {p : Program} {l : Launch} {e : Env} {R : Room} {s : State} {m : MethodId} {args : Array Value} {below : List Frame} {meth : Method} {c : Code} {H : Heap} {locs : List Loc} {cells slots : Nat} {Q : State → Prop} {G : GX} {A : Nat → Prop} {ad : Nat → Nat} {u : SS} {cc : ByteArray} {nL pc : Nat} {y : MethodName} {ret : Option FieldType} {ls : Array Slot} {rest : List Value} {x1 : Int32} {z : Int32} (F : FX p m c cc nL s args y ret RX2 meth) (hw : WD G A s (sw G ad u) H locs) (h : f_X1_end x1 u.1 = some z) (hR : rmX1_end.frames + 1 ≤ R.frames ∧ 8 + (2 + 11) + rmX1_end.locals ≤ R.locals) (hcs : cells ≤ R.cells ∧ slots ≤ R.slots) (hsz : ls.size = nL) (hW : (rest.map fun v => v.category).sum ≤ 8) (hdg : decode cc pc = .ok (.invokevirtual 84, 3)) (kk : W p l e R s m args below meth c H locs cells slots Q (F0 m (pc + 3) ls (.int z :: rest))) : W p l e R s m args below meth c H locs cells slots Q (F0 m pc ls (.int x1 :: .ref (ad 1) :: rest)) := callO (runV F yv_X1_end_X2 (c_X1_end h (ad := (fun k => ad (k + 1)))) hw.1 (hw.2.1.sub [1, 2, 3, 4] rfl) (hw.2.2.1.sub [1, 2, 3, 4] (by decide) rfl) rfl rfl rfl ⟨rfl, rfl⟩ hR hcs rfl hsz rfl hW hdg) kk
theorem yv_X2_labelAt_X2 : YV RX2 87 yX2_labelAt cX2_labelAt 2 (some .long) 1 := ⟨(tw 253 (by decide +kernel) rfl), (tw 2 (by decide +kernel) rfl), (tw 250 (by decide +kernel) rfl), (tw 251 (by decide +kernel) rfl), (tw 252 (by decide +kernel) rfl), by decide +kernel⟩
theorem k_X2_labelAt_s_ {p : Program} {l : Launch} {e : Env} {R : Room} {s : State} {m : MethodId} {args : Array Value} {below : List Frame} {meth : Method} {c : Code} {H : Heap} {locs : List Loc} {cells slots : Nat} {Q : State → Prop} {G : GX} {A : Nat → Prop} {ad : Nat → Nat} {u : SS} {cc : ByteArray} {nL pc : Nat} {y : MethodName} {ret : Option FieldType} {ls : Array Slot} {rest : List Value} {x1 : Int32} {z : Int64} (F : FX p m c cc nL s args y ret RX2 meth) (hw : WD G A s (sw G ad u) H locs) (h : f_X2_labelAt x1 u = some z) (hR : rmX2_labelAt.frames + 1 ≤ R.frames ∧ 8 + (2 + 11) + rmX2_labelAt.locals ≤ R.locals) (hcs : cells ≤ R.cells ∧ slots ≤ R.slots) (hsz : ls.size = nL) (hW : (rest.map fun v => v.category).sum ≤ 8) (hdg : decode cc pc = .ok (.invokevirtual 87, 3)) (kk : W p l e R s m args below meth c H locs cells slots Q (F0 m (pc + 3) ls (.long z :: rest))) : W p l e R s m args below meth c H locs cells slots Q (F0 m pc ls (.int x1 :: .ref (ad 0) :: rest)) := callO (runV F yv_X2_labelAt_X2 (c_X2_labelAt h) hw.1 hw.2.1 hw.2.2.1 rfl rfl rfl ⟨rfl, rfl⟩ hR hcs rfl hsz rfl hW hdg) kk
def rmX2_blocksIn : Room := { frames := 2, cells := 0, slots := 0, locals := 42 }
noncomputable def f_X2_blocksIn_26 : Nat → Int32 → Int32 → Int64 → Int32 → SS → Option (Int32)
  | 0, _, _, _, _, _ => none
  | n + 1, x1, x2, x3, x5, u => (f_X1_end x1 u.1).bind (fun z6 => (if z6 ≤ x5 then some x2 else (f_X2_labelAt x5 u).bind (fun z9 => (if (lg_cmp z9 x3) = 0 then (f_X2_labelAt x5 u).bind (fun z12 => f_X2_blocksIn_26 n x1 x2 z12 (x5 + 1) u) else (f_X2_labelAt x5 u).bind (fun z14 => f_X2_blocksIn_26 n x1 (x2 + 1) z14 (x5 + 1) u)))))
noncomputable def f_X2_blocksIn (x1 : Int32) (u : SS) : Option (Int32) := (f_X2_hasBlocks x1 u).bind (fun z1 => (if z1 = 0 then some 0 else (f_X1_first x1 u.1).bind (fun z4 => f_X2_blocksIn_26 NF x1 0 (-1) z4 u)))
section
variable {p : Program} {l : Launch} {e : Env} {s : State} {m : MethodId} {args : Array Value} {below : List Frame} {meth : Method} {c : Code}
variable {G : GX} {A : Nat → Prop} {ad : Nat → Nat} 
set_option maxHeartbeats 4000000 in
set_option maxRecDepth 100000 in
theorem w_X2_blocksIn_26 (F : FX p m c cX2_blocksIn 6 s args yX2_blocksIn (some .int) RX2 meth) {z : Int32} : ∀ (n : Nat) (x1 : Int32) (x2 : Int32) (x3 : Int64) (x5 : Int32) (u : SS) (ls : Array Slot), WD G A s (sw G ad u) s.heap [] → lv_has ls 6 [(0, .ref (ad 0)), (1, .int x1), (2, .int x2), (3, .long x3), (5, .int x5)] → f_X2_blocksIn_26 n x1 x2 x3 x5 u = some z → W p l e rmX2_blocksIn s m args below meth c s.heap [] 0 0 (MQ below (QO (some (.int z))) args s 0 0 (fun _ => False)) (F0 m 26 ls []) := by
  obtain ⟨⟨hx, hb, hml, hown, hts⟩, hr, hlocks⟩ := id F
  intro n
  induction n with
  | zero =>
    intro x1 x2 x3 x5 u ls hw hl h
    rw [f_X2_blocksIn_26] at h
    cases h
  | succ n ih =>
    intro x1 x2 x3 x5 u ls hw hl h
    rw [f_X2_blocksIn_26] at h
    refine lv_iload hx hb dX2_blocksIn_26 (lv_at hl 4 rfl) ?_
    refine lv_aload_n hx hb dX2_blocksIn_28 rfl (lv_at hl 0 rfl) ?_
    refine s_g0_0 F hw dX2_blocksIn_29 ?_
    refine lv_iload_n hx hb dX2_blocksIn_32 rfl (lv_at hl 1 rfl) ?_
    obtain ⟨z6, e7, h⟩ := bnd h
    refine k_X1_end_s_ F hw e7 ⟨Nat.le_of_ble_eq_true rfl, Nat.le_of_ble_eq_true rfl⟩ ⟨Nat.zero_le _, Nat.zero_le _⟩ hl.1 (Nat.le_of_ble_eq_true rfl) dX2_blocksIn_33 ?_
    refine lv_icmp_ge (tgt := 66) hx hb dX2_blocksIn_36 rfl (fun c8 => ?_) (fun c8 => ?_)
    · replace h := itT h c8
      refine lv_iload_n hx hb dX2_blocksIn_66 rfl (lv_at hl 2 rfl) ?_
      cases h
      exact retO_i F dX2_blocksIn_67
    · replace h := itF h c8
      refine lv_aload_n hx hb dX2_blocksIn_39 rfl (lv_at hl 0 rfl) ?_
      refine lv_iload hx hb dX2_blocksIn_40 (lv_at hl 4 rfl) ?_
      obtain ⟨z9, e10, h⟩ := bnd h
      refine k_X2_labelAt_s_ F hw e10 ⟨Nat.le_of_ble_eq_true rfl, Nat.le_of_ble_eq_true rfl⟩ ⟨Nat.zero_le _, Nat.zero_le _⟩ hl.1 (Nat.le_of_ble_eq_true rfl) dX2_blocksIn_42 ?_
      refine lv_lload_n hx hb dX2_blocksIn_45 rfl (lv_at hl 3 rfl) ?_
      refine W.lcmp hx hb dX2_blocksIn_46 ?_
      refine lv_if_eq (tgt := 53) hx hb dX2_blocksIn_47 rfl (fun c11 => ?_) (fun c11 => ?_)
      · replace h := itT h c11
        refine lv_aload_n hx hb dX2_blocksIn_53 rfl (lv_at hl 0 rfl) ?_
        refine lv_iload hx hb dX2_blocksIn_54 (lv_at hl 4 rfl) ?_
        obtain ⟨z12, e13, h⟩ := bnd h
        refine k_X2_labelAt_s_ F hw e13 ⟨Nat.le_of_ble_eq_true rfl, Nat.le_of_ble_eq_true rfl⟩ ⟨Nat.zero_le _, Nat.zero_le _⟩ hl.1 (Nat.le_of_ble_eq_true rfl) dX2_blocksIn_56 ?_
        refine lv_lstore_n (lv' := [(3, .long z12), (0, .ref (ad 0)), (1, .int x1), (2, .int x2), (5, .int x5)]) hx hb dX2_blocksIn_59 rfl hl (by decide) rfl (fun ls hl => ?_)
        refine lv_iinc (v := (x5 + 1)) (lv' := [(5, .int (x5 + 1)), (3, .long z12), (0, .ref (ad 0)), (1, .int x1), (2, .int x2)]) hx hb dX2_blocksIn_60 hl (k := 4) rfl rfl (by decide) rfl (fun ls hl => ?_)
        refine lv_goto (tgt := 26) hx hb dX2_blocksIn_63 rfl ?_
        exact ih _ _ _ _ _ _ hw (lv_sub hl [2, 3, 4, 1, 0] rfl) h
      · replace h := itF h c11
        refine lv_iinc (v := (x2 + 1)) (lv' := [(2, .int (x2 + 1)), (0, .ref (ad 0)), (1, .int x1), (3, .long x3), (5, .int x5)]) hx hb dX2_blocksIn_50 hl (k := 2) rfl rfl (by decide) rfl (fun ls hl => ?_)
        refine lv_aload_n hx hb dX2_blocksIn_53 rfl (lv_at hl 1 rfl) ?_
        refine lv_iload hx hb dX2_blocksIn_54 (lv_at hl 4 rfl) ?_
        obtain ⟨z14, e15, h⟩ := bnd h
        refine k_X2_labelAt_s_ F hw e15 ⟨Nat.le_of_ble_eq_true rfl, Nat.le_of_ble_eq_true rfl⟩ ⟨Nat.zero_le _, Nat.zero_le _⟩ hl.1 (Nat.le_of_ble_eq_true rfl) dX2_blocksIn_56 ?_
        refine lv_lstore_n (lv' := [(3, .long z14), (2, .int (x2 + 1)), (0, .ref (ad 0)), (1, .int x1), (5, .int x5)]) hx hb dX2_blocksIn_59 rfl hl (by decide) rfl (fun ls hl => ?_)
        refine lv_iinc (v := (x5 + 1)) (lv' := [(5, .int (x5 + 1)), (3, .long z14), (2, .int (x2 + 1)), (0, .ref (ad 0)), (1, .int x1)]) hx hb dX2_blocksIn_60 hl (k := 4) rfl rfl (by decide) rfl (fun ls hl => ?_)
        refine lv_goto (tgt := 26) hx hb dX2_blocksIn_63 rfl ?_
        exact ih _ _ _ _ _ _ hw (lv_sub hl [3, 4, 2, 1, 0] rfl) h
set_option maxHeartbeats 4000000 in
set_option maxRecDepth 100000 in
theorem w_X2_blocksIn_0 (F : FX p m c cX2_blocksIn 6 s args yX2_blocksIn (some .int) RX2 meth) {z : Int32} : ∀ (x1 : Int32) (u : SS) (ls : Array Slot), WD G A s (sw G ad u) s.heap [] → lv_has ls 6 [(0, .ref (ad 0)), (1, .int x1)] → f_X2_blocksIn x1 u = some z → W p l e rmX2_blocksIn s m args below meth c s.heap [] 0 0 (MQ below (QO (some (.int z))) args s 0 0 (fun _ => False)) (F0 m 0 ls []) := by
  obtain ⟨⟨hx, hb, hml, hown, hts⟩, hr, hlocks⟩ := id F
  intro x1 u ls hw hl h
  unfold f_X2_blocksIn at h
  refine lv_aload_n hx hb dX2_blocksIn_0 rfl (lv_at hl 0 rfl) ?_
  refine lv_iload_n hx hb dX2_blocksIn_1 rfl (lv_at hl 1 rfl) ?_
  obtain ⟨z1, e2, h⟩ := bnd h
  refine k_X2_hasBlocks_s_ F hw e2 ⟨Nat.le_of_ble_eq_true rfl, Nat.le_of_ble_eq_true rfl⟩ ⟨Nat.zero_le _, Nat.zero_le _⟩ hl.1 (Nat.le_of_ble_eq_true rfl) dX2_blocksIn_2 ?_
  refine lv_if_ne (tgt := 10) hx hb dX2_blocksIn_5 rfl (fun c3 => ?_) (fun c3 => ?_)
  · replace h := itF h c3
    refine lv_iconst (v := 0) hx hb dX2_blocksIn_10 rfl ?_
    refine lv_istore_n (lv' := [(2, .int 0), (0, .ref (ad 0)), (1, .int x1)]) hx hb dX2_blocksIn_11 rfl hl (by decide) rfl (fun ls hl => ?_)
    refine lv_ldc2 (own := RX2) (v := (-1)) hx hb hown (F.tb (tw 236 (by decide +kernel) rfl)) dX2_blocksIn_12 ?_
    refine lv_lstore_n (lv' := [(3, .long (-1)), (2, .int 0), (0, .ref (ad 0)), (1, .int x1)]) hx hb dX2_blocksIn_15 rfl hl (by decide) rfl (fun ls hl => ?_)
    refine lv_aload_n hx hb dX2_blocksIn_16 rfl (lv_at hl 2 rfl) ?_
    refine s_g0_0 F hw dX2_blocksIn_17 ?_
    refine lv_iload_n hx hb dX2_blocksIn_20 rfl (lv_at hl 3 rfl) ?_
    obtain ⟨z4, e5, h⟩ := bnd h
    refine k_X1_first_s_ F hw e5 ⟨Nat.le_of_ble_eq_true rfl, Nat.le_of_ble_eq_true rfl⟩ ⟨Nat.zero_le _, Nat.zero_le _⟩ hl.1 (Nat.le_of_ble_eq_true rfl) dX2_blocksIn_21 ?_
    refine lv_istore (lv' := [(5, .int z4), (3, .long (-1)), (2, .int 0), (0, .ref (ad 0)), (1, .int x1)]) hx hb dX2_blocksIn_24 hl (by decide) rfl (fun ls hl => ?_)
    exact w_X2_blocksIn_26 F NF _ _ _ _ _ _ hw (lv_sub hl [3, 4, 2, 1, 0] rfl) h
  · replace h := itT h c3
    refine lv_iconst (v := 0) hx hb dX2_blocksIn_8 rfl ?_
    cases h
    exact retO_i F dX2_blocksIn_9
end
theorem c_X2_blocksIn {l : Launch} {G : GX} {ad : Nat → Nat} {x1 : Int32} {u : SS} {z : Int32} (h : f_X2_blocksIn x1 u = some z) : MO l yX2_blocksIn cX2_blocksIn 6 (some .int) rmX2_blocksIn G (sw G ad u) [.ref (ad 0), .int x1] (some (.int z)) := MO.of (by decide) (Nat.le_of_ble_eq_true rfl) (fun p e s m below meth c ls F hw hl => w_X2_blocksIn_0 F _ _ _ hw hl h)
/-! ===== X2_firstPlace ===== -/
theorem dX2_firstPlace_0 : decode cX2_firstPlace 0 = .ok (.aload_n 0, 1) := by decide +kernel
theorem dX2_firstPlace_1 : decode cX2_firstPlace 1 = .ok (.getfield 12, 3) := by decide +kernel
theorem dX2_firstPlace_4 : decode cX2_firstPlace 4 = .ok (.iconst 2, 1) := by decide +kernel
theorem dX2_firstPlace_5 : decode cX2_firstPlace 5 = .ok (.iload_n 1, 1) := by decide +kernel
theorem dX2_firstPlace_6 : decode cX2_firstPlace 6 = .ok (.imul, 1) := by decide +kernel
theorem dX2_firstPlace_7 : decode cX2_firstPlace 7 = .ok (.invokevirtual 91, 3) := by decide +kernel
theorem dX2_firstPlace_10 : decode cX2_firstPlace 10 = .ok (.ireturn, 1) := by decide +kernel
theorem yv_X1_placeOf_X2 : YV RX2 91 yX1_placeOf cX1_placeOf 4 (some .int) 1 := ⟨(tw 210 (by decide +kernel) rfl), (tw 3 (by decide +kernel) rfl), (tw 207 (by decide +kernel) rfl), (tw 208 (by decide +kernel) rfl), (tw 209 (by decide +kernel) rfl), by decide +kernel⟩
theorem k_X1_placeOf_s_ {p : Program} {l : Launch} {e : Env} {R : Room} {s : State} {m : MethodId} {args : Array Value} {below : List Frame} {meth : Method} {c : Code} {H : Heap} {locs : List Loc} {cells slots : Nat} {Q : State → Prop} {G : GX} {A : Nat → Prop} {ad : Nat → Nat} {u : SS} {cc : ByteArray} {nL pc : Nat} {y : MethodName} {ret : Option FieldType} {ls : Array Slot} {rest : List Value} {x1 : Int32} {z : Int32} (F : FX p m c cc nL s args y ret RX2 meth) (hw : WD G A s (sw G ad u) H locs) (h : f_X1_placeOf x1 u.1 = some z) (hR : rmX1_placeOf.frames + 1 ≤ R.frames ∧ 8 + (4 + 11) + rmX1_placeOf.locals ≤ R.locals) (hcs : cells ≤ R.cells ∧ slots ≤ R.slots) (hsz : ls.size = nL) (hW : (rest.map fun v => v.category).sum ≤ 8) (hdg : decode cc pc = .ok (.invokevirtual 91, 3)) (kk : W p l e R s m args below meth c H locs cells slots Q (F0 m (pc + 3) ls (.int z :: rest))) : W p l e R s m args below meth c H locs cells slots Q (F0 m pc ls (.int x1 :: .ref (ad 1) :: rest)) := callO (runV F yv_X1_placeOf_X2 (c_X1_placeOf h (ad := (fun k => ad (k + 1)))) hw.1 (hw.2.1.sub [1, 2, 3, 4] rfl) (hw.2.2.1.sub [1, 2, 3, 4] (by decide) rfl) rfl rfl rfl ⟨rfl, rfl⟩ hR hcs rfl hsz rfl hW hdg) kk
def rmX2_firstPlace : Room := { frames := 2, cells := 0, slots := 0, locals := 44 }
noncomputable def f_X2_firstPlace (x1 : Int32) (u : SS) : Option (Int32) := (f_X1_placeOf (2 * x1) u.1).bind (fun z1 => some z1)
section
variable {p : Program} {l : Launch} {e : Env} {s : State} {m : MethodId} {args : Array Value} {below : List Frame} {meth : Method} {c : Code}
variable {G : GX} {A : Nat → Prop} {ad : Nat → Nat} 
set_option maxHeartbeats 4000000 in
set_option maxRecDepth 100000 in
theorem w_X2_firstPlace_0 (F : FX p m c cX2_firstPlace 2 s args yX2_firstPlace (some .int) RX2 meth) {z : Int32} : ∀ (x1 : Int32) (u : SS) (ls : Array Slot), WD G A s (sw G ad u) s.heap [] → lv_has ls 2 [(0, .ref (ad 0)), (1, .int x1)] → f_X2_firstPlace x1 u = some z → W p l e rmX2_firstPlace s m args below meth c s.heap [] 0 0 (MQ below (QO (some (.int z))) args s 0 0 (fun _ => False)) (F0 m 0 ls []) := by
  obtain ⟨⟨hx, hb, hml, hown, hts⟩, hr, hlocks⟩ := id F
  intro x1 u ls hw hl h
  unfold f_X2_firstPlace at h
  refine lv_aload_n hx hb dX2_firstPlace_0 rfl (lv_at hl 0 rfl) ?_
  refine s_g0_0 F hw dX2_firstPlace_1 ?_
  refine lv_iconst (v := 2) hx hb dX2_firstPlace_4 rfl ?_
  refine lv_iload_n hx hb dX2_firstPlace_5 rfl (lv_at hl 1 rfl) ?_
  refine lv_imul hx hb dX2_firstPlace_6 ?_
  obtain ⟨z1, e2, h⟩ := bnd h
  refine k_X1_placeOf_s_ F hw e2 ⟨Nat.le_of_ble_eq_true rfl, Nat.le_of_ble_eq_true rfl⟩ ⟨Nat.zero_le _, Nat.zero_le _⟩ hl.1 (Nat.le_of_ble_eq_true rfl) dX2_firstPlace_7 ?_
  cases h
  exact retO_i F dX2_firstPlace_10
end
theorem c_X2_firstPlace {l : Launch} {G : GX} {ad : Nat → Nat} {x1 : Int32} {u : SS} {z : Int32} (h : f_X2_firstPlace x1 u = some z) : MO l yX2_firstPlace cX2_firstPlace 2 (some .int) rmX2_firstPlace G (sw G ad u) [.ref (ad 0), .int x1] (some (.int z)) := MO.of (by decide) (Nat.le_of_ble_eq_true rfl) (fun p e s m below meth c ls F hw hl => w_X2_firstPlace_0 F _ _ _ hw hl h)
/-! ===== X2_isNested ===== -/
theorem dX2_isNested_0 : decode cX2_isNested 0 = .ok (.aload_n 0, 1) := by decide +kernel
theorem dX2_isNested_1 : decode cX2_isNested 1 = .ok (.getfield 12, 3) := by decide +kernel
theorem dX2_isNested_4 : decode cX2_isNested 4 = .ok (.iload_n 1, 1) := by decide +kernel
theorem dX2_isNested_5 : decode cX2_isNested 5 = .ok (.invokevirtual 101, 3) := by decide +kernel
theorem dX2_isNested_8 : decode cX2_isNested 8 = .ok (.istore_n 2, 1) := by decide +kernel
theorem dX2_isNested_9 : decode cX2_isNested 9 = .ok (.iload_n 2, 1) := by decide +kernel
theorem dX2_isNested_10 : decode cX2_isNested 10 = .ok (.iconst (-1), 1) := by decide +kernel
theorem dX2_isNested_11 : decode cX2_isNested 11 = .ok (.if_icmp .eq 17, 3) := by decide +kernel
theorem dX2_isNested_14 : decode cX2_isNested 14 = .ok (.aload_n 0, 1) := by decide +kernel
theorem dX2_isNested_15 : decode cX2_isNested 15 = .ok (.getfield 25, 3) := by decide +kernel
theorem dX2_isNested_18 : decode cX2_isNested 18 = .ok (.iload_n 2, 1) := by decide +kernel
theorem dX2_isNested_19 : decode cX2_isNested 19 = .ok (.iaload, 1) := by decide +kernel
theorem dX2_isNested_20 : decode cX2_isNested 20 = .ok (.iconst 3, 1) := by decide +kernel
theorem dX2_isNested_21 : decode cX2_isNested 21 = .ok (.if_icmp .ne 7, 3) := by decide +kernel
theorem dX2_isNested_24 : decode cX2_isNested 24 = .ok (.iconst 1, 1) := by decide +kernel
theorem dX2_isNested_25 : decode cX2_isNested 25 = .ok (.goto 4, 3) := by decide +kernel
theorem dX2_isNested_28 : decode cX2_isNested 28 = .ok (.iconst 0, 1) := by decide +kernel
theorem dX2_isNested_29 : decode cX2_isNested 29 = .ok (.ireturn, 1) := by decide +kernel
theorem yv_X1_rowOfThing_X2 : YV RX2 101 yX1_rowOfThing cX1_rowOfThing 2 (some .int) 1 := ⟨(tw 186 (by decide +kernel) rfl), (tw 3 (by decide +kernel) rfl), (tw 191 (by decide +kernel) rfl), (tw 184 (by decide +kernel) rfl), (tw 185 (by decide +kernel) rfl), by decide +kernel⟩
theorem k_X1_rowOfThing_s_ {p : Program} {l : Launch} {e : Env} {R : Room} {s : State} {m : MethodId} {args : Array Value} {below : List Frame} {meth : Method} {c : Code} {H : Heap} {locs : List Loc} {cells slots : Nat} {Q : State → Prop} {G : GX} {A : Nat → Prop} {ad : Nat → Nat} {u : SS} {cc : ByteArray} {nL pc : Nat} {y : MethodName} {ret : Option FieldType} {ls : Array Slot} {rest : List Value} {x1 : Int32} {z : Int32} (F : FX p m c cc nL s args y ret RX2 meth) (hw : WD G A s (sw G ad u) H locs) (h : f_X1_rowOfThing x1 u.1 = some z) (hR : rmX1_rowOfThing.frames + 1 ≤ R.frames ∧ 8 + (2 + 11) + rmX1_rowOfThing.locals ≤ R.locals) (hcs : cells ≤ R.cells ∧ slots ≤ R.slots) (hsz : ls.size = nL) (hW : (rest.map fun v => v.category).sum ≤ 8) (hdg : decode cc pc = .ok (.invokevirtual 101, 3)) (kk : W p l e R s m args below meth c H locs cells slots Q (F0 m (pc + 3) ls (.int z :: rest))) : W p l e R s m args below meth c H locs cells slots Q (F0 m pc ls (.int x1 :: .ref (ad 1) :: rest)) := callO (runV F yv_X1_rowOfThing_X2 (c_X1_rowOfThing h (ad := (fun k => ad (k + 1)))) hw.1 (hw.2.1.sub [1, 2, 3, 4] rfl) (hw.2.2.1.sub [1, 2, 3, 4] (by decide) rfl) rfl rfl rfl ⟨rfl, rfl⟩ hR hcs rfl hsz rfl hW hdg) kk
def rmX2_isNested : Room := { frames := 1, cells := 0, slots := 0, locals := 21 }
noncomputable def f_X2_isNested (x1 : Int32) (u : SS) : Option (Int32) := (f_X1_rowOfThing x1 u.1).bind (fun z1 => (if z1 = ((-1) : Int32) then some 0 else (if ix z1 8 = true then (if ((u.2.2.1 2) (Int32.toNatClampNeg z1)) = (3 : Int32) then some 1 else some 0) else none)))
section
variable {p : Program} {l : Launch} {e : Env} {s : State} {m : MethodId} {args : Array Value} {below : List Frame} {meth : Method} {c : Code}
variable {G : GX} {A : Nat → Prop} {ad : Nat → Nat} 
set_option maxHeartbeats 4000000 in
set_option maxRecDepth 100000 in
theorem w_X2_isNested_0 (F : FX p m c cX2_isNested 3 s args yX2_isNested (some .boolean) RX2 meth) {z : Int32} : ∀ (x1 : Int32) (u : SS) (ls : Array Slot), WD G A s (sw G ad u) s.heap [] → lv_has ls 3 [(0, .ref (ad 0)), (1, .int x1)] → f_X2_isNested x1 u = some z → W p l e rmX2_isNested s m args below meth c s.heap [] 0 0 (MQ below (QO (some (.int z))) args s 0 0 (fun _ => False)) (F0 m 0 ls []) := by
  obtain ⟨⟨hx, hb, hml, hown, hts⟩, hr, hlocks⟩ := id F
  intro x1 u ls hw hl h
  unfold f_X2_isNested at h
  refine lv_aload_n hx hb dX2_isNested_0 rfl (lv_at hl 0 rfl) ?_
  refine s_g0_0 F hw dX2_isNested_1 ?_
  refine lv_iload_n hx hb dX2_isNested_4 rfl (lv_at hl 1 rfl) ?_
  obtain ⟨z1, e2, h⟩ := bnd h
  refine k_X1_rowOfThing_s_ F hw e2 ⟨Nat.le_of_ble_eq_true rfl, Nat.le_of_ble_eq_true rfl⟩ ⟨Nat.zero_le _, Nat.zero_le _⟩ hl.1 (Nat.le_of_ble_eq_true rfl) dX2_isNested_5 ?_
  refine lv_istore_n (lv' := [(2, .int z1), (0, .ref (ad 0)), (1, .int x1)]) hx hb dX2_isNested_8 rfl hl (by decide) rfl (fun ls hl => ?_)
  refine lv_iload_n hx hb dX2_isNested_9 rfl (lv_at hl 0 rfl) ?_
  refine lv_iconst (v := (-1)) hx hb dX2_isNested_10 rfl ?_
  refine lv_icmp_eq (tgt := 28) hx hb dX2_isNested_11 rfl (fun c3 => ?_) (fun c3 => ?_)
  · replace h := itT h c3
    refine lv_iconst (v := 0) hx hb dX2_isNested_28 rfl ?_
    cases h
    exact retO_z F narrow_b0 dX2_isNested_29
  · replace h := itF h c3
    refine lv_aload_n hx hb dX2_isNested_14 rfl (lv_at hl 1 rfl) ?_
    refine s_g0_2 F hw dX2_isNested_15 ?_
    refine lv_iload_n hx hb dX2_isNested_18 rfl (lv_at hl 0 rfl) ?_
    obtain ⟨g4, h⟩ := gd h
    refine s_l9 F hw g4 dX2_isNested_19 ?_
    refine lv_iconst (v := 3) hx hb dX2_isNested_20 rfl ?_
    refine lv_icmp_ne (tgt := 28) hx hb dX2_isNested_21 rfl (fun c5 => ?_) (fun c5 => ?_)
    · replace h := itF h c5
      refine lv_iconst (v := 0) hx hb dX2_isNested_28 rfl ?_
      cases h
      exact retO_z F narrow_b0 dX2_isNested_29
    · replace h := itT h c5
      refine lv_iconst (v := 1) hx hb dX2_isNested_24 rfl ?_
      refine lv_goto (tgt := 29) hx hb dX2_isNested_25 rfl ?_
      cases h
      exact retO_z F narrow_b1 dX2_isNested_29
end
theorem c_X2_isNested {l : Launch} {G : GX} {ad : Nat → Nat} {x1 : Int32} {u : SS} {z : Int32} (h : f_X2_isNested x1 u = some z) : MO l yX2_isNested cX2_isNested 3 (some .boolean) rmX2_isNested G (sw G ad u) [.ref (ad 0), .int x1] (some (.int z)) := MO.of (by decide) (Nat.le_of_ble_eq_true rfl) (fun p e s m below meth c ls F hw hl => w_X2_isNested_0 F _ _ _ hw hl h)
/-! ===== X2_lastPlace ===== -/
theorem dX2_lastPlace_0 : decode cX2_lastPlace 0 = .ok (.aload_n 0, 1) := by decide +kernel
theorem dX2_lastPlace_1 : decode cX2_lastPlace 1 = .ok (.getfield 12, 3) := by decide +kernel
theorem dX2_lastPlace_4 : decode cX2_lastPlace 4 = .ok (.iload_n 1, 1) := by decide +kernel
theorem dX2_lastPlace_5 : decode cX2_lastPlace 5 = .ok (.aload_n 0, 1) := by decide +kernel
theorem dX2_lastPlace_6 : decode cX2_lastPlace 6 = .ok (.iload_n 1, 1) := by decide +kernel
theorem dX2_lastPlace_7 : decode cX2_lastPlace 7 = .ok (.invokevirtual 94, 3) := by decide +kernel
theorem dX2_lastPlace_10 : decode cX2_lastPlace 10 = .ok (.invokestatic 97, 3) := by decide +kernel
theorem dX2_lastPlace_13 : decode cX2_lastPlace 13 = .ok (.invokevirtual 91, 3) := by decide +kernel
theorem dX2_lastPlace_16 : decode cX2_lastPlace 16 = .ok (.ireturn, 1) := by decide +kernel
theorem yv_X2_isNested_X2 : YV RX2 94 yX2_isNested cX2_isNested 3 (some .boolean) 1 := ⟨(tw 190 (by decide +kernel) rfl), (tw 2 (by decide +kernel) rfl), (tw 308 (by decide +kernel) rfl), (tw 188 (by decide +kernel) rfl), (tw 189 (by decide +kernel) rfl), by decide +kernel⟩
theorem k_X2_isNested_s_ {p : Program} {l : Launch} {e : Env} {R : Room} {s : State} {m : MethodId} {args : Array Value} {below : List Frame} {meth : Method} {c : Code} {H : Heap} {locs : List Loc} {cells slots : Nat} {Q : State → Prop} {G : GX} {A : Nat → Prop} {ad : Nat → Nat} {u : SS} {cc : ByteArray} {nL pc : Nat} {y : MethodName} {ret : Option FieldType} {ls : Array Slot} {rest : List Value} {x1 : Int32} {z : Int32} (F : FX p m c cc nL s args y ret RX2 meth) (hw : WD G A s (sw G ad u) H locs) (h : f_X2_isNested x1 u = some z) (hR : rmX2_isNested.frames + 1 ≤ R.frames ∧ 8 + (3 + 11) + rmX2_isNested.locals ≤ R.locals) (hcs : cells ≤ R.cells ∧ slots ≤ R.slots) (hsz : ls.size = nL) (hW : (rest.map fun v => v.category).sum ≤ 8) (hdg : decode cc pc = .ok (.invokevirtual 94, 3)) (kk : W p l e R s m args below meth c H locs cells slots Q (F0 m (pc + 3) ls (.int z :: rest))) : W p l e R s m args below meth c H locs cells slots Q (F0 m pc ls (.int x1 :: .ref (ad 0) :: rest)) := callO (runV F yv_X2_isNested_X2 (c_X2_isNested h) hw.1 hw.2.1 hw.2.2.1 rfl rfl rfl ⟨rfl, rfl⟩ hR hcs rfl hsz rfl hW hdg) kk
theorem yv_X3_standOf_X2 : YN RX2 97 yX3_standOf RX3 cX3_standOf 2 (some .int) 2 := ⟨(tw 194 (by decide +kernel) rfl), (tw 1 (by decide +kernel) rfl), fun _ h => h.2.2.1, (tw 193 (by decide +kernel) rfl), by decide +kernel⟩
theorem k_X3_standOf_s_ {p : Program} {l : Launch} {e : Env} {R : Room} {s : State} {m : MethodId} {args : Array Value} {below : List Frame} {meth : Method} {c : Code} {H : Heap} {locs : List Loc} {cells slots : Nat} {Q : State → Prop} {G : GX} {A : Nat → Prop} {ad : Nat → Nat} {u : SS} {cc : ByteArray} {nL pc : Nat} {y : MethodName} {ret : Option FieldType} {ls : Array Slot} {rest : List Value} {x0 : Int32} {x1 : Int32} {z : Int32} (F : FX p m c cc nL s args y ret RX2 meth) (hw : WD G A s (sw G ad u) H locs) (h : f_X3_standOf x0 x1 = some z) (hR : rmX3_standOf.frames + 1 ≤ R.frames ∧ 8 + (2 + 11) + rmX3_standOf.locals ≤ R.locals) (hcs : cells ≤ R.cells ∧ slots ≤ R.slots) (hsz : ls.size = nL) (hW : (rest.map fun v => v.category).sum ≤ 8) (hdg : decode cc pc = .ok (.invokestatic 97, 3)) (kk : W p l e R s m args below meth c H locs cells slots Q (F0 m (pc + 3) ls (.int z :: rest))) : W p l e R s m args below meth c H locs cells slots Q (F0 m pc ls (.int x1 :: .int x0 :: rest)) := callO (runN F yv_X3_standOf_X2 (c_X3_standOf h (G := G)) hw.1 nil_P (A := A) nil_D ⟨rfl, rfl⟩ hR hcs rfl hsz rfl hW hdg) kk
def rmX2_lastPlace : Room := { frames := 2, cells := 0, slots := 0, locals := 44 }
noncomputable def f_X2_lastPlace (x1 : Int32) (u : SS) : Option (Int32) := (f_X2_isNested x1 u).bind (fun z1 => (f_X3_standOf x1 z1).bind (fun z3 => (f_X1_placeOf z3 u.1).bind (fun z5 => some z5)))
section
variable {p : Program} {l : Launch} {e : Env} {s : State} {m : MethodId} {args : Array Value} {below : List Frame} {meth : Method} {c : Code}
variable {G : GX} {A : Nat → Prop} {ad : Nat → Nat} 
set_option maxHeartbeats 4000000 in
set_option maxRecDepth 100000 in
theorem w_X2_lastPlace_0 (F : FX p m c cX2_lastPlace 2 s args yX2_lastPlace (some .int) RX2 meth) {z : Int32} : ∀ (x1 : Int32) (u : SS) (ls : Array Slot), WD G A s (sw G ad u) s.heap [] → lv_has ls 2 [(0, .ref (ad 0)), (1, .int x1)] → f_X2_lastPlace x1 u = some z → W p l e rmX2_lastPlace s m args below meth c s.heap [] 0 0 (MQ below (QO (some (.int z))) args s 0 0 (fun _ => False)) (F0 m 0 ls []) := by
  obtain ⟨⟨hx, hb, hml, hown, hts⟩, hr, hlocks⟩ := id F
  intro x1 u ls hw hl h
  unfold f_X2_lastPlace at h
  refine lv_aload_n hx hb dX2_lastPlace_0 rfl (lv_at hl 0 rfl) ?_
  refine s_g0_0 F hw dX2_lastPlace_1 ?_
  refine lv_iload_n hx hb dX2_lastPlace_4 rfl (lv_at hl 1 rfl) ?_
  refine lv_aload_n hx hb dX2_lastPlace_5 rfl (lv_at hl 0 rfl) ?_
  refine lv_iload_n hx hb dX2_lastPlace_6 rfl (lv_at hl 1 rfl) ?_
  obtain ⟨z1, e2, h⟩ := bnd h
  refine k_X2_isNested_s_ F hw e2 ⟨Nat.le_of_ble_eq_true rfl, Nat.le_of_ble_eq_true rfl⟩ ⟨Nat.zero_le _, Nat.zero_le _⟩ hl.1 (Nat.le_of_ble_eq_true rfl) dX2_lastPlace_7 ?_
  obtain ⟨z3, e4, h⟩ := bnd h
  refine k_X3_standOf_s_ F hw e4 ⟨Nat.le_of_ble_eq_true rfl, Nat.le_of_ble_eq_true rfl⟩ ⟨Nat.zero_le _, Nat.zero_le _⟩ hl.1 (Nat.le_of_ble_eq_true rfl) dX2_lastPlace_10 ?_
  obtain ⟨z5, e6, h⟩ := bnd h
  refine k_X1_placeOf_s_ F hw e6 ⟨Nat.le_of_ble_eq_true rfl, Nat.le_of_ble_eq_true rfl⟩ ⟨Nat.zero_le _, Nat.zero_le _⟩ hl.1 (Nat.le_of_ble_eq_true rfl) dX2_lastPlace_13 ?_
  cases h
  exact retO_i F dX2_lastPlace_16
end
theorem c_X2_lastPlace {l : Launch} {G : GX} {ad : Nat → Nat} {x1 : Int32} {u : SS} {z : Int32} (h : f_X2_lastPlace x1 u = some z) : MO l yX2_lastPlace cX2_lastPlace 2 (some .int) rmX2_lastPlace G (sw G ad u) [.ref (ad 0), .int x1] (some (.int z)) := MO.of (by decide) (Nat.le_of_ble_eq_true rfl) (fun p e s m below meth c ls F hw hl => w_X2_lastPlace_0 F _ _ _ hw hl h)
/-! ===== X2_placeBehind ===== -/
theorem dX2_placeBehind_0 : decode cX2_placeBehind 0 = .ok (.iload_n 2, 1) := by decide +kernel
theorem dX2_placeBehind_1 : decode cX2_placeBehind 1 = .ok (.iconst (-1), 1) := by decide +kernel
theorem dX2_placeBehind_2 : decode cX2_placeBehind 2 = .ok (.if_icmp .ne 14, 3) := by decide +kernel
theorem dX2_placeBehind_5 : decode cX2_placeBehind 5 = .ok (.aload_n 0, 1) := by decide +kernel
theorem dX2_placeBehind_6 : decode cX2_placeBehind 6 = .ok (.getfield 12, 3) := by decide +kernel
theorem dX2_placeBehind_9 : decode cX2_placeBehind 9 = .ok (.iload_n 1, 1) := by decide +kernel
theorem dX2_placeBehind_10 : decode cX2_placeBehind 10 = .ok (.invokevirtual 81, 3) := by decide +kernel
theorem dX2_placeBehind_13 : decode cX2_placeBehind 13 = .ok (.goto 13, 3) := by decide +kernel
theorem dX2_placeBehind_16 : decode cX2_placeBehind 16 = .ok (.aload_n 0, 1) := by decide +kernel
theorem dX2_placeBehind_17 : decode cX2_placeBehind 17 = .ok (.getfield 12, 3) := by decide +kernel
theorem dX2_placeBehind_20 : decode cX2_placeBehind 20 = .ok (.iload_n 2, 1) := by decide +kernel
theorem dX2_placeBehind_21 : decode cX2_placeBehind 21 = .ok (.invokevirtual 91, 3) := by decide +kernel
theorem dX2_placeBehind_24 : decode cX2_placeBehind 24 = .ok (.iconst 1, 1) := by decide +kernel
theorem dX2_placeBehind_25 : decode cX2_placeBehind 25 = .ok (.iadd, 1) := by decide +kernel
theorem dX2_placeBehind_26 : decode cX2_placeBehind 26 = .ok (.ireturn, 1) := by decide +kernel
def rmX2_placeBehind : Room := { frames := 2, cells := 0, slots := 0, locals := 44 }
noncomputable def f_X2_placeBehind (x1 : Int32) (x2 : Int32) (u : SS) : Option (Int32) := (if x2 = ((-1) : Int32) then (f_X1_first x1 u.1).bind (fun z4 => some z4) else (f_X1_placeOf x2 u.1).bind (fun z2 => some (z2 + 1)))
section
variable {p : Program} {l : Launch} {e : Env} {s : State} {m : MethodId} {args : Array Value} {below : List Frame} {meth : Method} {c : Code}
variable {G : GX} {A : Nat → Prop} {ad : Nat → Nat} 
set_option maxHeartbeats 4000000 in
set_option maxRecDepth 100000 in
theorem w_X2_placeBehind_0 (F : FX p m c cX2_placeBehind 3 s args yX2_placeBehind (some .int) RX2 meth) {z : Int32} : ∀ (x1 : Int32) (x2 : Int32) (u : SS) (ls : Array Slot), WD G A s (sw G ad u) s.heap [] → lv_has ls 3 [(0, .ref (ad 0)), (1, .int x1), (2, .int x2)] → f_X2_placeBehind x1 x2 u = some z → W p l e rmX2_placeBehind s m args below meth c s.heap [] 0 0 (MQ below (QO (some (.int z))) args s 0 0 (fun _ => False)) (F0 m 0 ls []) := by
  obtain ⟨⟨hx, hb, hml, hown, hts⟩, hr, hlocks⟩ := id F
  intro x1 x2 u ls hw hl h
  unfold f_X2_placeBehind at h
  refine lv_iload_n hx hb dX2_placeBehind_0 rfl (lv_at hl 2 rfl) ?_
  refine lv_iconst (v := (-1)) hx hb dX2_placeBehind_1 rfl ?_
  refine lv_icmp_ne (tgt := 16) hx hb dX2_placeBehind_2 rfl (fun c1 => ?_) (fun c1 => ?_)
  · replace h := itF h c1
    refine lv_aload_n hx hb dX2_placeBehind_16 rfl (lv_at hl 0 rfl) ?_
    refine s_g0_0 F hw dX2_placeBehind_17 ?_
    refine lv_iload_n hx hb dX2_placeBehind_20 rfl (lv_at hl 2 rfl) ?_
    obtain ⟨z2, e3, h⟩ := bnd h
    refine k_X1_placeOf_s_ F hw e3 ⟨Nat.le_of_ble_eq_true rfl, Nat.le_of_ble_eq_true rfl⟩ ⟨Nat.zero_le _, Nat.zero_le _⟩ hl.1 (Nat.le_of_ble_eq_true rfl) dX2_placeBehind_21 ?_
    refine lv_iconst (v := 1) hx hb dX2_placeBehind_24 rfl ?_
    refine lv_iadd hx hb dX2_placeBehind_25 ?_
    cases h
    exact retO_i F dX2_placeBehind_26
  · replace h := itT h c1
    refine lv_aload_n hx hb dX2_placeBehind_5 rfl (lv_at hl 0 rfl) ?_
    refine s_g0_0 F hw dX2_placeBehind_6 ?_
    refine lv_iload_n hx hb dX2_placeBehind_9 rfl (lv_at hl 1 rfl) ?_
    obtain ⟨z4, e5, h⟩ := bnd h
    refine k_X1_first_s_ F hw e5 ⟨Nat.le_of_ble_eq_true rfl, Nat.le_of_ble_eq_true rfl⟩ ⟨Nat.zero_le _, Nat.zero_le _⟩ hl.1 (Nat.le_of_ble_eq_true rfl) dX2_placeBehind_10 ?_
    refine lv_goto (tgt := 26) hx hb dX2_placeBehind_13 rfl ?_
    cases h
    exact retO_i F dX2_placeBehind_26
end
theorem c_X2_placeBehind {l : Launch} {G : GX} {ad : Nat → Nat} {x1 : Int32} {x2 : Int32} {u : SS} {z : Int32} (h : f_X2_placeBehind x1 x2 u = some z) : MO l yX2_placeBehind cX2_placeBehind 3 (some .int) rmX2_placeBehind G (sw G ad u) [.ref (ad 0), .int x1, .int x2] (some (.int z)) := MO.of (by decide) (Nat.le_of_ble_eq_true rfl) (fun p e s m below meth c ls F hw hl => w_X2_placeBehind_0 F _ _ _ _ hw hl h)
/-! ===== X2_setLabel ===== -/
theorem dX2_setLabel_0 : decode cX2_setLabel 0 = .ok (.iload_n 1, 1) := by decide +kernel
theorem dX2_setLabel_1 : decode cX2_setLabel 1 = .ok (.ifCond .lt 25, 3) := by decide +kernel
theorem dX2_setLabel_4 : decode cX2_setLabel 4 = .ok (.iload_n 1, 1) := by decide +kernel
theorem dX2_setLabel_5 : decode cX2_setLabel 5 = .ok (.sipush 600, 3) := by decide +kernel
theorem dX2_setLabel_8 : decode cX2_setLabel 8 = .ok (.if_icmp .ge 18, 3) := by decide +kernel
theorem dX2_setLabel_11 : decode cX2_setLabel 11 = .ok (.aload_n 0, 1) := by decide +kernel
theorem dX2_setLabel_12 : decode cX2_setLabel 12 = .ok (.getfield 35, 3) := by decide +kernel
theorem dX2_setLabel_15 : decode cX2_setLabel 15 = .ok (.aload_n 0, 1) := by decide +kernel
theorem dX2_setLabel_16 : decode cX2_setLabel 16 = .ok (.getfield 12, 3) := by decide +kernel
theorem dX2_setLabel_19 : decode cX2_setLabel 19 = .ok (.getfield 104, 3) := by decide +kernel
theorem dX2_setLabel_22 : decode cX2_setLabel 22 = .ok (.iload_n 1, 1) := by decide +kernel
theorem dX2_setLabel_23 : decode cX2_setLabel 23 = .ok (.iaload, 1) := by decide +kernel
theorem dX2_setLabel_24 : decode cX2_setLabel 24 = .ok (.lload_n 2, 1) := by decide +kernel
theorem dX2_setLabel_25 : decode cX2_setLabel 25 = .ok (.lastore, 1) := by decide +kernel
theorem dX2_setLabel_26 : decode cX2_setLabel 26 = .ok (.return_, 1) := by decide +kernel
theorem s_s12 {i : Int32} {x : Int64} {p : Program} {l : Launch} {e : Env} {R : Room} {s : State} {m : MethodId} {args : Array Value} {below : List Frame} {meth : Method} {c : Code} {H : Heap} {locs : List Loc} {cells slots : Nat} {Q : State → Prop} {G : GX} {A : Nat → Prop} {ad : Nat → Nat} {u : SS} {cc : ByteArray} {nL pc : Nat} {y : MethodName} {ret : Option FieldType} {ls : Array Slot} {rest : List Value} (F : FX p m c cc nL s args y ret RX2 meth) (hw : WD G A s (sw G ad u) H locs) (hi : ix i 600 = true) (hdg : decode cc pc = .ok (.lastore, 1)) (kk : ∀ (H : Heap) (locs : List Loc), WD G A s (sw G ad (sL u i.toNatClampNeg x)) H locs → W p l e R s m args below meth c H locs cells slots Q (F0 m (pc + 1) ls (rest))) : W p l e R s m args below meth c H locs cells slots Q (F0 m pc ls (.long x :: .int i :: .ref (ad 12) :: rest)) := va_last F.1.1 F.1.2.1 hw.1.1 hw.2.1 hw.2.2.1 hw.2.2.2 12 1 rfl rfl (ix_in hi) hdg (fun H1 l1 hP hD hS => kk H1 l1 ⟨hw.1, hP, hD, hS⟩)
def rmX2_setLabel : Room := { frames := 0, cells := 0, slots := 0, locals := 0 }
noncomputable def f_X2_setLabel (x1 : Int32) (x2 : Int64) (u : SS) : Option (SS) := (if x1 < 0 then some u else (if (600 : Int32) ≤ x1 then some u else (if ix x1 600 = true then (if ix ((u.1 1) (Int32.toNatClampNeg x1)) 600 = true then some (sL u (Int32.toNatClampNeg ((u.1 1) (Int32.toNatClampNeg x1))) x2) else none) else none)))
section
variable {p : Program} {l : Launch} {e : Env} {s : State} {m : MethodId} {args : Array Value} {below : List Frame} {meth : Method} {c : Code}
variable {G : GX} {A : Nat → Prop} {ad : Nat → Nat} 
set_option maxHeartbeats 4000000 in
set_option maxRecDepth 100000 in
theorem w_X2_setLabel_0 (F : FX p m c cX2_setLabel 4 s args yX2_setLabel none RX2 meth) {z : SS} : ∀ (x1 : Int32) (x2 : Int64) (u : SS) (H : Heap) (locs : List Loc) (ls : Array Slot), WD G A s (sw G ad u) H locs → lv_has ls 4 [(0, .ref (ad 0)), (1, .int x1), (2, .long x2)] → f_X2_setLabel x1 x2 u = some z → W p l e rmX2_setLabel s m args below meth c H locs 0 0 (MQ below (QW G (sw G ad z) A none) args s 0 0 A) (F0 m 0 ls []) := by
  obtain ⟨⟨hx, hb, hml, hown, hts⟩, hr, hlocks⟩ := id F
  intro x1 x2 u H locs ls hw hl h
  unfold f_X2_setLabel at h
  refine lv_iload_n hx hb dX2_setLabel_0 rfl (lv_at hl 1 rfl) ?_
  refine lv_if_lt (tgt := 26) hx hb dX2_setLabel_1 rfl (fun c1 => ?_) (fun c1 => ?_)
  · replace h := itT h c1
    cases h
    exact retW_v F hw dX2_setLabel_26
  · replace h := itF h c1
    refine lv_iload_n hx hb dX2_setLabel_4 rfl (lv_at hl 1 rfl) ?_
    refine lv_sipush (v := 600) hx hb dX2_setLabel_5 rfl ?_
    refine lv_icmp_ge (tgt := 26) hx hb dX2_setLabel_8 rfl (fun c2 => ?_) (fun c2 => ?_)
    · replace h := itT h c2
      cases h
      exact retW_v F hw dX2_setLabel_26
    · replace h := itF h c2
      refine lv_aload_n hx hb dX2_setLabel_11 rfl (lv_at hl 0 rfl) ?_
      refine s_g0_5 F hw dX2_setLabel_12 ?_
      refine lv_aload_n hx hb dX2_setLabel_15 rfl (lv_at hl 0 rfl) ?_
      refine s_g0_0 F hw dX2_setLabel_16 ?_
      refine s_g1_0 F hw dX2_setLabel_19 ?_
      refine lv_iload_n hx hb dX2_setLabel_22 rfl (lv_at hl 1 rfl) ?_
      obtain ⟨g3, h⟩ := gd h
      refine s_l2 F hw g3 dX2_setLabel_23 ?_
      refine lv_lload_n hx hb dX2_setLabel_24 rfl (lv_at hl 2 rfl) ?_
      obtain ⟨g4, h⟩ := gd h
      refine s_s12 F hw g4 dX2_setLabel_25 (fun H locs hw => ?_)
      cases h
      exact retW_v F hw dX2_setLabel_26
end
theorem c_X2_setLabel {l : Launch} {G : GX} {ad : Nat → Nat} {x1 : Int32} {x2 : Int64} {u : SS} {z : SS} (h : f_X2_setLabel x1 x2 u = some z) : MW l yX2_setLabel cX2_setLabel 4 none rmX2_setLabel G (sw G ad u) (sw G ad z) [.ref (ad 0), .int x1, .long x2] none := MW.of (by decide) (Nat.le_of_ble_eq_true rfl) (fun p e s m below meth c ls F hw hl => w_X2_setLabel_0 F _ _ _ _ _ _ hw hl h)
/-! ===== X2_innerAt ===== -/
theorem dX2_innerAt_0 : decode cX2_innerAt 0 = .ok (.iload_n 1, 1) := by decide +kernel
theorem dX2_innerAt_1 : decode cX2_innerAt 1 = .ok (.ifCond .lt 27, 3) := by decide +kernel
theorem dX2_innerAt_4 : decode cX2_innerAt 4 = .ok (.iload_n 1, 1) := by decide +kernel
theorem dX2_innerAt_5 : decode cX2_innerAt 5 = .ok (.sipush 600, 3) := by decide +kernel
theorem dX2_innerAt_8 : decode cX2_innerAt 8 = .ok (.if_icmp .ge 20, 3) := by decide +kernel
theorem dX2_innerAt_11 : decode cX2_innerAt 11 = .ok (.aload_n 0, 1) := by decide +kernel
theorem dX2_innerAt_12 : decode cX2_innerAt 12 = .ok (.getfield 39, 3) := by decide +kernel
theorem dX2_innerAt_15 : decode cX2_innerAt 15 = .ok (.aload_n 0, 1) := by decide +kernel
theorem dX2_innerAt_16 : decode cX2_innerAt 16 = .ok (.getfield 12, 3) := by decide +kernel
theorem dX2_innerAt_19 : decode cX2_innerAt 19 = .ok (.getfield 104, 3) := by decide +kernel
theorem dX2_innerAt_22 : decode cX2_innerAt 22 = .ok (.iload_n 1, 1) := by decide +kernel
theorem dX2_innerAt_23 : decode cX2_innerAt 23 = .ok (.iaload, 1) := by decide +kernel
theorem dX2_innerAt_24 : decode cX2_innerAt 24 = .ok (.iaload, 1) := by decide +kernel
theorem dX2_innerAt_25 : decode cX2_innerAt 25 = .ok (.goto 4, 3) := by decide +kernel
theorem dX2_innerAt_28 : decode cX2_innerAt 28 = .ok (.iconst (-1), 1) := by decide +kernel
theorem dX2_innerAt_29 : decode cX2_innerAt 29 = .ok (.ireturn, 1) := by decide +kernel
theorem s_g0_6 {p : Program} {l : Launch} {e : Env} {R : Room} {s : State} {m : MethodId} {args : Array Value} {below : List Frame} {meth : Method} {c : Code} {H : Heap} {locs : List Loc} {cells slots : Nat} {Q : State → Prop} {G : GX} {A : Nat → Prop} {ad : Nat → Nat} {u : SS} {cc : ByteArray} {nL pc : Nat} {y : MethodName} {ret : Option FieldType} {ls : Array Slot} {rest : List Value} (F : FX p m c cc nL s args y ret RX2 meth) (hw : WD G A s (sw G ad u) H locs) (hdg : decode cc pc = .ok (.getfield 39, 3)) (kk : W p l e R s m args below meth c H locs cells slots Q (F0 m (pc + 3) ls (.ref (ad 13) :: rest))) : W p l e R s m args below meth c H locs cells slots Q (F0 m pc ls (.ref (ad 0) :: rest)) := va_get (D := G.1) (ci := 2) (C := RX2) (T := TX2) (N := 8) (Ts := lw_gt) F.1.1 F.1.2.1 (fun _ h => F.tb h) inX2 F.1.2.2.2.1 hw.1.1 hw.2.1 0 rfl rfl 6 (by decide) (F.tb (tw 79 (by decide +kernel) rfl)) (fun _ h9 => h9) rfl hdg kk
theorem s_l13 {i : Int32} {p : Program} {l : Launch} {e : Env} {R : Room} {s : State} {m : MethodId} {args : Array Value} {below : List Frame} {meth : Method} {c : Code} {H : Heap} {locs : List Loc} {cells slots : Nat} {Q : State → Prop} {G : GX} {A : Nat → Prop} {ad : Nat → Nat} {u : SS} {cc : ByteArray} {nL pc : Nat} {y : MethodName} {ret : Option FieldType} {ls : Array Slot} {rest : List Value} (F : FX p m c cc nL s args y ret RX2 meth) (hw : WD G A s (sw G ad u) H locs) (hi : ix i 600 = true) (hdg : decode cc pc = .ok (.iaload, 1)) (kk : W p l e R s m args below meth c H locs cells slots Q (F0 m (pc + 1) ls (.int ((u.2.2.1 6) i.toNatClampNeg) :: rest))) : W p l e R s m args below meth c H locs cells slots Q (F0 m pc ls (.int i :: .ref (ad 13) :: rest)) := va_iald F.1.1 F.1.2.1 hw.1.1 hw.2.1 13 0 rfl rfl (ix_in hi) hdg kk
def rmX2_innerAt : Room := { frames := 0, cells := 0, slots := 0, locals := 0 }
noncomputable def f_X2_innerAt (x1 : Int32) (u : SS) : Option (Int32) := (if x1 < 0 then some (-1) else (if (600 : Int32) ≤ x1 then some (-1) else (if ix x1 600 = true then (if ix ((u.1 1) (Int32.toNatClampNeg x1)) 600 = true then some ((u.2.2.1 6) (Int32.toNatClampNeg ((u.1 1) (Int32.toNatClampNeg x1)))) else none) else none)))
section
variable {p : Program} {l : Launch} {e : Env} {s : State} {m : MethodId} {args : Array Value} {below : List Frame} {meth : Method} {c : Code}
variable {G : GX} {A : Nat → Prop} {ad : Nat → Nat} 
set_option maxHeartbeats 4000000 in
set_option maxRecDepth 100000 in
theorem w_X2_innerAt_0 (F : FX p m c cX2_innerAt 2 s args yX2_innerAt (some .int) RX2 meth) {z : Int32} : ∀ (x1 : Int32) (u : SS) (ls : Array Slot), WD G A s (sw G ad u) s.heap [] → lv_has ls 2 [(0, .ref (ad 0)), (1, .int x1)] → f_X2_innerAt x1 u = some z → W p l e rmX2_innerAt s m args below meth c s.heap [] 0 0 (MQ below (QO (some (.int z))) args s 0 0 (fun _ => False)) (F0 m 0 ls []) := by
  obtain ⟨⟨hx, hb, hml, hown, hts⟩, hr, hlocks⟩ := id F
  intro x1 u ls hw hl h
  unfold f_X2_innerAt at h
  refine lv_iload_n hx hb dX2_innerAt_0 rfl (lv_at hl 1 rfl) ?_
  refine lv_if_lt (tgt := 28) hx hb dX2_innerAt_1 rfl (fun c1 => ?_) (fun c1 => ?_)
  · replace h := itT h c1
    refine lv_iconst (v := (-1)) hx hb dX2_innerAt_28 rfl ?_
    cases h
    exact retO_i F dX2_innerAt_29
  · replace h := itF h c1
    refine lv_iload_n hx hb dX2_innerAt_4 rfl (lv_at hl 1 rfl) ?_
    refine lv_sipush (v := 600) hx hb dX2_innerAt_5 rfl ?_
    refine lv_icmp_ge (tgt := 28) hx hb dX2_innerAt_8 rfl (fun c2 => ?_) (fun c2 => ?_)
    · replace h := itT h c2
      refine lv_iconst (v := (-1)) hx hb dX2_innerAt_28 rfl ?_
      cases h
      exact retO_i F dX2_innerAt_29
    · replace h := itF h c2
      refine lv_aload_n hx hb dX2_innerAt_11 rfl (lv_at hl 0 rfl) ?_
      refine s_g0_6 F hw dX2_innerAt_12 ?_
      refine lv_aload_n hx hb dX2_innerAt_15 rfl (lv_at hl 0 rfl) ?_
      refine s_g0_0 F hw dX2_innerAt_16 ?_
      refine s_g1_0 F hw dX2_innerAt_19 ?_
      refine lv_iload_n hx hb dX2_innerAt_22 rfl (lv_at hl 1 rfl) ?_
      obtain ⟨g3, h⟩ := gd h
      refine s_l2 F hw g3 dX2_innerAt_23 ?_
      obtain ⟨g4, h⟩ := gd h
      refine s_l13 F hw g4 dX2_innerAt_24 ?_
      refine lv_goto (tgt := 29) hx hb dX2_innerAt_25 rfl ?_
      cases h
      exact retO_i F dX2_innerAt_29
end
theorem c_X2_innerAt {l : Launch} {G : GX} {ad : Nat → Nat} {x1 : Int32} {u : SS} {z : Int32} (h : f_X2_innerAt x1 u = some z) : MO l yX2_innerAt cX2_innerAt 2 (some .int) rmX2_innerAt G (sw G ad u) [.ref (ad 0), .int x1] (some (.int z)) := MO.of (by decide) (Nat.le_of_ble_eq_true rfl) (fun p e s m below meth c ls F hw hl => w_X2_innerAt_0 F _ _ _ hw hl h)
/-! ===== X2_setInner ===== -/
theorem dX2_setInner_0 : decode cX2_setInner 0 = .ok (.iload_n 1, 1) := by decide +kernel
theorem dX2_setInner_1 : decode cX2_setInner 1 = .ok (.ifCond .lt 25, 3) := by decide +kernel
theorem dX2_setInner_4 : decode cX2_setInner 4 = .ok (.iload_n 1, 1) := by decide +kernel
theorem dX2_setInner_5 : decode cX2_setInner 5 = .ok (.sipush 600, 3) := by decide +kernel
theorem dX2_setInner_8 : decode cX2_setInner 8 = .ok (.if_icmp .ge 18, 3) := by decide +kernel
theorem dX2_setInner_11 : decode cX2_setInner 11 = .ok (.aload_n 0, 1) := by decide +kernel
theorem dX2_setInner_12 : decode cX2_setInner 12 = .ok (.getfield 39, 3) := by decide +kernel
theorem dX2_setInner_15 : decode cX2_setInner 15 = .ok (.aload_n 0, 1) := by decide +kernel
theorem dX2_setInner_16 : decode cX2_setInner 16 = .ok (.getfield 12, 3) := by decide +kernel
theorem dX2_setInner_19 : decode cX2_setInner 19 = .ok (.getfield 104, 3) := by decide +kernel
theorem dX2_setInner_22 : decode cX2_setInner 22 = .ok (.iload_n 1, 1) := by decide +kernel
theorem dX2_setInner_23 : decode cX2_setInner 23 = .ok (.iaload, 1) := by decide +kernel
theorem dX2_setInner_24 : decode cX2_setInner 24 = .ok (.iload_n 2, 1) := by decide +kernel
theorem dX2_setInner_25 : decode cX2_setInner 25 = .ok (.iastore, 1) := by decide +kernel
theorem dX2_setInner_26 : decode cX2_setInner 26 = .ok (.return_, 1) := by decide +kernel
theorem s_s13 {i : Int32} {x : Int32} {p : Program} {l : Launch} {e : Env} {R : Room} {s : State} {m : MethodId} {args : Array Value} {below : List Frame} {meth : Method} {c : Code} {H : Heap} {locs : List Loc} {cells slots : Nat} {Q : State → Prop} {G : GX} {A : Nat → Prop} {ad : Nat → Nat} {u : SS} {cc : ByteArray} {nL pc : Nat} {y : MethodName} {ret : Option FieldType} {ls : Array Slot} {rest : List Value} (F : FX p m c cc nL s args y ret RX2 meth) (hw : WD G A s (sw G ad u) H locs) (hi : ix i 600 = true) (hdg : decode cc pc = .ok (.iastore, 1)) (kk : ∀ (H : Heap) (locs : List Loc), WD G A s (sw G ad (sA u 6 i.toNatClampNeg x)) H locs → W p l e R s m args below meth c H locs cells slots Q (F0 m (pc + 1) ls (rest))) : W p l e R s m args below meth c H locs cells slots Q (F0 m pc ls (.int x :: .int i :: .ref (ad 13) :: rest)) := va_iast F.1.1 F.1.2.1 hw.1.1 hw.2.1 hw.2.2.1 hw.2.2.2 13 0 rfl rfl (ix_in hi) hdg (fun H1 l1 hP hD hS => kk H1 l1 ⟨hw.1, hP, hD, hS⟩)
def rmX2_setInner : Room := { frames := 0, cells := 0, slots := 0, locals := 0 }
noncomputable def f_X2_setInner (x1 : Int32) (x2 : Int32) (u : SS) : Option (SS) := (if x1 < 0 then some u else (if (600 : Int32) ≤ x1 then some u else (if ix x1 600 = true then (if ix ((u.1 1) (Int32.toNatClampNeg x1)) 600 = true then some (sA u 6 (Int32.toNatClampNeg ((u.1 1) (Int32.toNatClampNeg x1))) x2) else none) else none)))
section
variable {p : Program} {l : Launch} {e : Env} {s : State} {m : MethodId} {args : Array Value} {below : List Frame} {meth : Method} {c : Code}
variable {G : GX} {A : Nat → Prop} {ad : Nat → Nat} 
set_option maxHeartbeats 4000000 in
set_option maxRecDepth 100000 in
theorem w_X2_setInner_0 (F : FX p m c cX2_setInner 3 s args yX2_setInner none RX2 meth) {z : SS} : ∀ (x1 : Int32) (x2 : Int32) (u : SS) (H : Heap) (locs : List Loc) (ls : Array Slot), WD G A s (sw G ad u) H locs → lv_has ls 3 [(0, .ref (ad 0)), (1, .int x1), (2, .int x2)] → f_X2_setInner x1 x2 u = some z → W p l e rmX2_setInner s m args below meth c H locs 0 0 (MQ below (QW G (sw G ad z) A none) args s 0 0 A) (F0 m 0 ls []) := by
  obtain ⟨⟨hx, hb, hml, hown, hts⟩, hr, hlocks⟩ := id F
  intro x1 x2 u H locs ls hw hl h
  unfold f_X2_setInner at h
  refine lv_iload_n hx hb dX2_setInner_0 rfl (lv_at hl 1 rfl) ?_
  refine lv_if_lt (tgt := 26) hx hb dX2_setInner_1 rfl (fun c1 => ?_) (fun c1 => ?_)
  · replace h := itT h c1
    cases h
    exact retW_v F hw dX2_setInner_26
  · replace h := itF h c1
    refine lv_iload_n hx hb dX2_setInner_4 rfl (lv_at hl 1 rfl) ?_
    refine lv_sipush (v := 600) hx hb dX2_setInner_5 rfl ?_
    refine lv_icmp_ge (tgt := 26) hx hb dX2_setInner_8 rfl (fun c2 => ?_) (fun c2 => ?_)
    · replace h := itT h c2
      cases h
      exact retW_v F hw dX2_setInner_26
    · replace h := itF h c2
      refine lv_aload_n hx hb dX2_setInner_11 rfl (lv_at hl 0 rfl) ?_
      refine s_g0_6 F hw dX2_setInner_12 ?_
      refine lv_aload_n hx hb dX2_setInner_15 rfl (lv_at hl 0 rfl) ?_
      refine s_g0_0 F hw dX2_setInner_16 ?_
      refine s_g1_0 F hw dX2_setInner_19 ?_
      refine lv_iload_n hx hb dX2_setInner_22 rfl (lv_at hl 1 rfl) ?_
      obtain ⟨g3, h⟩ := gd h
      refine s_l2 F hw g3 dX2_setInner_23 ?_
      refine lv_iload_n hx hb dX2_setInner_24 rfl (lv_at hl 2 rfl) ?_
      obtain ⟨g4, h⟩ := gd h
      refine s_s13 F hw g4 dX2_setInner_25 (fun H locs hw => ?_)
      cases h
      exact retW_v F hw dX2_setInner_26
end
theorem c_X2_setInner {l : Launch} {G : GX} {ad : Nat → Nat} {x1 : Int32} {x2 : Int32} {u : SS} {z : SS} (h : f_X2_setInner x1 x2 u = some z) : MW l yX2_setInner cX2_setInner 3 none rmX2_setInner G (sw G ad u) (sw G ad z) [.ref (ad 0), .int x1, .int x2] none := MW.of (by decide) (Nat.le_of_ble_eq_true rfl) (fun p e s m below meth c ls F hw hl => w_X2_setInner_0 F _ _ _ _ _ _ hw hl h)
/-! ===== X2_inOneRow ===== -/
theorem dX2_inOneRow_0 : decode cX2_inOneRow 0 = .ok (.aload_n 0, 1) := by decide +kernel
theorem dX2_inOneRow_1 : decode cX2_inOneRow 1 = .ok (.getfield 12, 3) := by decide +kernel
theorem dX2_inOneRow_4 : decode cX2_inOneRow 4 = .ok (.iload_n 1, 1) := by decide +kernel
theorem dX2_inOneRow_5 : decode cX2_inOneRow 5 = .ok (.invokevirtual 101, 3) := by decide +kernel
theorem dX2_inOneRow_8 : decode cX2_inOneRow 8 = .ok (.aload_n 0, 1) := by decide +kernel
theorem dX2_inOneRow_9 : decode cX2_inOneRow 9 = .ok (.getfield 12, 3) := by decide +kernel
theorem dX2_inOneRow_12 : decode cX2_inOneRow 12 = .ok (.iload_n 2, 1) := by decide +kernel
theorem dX2_inOneRow_13 : decode cX2_inOneRow 13 = .ok (.invokevirtual 101, 3) := by decide +kernel
theorem dX2_inOneRow_16 : decode cX2_inOneRow 16 = .ok (.if_icmp .ne 7, 3) := by decide +kernel
theorem dX2_inOneRow_19 : decode cX2_inOneRow 19 = .ok (.iconst 1, 1) := by decide +kernel
theorem dX2_inOneRow_20 : decode cX2_inOneRow 20 = .ok (.goto 4, 3) := by decide +kernel
theorem dX2_inOneRow_23 : decode cX2_inOneRow 23 = .ok (.iconst 0, 1) := by decide +kernel
theorem dX2_inOneRow_24 : decode cX2_inOneRow 24 = .ok (.ireturn, 1) := by decide +kernel
def rmX2_inOneRow : Room := { frames := 1, cells := 0, slots := 0, locals := 21 }
noncomputable def f_X2_inOneRow (x1 : Int32) (x2 : Int32) (u : SS) : Option (Int32) := (f_X1_rowOfThing x1 u.1).bind (fun z1 => (f_X1_rowOfThing x2 u.1).bind (fun z3 => (if z1 = z3 then some 1 else some 0)))
section
variable {p : Program} {l : Launch} {e : Env} {s : State} {m : MethodId} {args : Array Value} {below : List Frame} {meth : Method} {c : Code}
variable {G : GX} {A : Nat → Prop} {ad : Nat → Nat} 
set_option maxHeartbeats 4000000 in
set_option maxRecDepth 100000 in
theorem w_X2_inOneRow_0 (F : FX p m c cX2_inOneRow 3 s args yX2_inOneRow (some .boolean) RX2 meth) {z : Int32} : ∀ (x1 : Int32) (x2 : Int32) (u : SS) (ls : Array Slot), WD G A s (sw G ad u) s.heap [] → lv_has ls 3 [(0, .ref (ad 0)), (1, .int x1), (2, .int x2)] → f_X2_inOneRow x1 x2 u = some z → W p l e rmX2_inOneRow s m args below meth c s.heap [] 0 0 (MQ below (QO (some (.int z))) args s 0 0 (fun _ => False)) (F0 m 0 ls []) := by
  obtain ⟨⟨hx, hb, hml, hown, hts⟩, hr, hlocks⟩ := id F
  intro x1 x2 u ls hw hl h
  unfold f_X2_inOneRow at h
  refine lv_aload_n hx hb dX2_inOneRow_0 rfl (lv_at hl 0 rfl) ?_
  refine s_g0_0 F hw dX2_inOneRow_1 ?_
  refine lv_iload_n hx hb dX2_inOneRow_4 rfl (lv_at hl 1 rfl) ?_
  obtain ⟨z1, e2, h⟩ := bnd h
  refine k_X1_rowOfThing_s_ F hw e2 ⟨Nat.le_of_ble_eq_true rfl, Nat.le_of_ble_eq_true rfl⟩ ⟨Nat.zero_le _, Nat.zero_le _⟩ hl.1 (Nat.le_of_ble_eq_true rfl) dX2_inOneRow_5 ?_
  refine lv_aload_n hx hb dX2_inOneRow_8 rfl (lv_at hl 0 rfl) ?_
  refine s_g0_0 F hw dX2_inOneRow_9 ?_
  refine lv_iload_n hx hb dX2_inOneRow_12 rfl (lv_at hl 2 rfl) ?_
  obtain ⟨z3, e4, h⟩ := bnd h
  refine k_X1_rowOfThing_s_ F hw e4 ⟨Nat.le_of_ble_eq_true rfl, Nat.le_of_ble_eq_true rfl⟩ ⟨Nat.zero_le _, Nat.zero_le _⟩ hl.1 (Nat.le_of_ble_eq_true rfl) dX2_inOneRow_13 ?_
  refine lv_icmp_ne (tgt := 23) hx hb dX2_inOneRow_16 rfl (fun c5 => ?_) (fun c5 => ?_)
  · replace h := itF h c5
    refine lv_iconst (v := 0) hx hb dX2_inOneRow_23 rfl ?_
    cases h
    exact retO_z F narrow_b0 dX2_inOneRow_24
  · replace h := itT h c5
    refine lv_iconst (v := 1) hx hb dX2_inOneRow_19 rfl ?_
    refine lv_goto (tgt := 24) hx hb dX2_inOneRow_20 rfl ?_
    cases h
    exact retO_z F narrow_b1 dX2_inOneRow_24
end
theorem c_X2_inOneRow {l : Launch} {G : GX} {ad : Nat → Nat} {x1 : Int32} {x2 : Int32} {u : SS} {z : Int32} (h : f_X2_inOneRow x1 x2 u = some z) : MO l yX2_inOneRow cX2_inOneRow 3 (some .boolean) rmX2_inOneRow G (sw G ad u) [.ref (ad 0), .int x1, .int x2] (some (.int z)) := MO.of (by decide) (Nat.le_of_ble_eq_true rfl) (fun p e s m below meth c ls F hw hl => w_X2_inOneRow_0 F _ _ _ _ hw hl h)
/-! ===== X2_isAhead ===== -/
theorem dX2_isAhead_0 : decode cX2_isAhead 0 = .ok (.aload_n 0, 1) := by decide +kernel
theorem dX2_isAhead_1 : decode cX2_isAhead 1 = .ok (.getfield 35, 3) := by decide +kernel
theorem dX2_isAhead_4 : decode cX2_isAhead 4 = .ok (.iload_n 1, 1) := by decide +kernel
theorem dX2_isAhead_5 : decode cX2_isAhead 5 = .ok (.laload, 1) := by decide +kernel
theorem dX2_isAhead_6 : decode cX2_isAhead 6 = .ok (.aload_n 0, 1) := by decide +kernel
theorem dX2_isAhead_7 : decode cX2_isAhead 7 = .ok (.getfield 35, 3) := by decide +kernel
theorem dX2_isAhead_10 : decode cX2_isAhead 10 = .ok (.iload_n 2, 1) := by decide +kernel
theorem dX2_isAhead_11 : decode cX2_isAhead 11 = .ok (.laload, 1) := by decide +kernel
theorem dX2_isAhead_12 : decode cX2_isAhead 12 = .ok (.lcmp, 1) := by decide +kernel
theorem dX2_isAhead_13 : decode cX2_isAhead 13 = .ok (.ifCond .eq 25, 3) := by decide +kernel
theorem dX2_isAhead_16 : decode cX2_isAhead 16 = .ok (.aload_n 0, 1) := by decide +kernel
theorem dX2_isAhead_17 : decode cX2_isAhead 17 = .ok (.getfield 35, 3) := by decide +kernel
theorem dX2_isAhead_20 : decode cX2_isAhead 20 = .ok (.iload_n 1, 1) := by decide +kernel
theorem dX2_isAhead_21 : decode cX2_isAhead 21 = .ok (.laload, 1) := by decide +kernel
theorem dX2_isAhead_22 : decode cX2_isAhead 22 = .ok (.aload_n 0, 1) := by decide +kernel
theorem dX2_isAhead_23 : decode cX2_isAhead 23 = .ok (.getfield 35, 3) := by decide +kernel
theorem dX2_isAhead_26 : decode cX2_isAhead 26 = .ok (.iload_n 2, 1) := by decide +kernel
theorem dX2_isAhead_27 : decode cX2_isAhead 27 = .ok (.laload, 1) := by decide +kernel
theorem dX2_isAhead_28 : decode cX2_isAhead 28 = .ok (.lcmp, 1) := by decide +kernel
theorem dX2_isAhead_29 : decode cX2_isAhead 29 = .ok (.ifCond .ge 7, 3) := by decide +kernel
theorem dX2_isAhead_32 : decode cX2_isAhead 32 = .ok (.iconst 1, 1) := by decide +kernel
theorem dX2_isAhead_33 : decode cX2_isAhead 33 = .ok (.goto 4, 3) := by decide +kernel
theorem dX2_isAhead_36 : decode cX2_isAhead 36 = .ok (.iconst 0, 1) := by decide +kernel
theorem dX2_isAhead_37 : decode cX2_isAhead 37 = .ok (.ireturn, 1) := by decide +kernel
theorem dX2_isAhead_38 : decode cX2_isAhead 38 = .ok (.aload_n 0, 1) := by decide +kernel
theorem dX2_isAhead_39 : decode cX2_isAhead 39 = .ok (.getfield 39, 3) := by decide +kernel
theorem dX2_isAhead_42 : decode cX2_isAhead 42 = .ok (.iload_n 1, 1) := by decide +kernel
theorem dX2_isAhead_43 : decode cX2_isAhead 43 = .ok (.iaload, 1) := by decide +kernel
theorem dX2_isAhead_44 : decode cX2_isAhead 44 = .ok (.aload_n 0, 1) := by decide +kernel
theorem dX2_isAhead_45 : decode cX2_isAhead 45 = .ok (.getfield 39, 3) := by decide +kernel
theorem dX2_isAhead_48 : decode cX2_isAhead 48 = .ok (.iload_n 2, 1) := by decide +kernel
theorem dX2_isAhead_49 : decode cX2_isAhead 49 = .ok (.iaload, 1) := by decide +kernel
theorem dX2_isAhead_50 : decode cX2_isAhead 50 = .ok (.if_icmp .ge 7, 3) := by decide +kernel
theorem dX2_isAhead_53 : decode cX2_isAhead 53 = .ok (.iconst 1, 1) := by decide +kernel
theorem dX2_isAhead_54 : decode cX2_isAhead 54 = .ok (.goto 4, 3) := by decide +kernel
theorem dX2_isAhead_57 : decode cX2_isAhead 57 = .ok (.iconst 0, 1) := by decide +kernel
theorem dX2_isAhead_58 : decode cX2_isAhead 58 = .ok (.ireturn, 1) := by decide +kernel
def rmX2_isAhead : Room := { frames := 0, cells := 0, slots := 0, locals := 0 }
noncomputable def f_X2_isAhead (x1 : Int32) (x2 : Int32) (u : SS) : Option (Int32) := (if ix x1 600 = true then (if ix x2 600 = true then (if (lg_cmp (u.2.2.2.1 (Int32.toNatClampNeg x1)) (u.2.2.2.1 (Int32.toNatClampNeg x2))) = 0 then (if ix x1 600 = true then (if ix x2 600 = true then (if ((u.2.2.1 6) (Int32.toNatClampNeg x2)) ≤ ((u.2.2.1 6) (Int32.toNatClampNeg x1)) then some 0 else some 1) else none) else none) else (if ix x1 600 = true then (if ix x2 600 = true then (if 0 ≤ (lg_cmp (u.2.2.2.1 (Int32.toNatClampNeg x1)) (u.2.2.2.1 (Int32.toNatClampNeg x2))) then some 0 else some 1) else none) else none)) else none) else none)
section
variable {p : Program} {l : Launch} {e : Env} {s : State} {m : MethodId} {args : Array Value} {below : List Frame} {meth : Method} {c : Code}
variable {G : GX} {A : Nat → Prop} {ad : Nat → Nat} 
set_option maxHeartbeats 4000000 in
set_option maxRecDepth 100000 in
theorem w_X2_isAhead_0 (F : FX p m c cX2_isAhead 3 s args yX2_isAhead (some .boolean) RX2 meth) {z : Int32} : ∀ (x1 : Int32) (x2 : Int32) (u : SS) (ls : Array Slot), WD G A s (sw G ad u) s.heap [] → lv_has ls 3 [(0, .ref (ad 0)), (1, .int x1), (2, .int x2)] → f_X2_isAhead x1 x2 u = some z → W p l e rmX2_isAhead s m args below meth c s.heap [] 0 0 (MQ below (QO (some (.int z))) args s 0 0 (fun _ => False)) (F0 m 0 ls []) := by
  obtain ⟨⟨hx, hb, hml, hown, hts⟩, hr, hlocks⟩ := id F
  intro x1 x2 u ls hw hl h
  unfold f_X2_isAhead at h
  refine lv_aload_n hx hb dX2_isAhead_0 rfl (lv_at hl 0 rfl) ?_
  refine s_g0_5 F hw dX2_isAhead_1 ?_
  refine lv_iload_n hx hb dX2_isAhead_4 rfl (lv_at hl 1 rfl) ?_
  obtain ⟨g1, h⟩ := gd h
  refine s_l12 F hw g1 dX2_isAhead_5 ?_
  refine lv_aload_n hx hb dX2_isAhead_6 rfl (lv_at hl 0 rfl) ?_
  refine s_g0_5 F hw dX2_isAhead_7 ?_
  refine lv_iload_n hx hb dX2_isAhead_10 rfl (lv_at hl 2 rfl) ?_
  obtain ⟨g2, h⟩ := gd h
  refine s_l12 F hw g2 dX2_isAhead_11 ?_
  refine W.lcmp hx hb dX2_isAhead_12 ?_
  refine lv_if_eq (tgt := 38) hx hb dX2_isAhead_13 rfl (fun c3 => ?_) (fun c3 => ?_)
  · replace h := itT h c3
    refine lv_aload_n hx hb dX2_isAhead_38 rfl (lv_at hl 0 rfl) ?_
    refine s_g0_6 F hw dX2_isAhead_39 ?_
    refine lv_iload_n hx hb dX2_isAhead_42 rfl (lv_at hl 1 rfl) ?_
    obtain ⟨g4, h⟩ := gd h
    refine s_l13 F hw g4 dX2_isAhead_43 ?_
    refine lv_aload_n hx hb dX2_isAhead_44 rfl (lv_at hl 0 rfl) ?_
    refine s_g0_6 F hw dX2_isAhead_45 ?_
    refine lv_iload_n hx hb dX2_isAhead_48 rfl (lv_at hl 2 rfl) ?_
    obtain ⟨g5, h⟩ := gd h
    refine s_l13 F hw g5 dX2_isAhead_49 ?_
    refine lv_icmp_ge (tgt := 57) hx hb dX2_isAhead_50 rfl (fun c6 => ?_) (fun c6 => ?_)
    · replace h := itT h c6
      refine lv_iconst (v := 0) hx hb dX2_isAhead_57 rfl ?_
      cases h
      exact retO_z F narrow_b0 dX2_isAhead_58
    · replace h := itF h c6
      refine lv_iconst (v := 1) hx hb dX2_isAhead_53 rfl ?_
      refine lv_goto (tgt := 58) hx hb dX2_isAhead_54 rfl ?_
      cases h
      exact retO_z F narrow_b1 dX2_isAhead_58
  · replace h := itF h c3
    refine lv_aload_n hx hb dX2_isAhead_16 rfl (lv_at hl 0 rfl) ?_
    refine s_g0_5 F hw dX2_isAhead_17 ?_
    refine lv_iload_n hx hb dX2_isAhead_20 rfl (lv_at hl 1 rfl) ?_
    obtain ⟨g7, h⟩ := gd h
    refine s_l12 F hw g7 dX2_isAhead_21 ?_
    refine lv_aload_n hx hb dX2_isAhead_22 rfl (lv_at hl 0 rfl) ?_
    refine s_g0_5 F hw dX2_isAhead_23 ?_
    refine lv_iload_n hx hb dX2_isAhead_26 rfl (lv_at hl 2 rfl) ?_
    obtain ⟨g8, h⟩ := gd h
    refine s_l12 F hw g8 dX2_isAhead_27 ?_
    refine W.lcmp hx hb dX2_isAhead_28 ?_
    refine lv_if_ge (tgt := 36) hx hb dX2_isAhead_29 rfl (fun c9 => ?_) (fun c9 => ?_)
    · replace h := itT h c9
      refine lv_iconst (v := 0) hx hb dX2_isAhead_36 rfl ?_
      cases h
      exact retO_z F narrow_b0 dX2_isAhead_37
    · replace h := itF h c9
      refine lv_iconst (v := 1) hx hb dX2_isAhead_32 rfl ?_
      refine lv_goto (tgt := 37) hx hb dX2_isAhead_33 rfl ?_
      cases h
      exact retO_z F narrow_b1 dX2_isAhead_37
end
theorem c_X2_isAhead {l : Launch} {G : GX} {ad : Nat → Nat} {x1 : Int32} {x2 : Int32} {u : SS} {z : Int32} (h : f_X2_isAhead x1 x2 u = some z) : MO l yX2_isAhead cX2_isAhead 3 (some .boolean) rmX2_isAhead G (sw G ad u) [.ref (ad 0), .int x1, .int x2] (some (.int z)) := MO.of (by decide) (Nat.le_of_ble_eq_true rfl) (fun p e s m below meth c ls F hw hl => w_X2_isAhead_0 F _ _ _ _ hw hl h)
/-! ===== X2_encloses ===== -/
theorem dX2_encloses_0 : decode cX2_encloses 0 = .ok (.aload_n 0, 1) := by decide +kernel
theorem dX2_encloses_1 : decode cX2_encloses 1 = .ok (.iload_n 1, 1) := by decide +kernel
theorem dX2_encloses_2 : decode cX2_encloses 2 = .ok (.iload_n 2, 1) := by decide +kernel
theorem dX2_encloses_3 : decode cX2_encloses 3 = .ok (.invokevirtual 107, 3) := by decide +kernel
theorem dX2_encloses_6 : decode cX2_encloses 6 = .ok (.ifCond .eq 11, 3) := by decide +kernel
theorem dX2_encloses_9 : decode cX2_encloses 9 = .ok (.aload_n 0, 1) := by decide +kernel
theorem dX2_encloses_10 : decode cX2_encloses 10 = .ok (.iload_n 1, 1) := by decide +kernel
theorem dX2_encloses_11 : decode cX2_encloses 11 = .ok (.invokevirtual 94, 3) := by decide +kernel
theorem dX2_encloses_14 : decode cX2_encloses 14 = .ok (.ifCond .ne 5, 3) := by decide +kernel
theorem dX2_encloses_17 : decode cX2_encloses 17 = .ok (.iconst 0, 1) := by decide +kernel
theorem dX2_encloses_18 : decode cX2_encloses 18 = .ok (.ireturn, 1) := by decide +kernel
theorem dX2_encloses_19 : decode cX2_encloses 19 = .ok (.aload_n 0, 1) := by decide +kernel
theorem dX2_encloses_20 : decode cX2_encloses 20 = .ok (.iconst 2, 1) := by decide +kernel
theorem dX2_encloses_21 : decode cX2_encloses 21 = .ok (.iload_n 1, 1) := by decide +kernel
theorem dX2_encloses_22 : decode cX2_encloses 22 = .ok (.imul, 1) := by decide +kernel
theorem dX2_encloses_23 : decode cX2_encloses 23 = .ok (.iconst 2, 1) := by decide +kernel
theorem dX2_encloses_24 : decode cX2_encloses 24 = .ok (.iload_n 2, 1) := by decide +kernel
theorem dX2_encloses_25 : decode cX2_encloses 25 = .ok (.imul, 1) := by decide +kernel
theorem dX2_encloses_26 : decode cX2_encloses 26 = .ok (.invokevirtual 111, 3) := by decide +kernel
theorem dX2_encloses_29 : decode cX2_encloses 29 = .ok (.ifCond .eq 22, 3) := by decide +kernel
theorem dX2_encloses_32 : decode cX2_encloses 32 = .ok (.aload_n 0, 1) := by decide +kernel
theorem dX2_encloses_33 : decode cX2_encloses 33 = .ok (.iconst 2, 1) := by decide +kernel
theorem dX2_encloses_34 : decode cX2_encloses 34 = .ok (.iload_n 2, 1) := by decide +kernel
theorem dX2_encloses_35 : decode cX2_encloses 35 = .ok (.imul, 1) := by decide +kernel
theorem dX2_encloses_36 : decode cX2_encloses 36 = .ok (.iconst 2, 1) := by decide +kernel
theorem dX2_encloses_37 : decode cX2_encloses 37 = .ok (.iload_n 1, 1) := by decide +kernel
theorem dX2_encloses_38 : decode cX2_encloses 38 = .ok (.imul, 1) := by decide +kernel
theorem dX2_encloses_39 : decode cX2_encloses 39 = .ok (.iconst 1, 1) := by decide +kernel
theorem dX2_encloses_40 : decode cX2_encloses 40 = .ok (.iadd, 1) := by decide +kernel
theorem dX2_encloses_41 : decode cX2_encloses 41 = .ok (.invokevirtual 111, 3) := by decide +kernel
theorem dX2_encloses_44 : decode cX2_encloses 44 = .ok (.ifCond .eq 7, 3) := by decide +kernel
theorem dX2_encloses_47 : decode cX2_encloses 47 = .ok (.iconst 1, 1) := by decide +kernel
theorem dX2_encloses_48 : decode cX2_encloses 48 = .ok (.goto 4, 3) := by decide +kernel
theorem dX2_encloses_51 : decode cX2_encloses 51 = .ok (.iconst 0, 1) := by decide +kernel
theorem dX2_encloses_52 : decode cX2_encloses 52 = .ok (.ireturn, 1) := by decide +kernel
theorem yv_X2_inOneRow_X2 : YV RX2 107 yX2_inOneRow cX2_inOneRow 3 (some .boolean) 2 := ⟨(tw 336 (by decide +kernel) rfl), (tw 2 (by decide +kernel) rfl), (tw 333 (by decide +kernel) rfl), (tw 334 (by decide +kernel) rfl), (tw 335 (by decide +kernel) rfl), by decide +kernel⟩
theorem k_X2_inOneRow_s_ {p : Program} {l : Launch} {e : Env} {R : Room} {s : State} {m : MethodId} {args : Array Value} {below : List Frame} {meth : Method} {c : Code} {H : Heap} {locs : List Loc} {cells slots : Nat} {Q : State → Prop} {G : GX} {A : Nat → Prop} {ad : Nat → Nat} {u : SS} {cc : ByteArray} {nL pc : Nat} {y : MethodName} {ret : Option FieldType} {ls : Array Slot} {rest : List Value} {x1 : Int32} {x2 : Int32} {z : Int32} (F : FX p m c cc nL s args y ret RX2 meth) (hw : WD G A s (sw G ad u) H locs) (h : f_X2_inOneRow x1 x2 u = some z) (hR : rmX2_inOneRow.frames + 1 ≤ R.frames ∧ 8 + (3 + 11) + rmX2_inOneRow.locals ≤ R.locals) (hcs : cells ≤ R.cells ∧ slots ≤ R.slots) (hsz : ls.size = nL) (hW : (rest.map fun v => v.category).sum ≤ 8) (hdg : decode cc pc = .ok (.invokevirtual 107, 3)) (kk : W p l e R s m args below meth c H locs cells slots Q (F0 m (pc + 3) ls (.int z :: rest))) : W p l e R s m args below meth c H locs cells slots Q (F0 m pc ls (.int x2 :: .int x1 :: .ref (ad 0) :: rest)) := callO (runV F yv_X2_inOneRow_X2 (c_X2_inOneRow h) hw.1 hw.2.1 hw.2.2.1 rfl rfl rfl ⟨rfl, rfl⟩ hR hcs rfl hsz rfl hW hdg) kk
theorem yv_X2_isAhead_X2 : YV RX2 111 yX2_isAhead cX2_isAhead 3 (some .boolean) 2 := ⟨(tw 340 (by decide +kernel) rfl), (tw 2 (by decide +kernel) rfl), (tw 337 (by decide +kernel) rfl), (tw 338 (by decide +kernel) rfl), (tw 339 (by decide +kernel) rfl), by decide +kernel⟩
theorem k_X2_isAhead_s_ {p : Program} {l : Launch} {e : Env} {R : Room} {s : State} {m : MethodId} {args : Array Value} {below : List Frame} {meth : Method} {c : Code} {H : Heap} {locs : List Loc} {cells slots : Nat} {Q : State → Prop} {G : GX} {A : Nat → Prop} {ad : Nat → Nat} {u : SS} {cc : ByteArray} {nL pc : Nat} {y : MethodName} {ret : Option FieldType} {ls : Array Slot} {rest : List Value} {x1 : Int32} {x2 : Int32} {z : Int32} (F : FX p m c cc nL s args y ret RX2 meth) (hw : WD G A s (sw G ad u) H locs) (h : f_X2_isAhead x1 x2 u = some z) (hR : rmX2_isAhead.frames + 1 ≤ R.frames ∧ 8 + (3 + 11) + rmX2_isAhead.locals ≤ R.locals) (hcs : cells ≤ R.cells ∧ slots ≤ R.slots) (hsz : ls.size = nL) (hW : (rest.map fun v => v.category).sum ≤ 8) (hdg : decode cc pc = .ok (.invokevirtual 111, 3)) (kk : W p l e R s m args below meth c H locs cells slots Q (F0 m (pc + 3) ls (.int z :: rest))) : W p l e R s m args below meth c H locs cells slots Q (F0 m pc ls (.int x2 :: .int x1 :: .ref (ad 0) :: rest)) := callO (runV F yv_X2_isAhead_X2 (c_X2_isAhead h) hw.1 hw.2.1 hw.2.2.1 rfl rfl rfl ⟨rfl, rfl⟩ hR hcs rfl hsz rfl hW hdg) kk
def rmX2_encloses : Room := { frames := 2, cells := 0, slots := 0, locals := 43 }
noncomputable def f_X2_encloses (x1 : Int32) (x2 : Int32) (u : SS) : Option (Int32) := (f_X2_inOneRow x1 x2 u).bind (fun z1 => (if z1 = 0 then some 0 else (f_X2_isNested x1 u).bind (fun z4 => (if z4 = 0 then some 0 else (f_X2_isAhead (2 * x1) (2 * x2) u).bind (fun z7 => (if z7 = 0 then some 0 else (f_X2_isAhead (2 * x2) ((2 * x1) + 1) u).bind (fun z10 => (if z10 = 0 then some 0 else some 1))))))))
section
variable {p : Program} {l : Launch} {e : Env} {s : State} {m : MethodId} {args : Array Value} {below : List Frame} {meth : Method} {c : Code}
variable {G : GX} {A : Nat → Prop} {ad : Nat → Nat} 
set_option maxHeartbeats 4000000 in
set_option maxRecDepth 100000 in
theorem w_X2_encloses_0 (F : FX p m c cX2_encloses 3 s args yX2_encloses (some .boolean) RX2 meth) {z : Int32} : ∀ (x1 : Int32) (x2 : Int32) (u : SS) (ls : Array Slot), WD G A s (sw G ad u) s.heap [] → lv_has ls 3 [(0, .ref (ad 0)), (1, .int x1), (2, .int x2)] → f_X2_encloses x1 x2 u = some z → W p l e rmX2_encloses s m args below meth c s.heap [] 0 0 (MQ below (QO (some (.int z))) args s 0 0 (fun _ => False)) (F0 m 0 ls []) := by
  obtain ⟨⟨hx, hb, hml, hown, hts⟩, hr, hlocks⟩ := id F
  intro x1 x2 u ls hw hl h
  unfold f_X2_encloses at h
  refine lv_aload_n hx hb dX2_encloses_0 rfl (lv_at hl 0 rfl) ?_
  refine lv_iload_n hx hb dX2_encloses_1 rfl (lv_at hl 1 rfl) ?_
  refine lv_iload_n hx hb dX2_encloses_2 rfl (lv_at hl 2 rfl) ?_
  obtain ⟨z1, e2, h⟩ := bnd h
  refine k_X2_inOneRow_s_ F hw e2 ⟨Nat.le_of_ble_eq_true rfl, Nat.le_of_ble_eq_true rfl⟩ ⟨Nat.zero_le _, Nat.zero_le _⟩ hl.1 (Nat.le_of_ble_eq_true rfl) dX2_encloses_3 ?_
  refine lv_if_eq (tgt := 17) hx hb dX2_encloses_6 rfl (fun c3 => ?_) (fun c3 => ?_)
  · replace h := itT h c3
    refine lv_iconst (v := 0) hx hb dX2_encloses_17 rfl ?_
    cases h
    exact retO_z F narrow_b0 dX2_encloses_18
  · replace h := itF h c3
    refine lv_aload_n hx hb dX2_encloses_9 rfl (lv_at hl 0 rfl) ?_
    refine lv_iload_n hx hb dX2_encloses_10 rfl (lv_at hl 1 rfl) ?_
    obtain ⟨z4, e5, h⟩ := bnd h
    refine k_X2_isNested_s_ F hw e5 ⟨Nat.le_of_ble_eq_true rfl, Nat.le_of_ble_eq_true rfl⟩ ⟨Nat.zero_le _, Nat.zero_le _⟩ hl.1 (Nat.le_of_ble_eq_true rfl) dX2_encloses_11 ?_
    refine lv_if_ne (tgt := 19) hx hb dX2_encloses_14 rfl (fun c6 => ?_) (fun c6 => ?_)
    · replace h := itF h c6
      refine lv_aload_n hx hb dX2_encloses_19 rfl (lv_at hl 0 rfl) ?_
      refine lv_iconst (v := 2) hx hb dX2_encloses_20 rfl ?_
      refine lv_iload_n hx hb dX2_encloses_21 rfl (lv_at hl 1 rfl) ?_
      refine lv_imul hx hb dX2_encloses_22 ?_
      refine lv_iconst (v := 2) hx hb dX2_encloses_23 rfl ?_
      refine lv_iload_n hx hb dX2_encloses_24 rfl (lv_at hl 2 rfl) ?_
      refine lv_imul hx hb dX2_encloses_25 ?_
      obtain ⟨z7, e8, h⟩ := bnd h
      refine k_X2_isAhead_s_ F hw e8 ⟨Nat.le_of_ble_eq_true rfl, Nat.le_of_ble_eq_true rfl⟩ ⟨Nat.zero_le _, Nat.zero_le _⟩ hl.1 (Nat.le_of_ble_eq_true rfl) dX2_encloses_26 ?_
      refine lv_if_eq (tgt := 51) hx hb dX2_encloses_29 rfl (fun c9 => ?_) (fun c9 => ?_)
      · replace h := itT h c9
        refine lv_iconst (v := 0) hx hb dX2_encloses_51 rfl ?_
        cases h
        exact retO_z F narrow_b0 dX2_encloses_52
      · replace h := itF h c9
        refine lv_aload_n hx hb dX2_encloses_32 rfl (lv_at hl 0 rfl) ?_
        refine lv_iconst (v := 2) hx hb dX2_encloses_33 rfl ?_
        refine lv_iload_n hx hb dX2_encloses_34 rfl (lv_at hl 2 rfl) ?_
        refine lv_imul hx hb dX2_encloses_35 ?_
        refine lv_iconst (v := 2) hx hb dX2_encloses_36 rfl ?_
        refine lv_iload_n hx hb dX2_encloses_37 rfl (lv_at hl 1 rfl) ?_
        refine lv_imul hx hb dX2_encloses_38 ?_
        refine lv_iconst (v := 1) hx hb dX2_encloses_39 rfl ?_
        refine lv_iadd hx hb dX2_encloses_40 ?_
        obtain ⟨z10, e11, h⟩ := bnd h
        refine k_X2_isAhead_s_ F hw e11 ⟨Nat.le_of_ble_eq_true rfl, Nat.le_of_ble_eq_true rfl⟩ ⟨Nat.zero_le _, Nat.zero_le _⟩ hl.1 (Nat.le_of_ble_eq_true rfl) dX2_encloses_41 ?_
        refine lv_if_eq (tgt := 51) hx hb dX2_encloses_44 rfl (fun c12 => ?_) (fun c12 => ?_)
        · replace h := itT h c12
          refine lv_iconst (v := 0) hx hb dX2_encloses_51 rfl ?_
          cases h
          exact retO_z F narrow_b0 dX2_encloses_52
        · replace h := itF h c12
          refine lv_iconst (v := 1) hx hb dX2_encloses_47 rfl ?_
          refine lv_goto (tgt := 52) hx hb dX2_encloses_48 rfl ?_
          cases h
          exact retO_z F narrow_b1 dX2_encloses_52
    · replace h := itT h c6
      refine lv_iconst (v := 0) hx hb dX2_encloses_17 rfl ?_
      cases h
      exact retO_z F narrow_b0 dX2_encloses_18
end
theorem c_X2_encloses {l : Launch} {G : GX} {ad : Nat → Nat} {x1 : Int32} {x2 : Int32} {u : SS} {z : Int32} (h : f_X2_encloses x1 x2 u = some z) : MO l yX2_encloses cX2_encloses 3 (some .boolean) rmX2_encloses G (sw G ad u) [.ref (ad 0), .int x1, .int x2] (some (.int z)) := MO.of (by decide) (Nat.le_of_ble_eq_true rfl) (fun p e s m below meth c ls F hw hl => w_X2_encloses_0 F _ _ _ _ hw hl h)
/-! ===== X2_innermost ===== -/
theorem dX2_innermost_0 : decode cX2_innermost 0 = .ok (.aload_n 0, 1) := by decide +kernel
theorem dX2_innermost_1 : decode cX2_innermost 1 = .ok (.getfield 12, 3) := by decide +kernel
theorem dX2_innermost_4 : decode cX2_innermost 4 = .ok (.iload_n 1, 1) := by decide +kernel
theorem dX2_innermost_5 : decode cX2_innermost 5 = .ok (.invokevirtual 101, 3) := by decide +kernel
theorem dX2_innermost_8 : decode cX2_innermost 8 = .ok (.istore_n 3, 1) := by decide +kernel
theorem dX2_innermost_9 : decode cX2_innermost 9 = .ok (.aload_n 0, 1) := by decide +kernel
theorem dX2_innermost_10 : decode cX2_innermost 10 = .ok (.iload_n 1, 1) := by decide +kernel
theorem dX2_innermost_11 : decode cX2_innermost 11 = .ok (.invokevirtual 114, 3) := by decide +kernel
theorem dX2_innermost_14 : decode cX2_innermost 14 = .ok (.iconst 1, 1) := by decide +kernel
theorem dX2_innermost_15 : decode cX2_innermost 15 = .ok (.isub, 1) := by decide +kernel
theorem dX2_innermost_16 : decode cX2_innermost 16 = .ok (.istore 4, 2) := by decide +kernel
theorem dX2_innermost_18 : decode cX2_innermost 18 = .ok (.iload 4, 2) := by decide +kernel
theorem dX2_innermost_20 : decode cX2_innermost 20 = .ok (.aload_n 0, 1) := by decide +kernel
theorem dX2_innermost_21 : decode cX2_innermost 21 = .ok (.getfield 12, 3) := by decide +kernel
theorem dX2_innermost_24 : decode cX2_innermost 24 = .ok (.iload_n 3, 1) := by decide +kernel
theorem dX2_innermost_25 : decode cX2_innermost 25 = .ok (.invokevirtual 81, 3) := by decide +kernel
theorem dX2_innermost_28 : decode cX2_innermost 28 = .ok (.if_icmp .lt 46, 3) := by decide +kernel
theorem dX2_innermost_31 : decode cX2_innermost 31 = .ok (.aload_n 0, 1) := by decide +kernel
theorem dX2_innermost_32 : decode cX2_innermost 32 = .ok (.getfield 12, 3) := by decide +kernel
theorem dX2_innermost_35 : decode cX2_innermost 35 = .ok (.iload 4, 2) := by decide +kernel
theorem dX2_innermost_37 : decode cX2_innermost 37 = .ok (.invokevirtual 117, 3) := by decide +kernel
theorem dX2_innermost_40 : decode cX2_innermost 40 = .ok (.invokestatic 120, 3) := by decide +kernel
theorem dX2_innermost_43 : decode cX2_innermost 43 = .ok (.istore 5, 2) := by decide +kernel
theorem dX2_innermost_45 : decode cX2_innermost 45 = .ok (.aload_n 0, 1) := by decide +kernel
theorem dX2_innermost_46 : decode cX2_innermost 46 = .ok (.iload 5, 2) := by decide +kernel
theorem dX2_innermost_48 : decode cX2_innermost 48 = .ok (.iload_n 1, 1) := by decide +kernel
theorem dX2_innermost_49 : decode cX2_innermost 49 = .ok (.invokevirtual 123, 3) := by decide +kernel
theorem dX2_innermost_52 : decode cX2_innermost 52 = .ok (.ifCond .eq 16, 3) := by decide +kernel
theorem dX2_innermost_55 : decode cX2_innermost 55 = .ok (.aload_n 0, 1) := by decide +kernel
theorem dX2_innermost_56 : decode cX2_innermost 56 = .ok (.iload 5, 2) := by decide +kernel
theorem dX2_innermost_58 : decode cX2_innermost 58 = .ok (.iload_n 2, 1) := by decide +kernel
theorem dX2_innermost_59 : decode cX2_innermost 59 = .ok (.invokevirtual 123, 3) := by decide +kernel
theorem dX2_innermost_62 : decode cX2_innermost 62 = .ok (.ifCond .eq 6, 3) := by decide +kernel
theorem dX2_innermost_65 : decode cX2_innermost 65 = .ok (.iload 5, 2) := by decide +kernel
theorem dX2_innermost_67 : decode cX2_innermost 67 = .ok (.ireturn, 1) := by decide +kernel
theorem dX2_innermost_68 : decode cX2_innermost 68 = .ok (.iinc 4 (-1), 3) := by decide +kernel
theorem dX2_innermost_71 : decode cX2_innermost 71 = .ok (.goto (-53), 3) := by decide +kernel
theorem dX2_innermost_74 : decode cX2_innermost 74 = .ok (.iconst (-1), 1) := by decide +kernel
theorem dX2_innermost_75 : decode cX2_innermost 75 = .ok (.ireturn, 1) := by decide +kernel
theorem yv_X2_firstPlace_X2 : YV RX2 114 yX2_firstPlace cX2_firstPlace 2 (some .int) 1 := ⟨(tw 303 (by decide +kernel) rfl), (tw 2 (by decide +kernel) rfl), (tw 365 (by decide +kernel) rfl), (tw 301 (by decide +kernel) rfl), (tw 302 (by decide +kernel) rfl), by decide +kernel⟩
theorem k_X2_firstPlace_s_ {p : Program} {l : Launch} {e : Env} {R : Room} {s : State} {m : MethodId} {args : Array Value} {below : List Frame} {meth : Method} {c : Code} {H : Heap} {locs : List Loc} {cells slots : Nat} {Q : State → Prop} {G : GX} {A : Nat → Prop} {ad : Nat → Nat} {u : SS} {cc : ByteArray} {nL pc : Nat} {y : MethodName} {ret : Option FieldType} {ls : Array Slot} {rest : List Value} {x1 : Int32} {z : Int32} (F : FX p m c cc nL s args y ret RX2 meth) (hw : WD G A s (sw G ad u) H locs) (h : f_X2_firstPlace x1 u = some z) (hR : rmX2_firstPlace.frames + 1 ≤ R.frames ∧ 8 + (2 + 11) + rmX2_firstPlace.locals ≤ R.locals) (hcs : cells ≤ R.cells ∧ slots ≤ R.slots) (hsz : ls.size = nL) (hW : (rest.map fun v => v.category).sum ≤ 8) (hdg : decode cc pc = .ok (.invokevirtual 114, 3)) (kk : W p l e R s m args below meth c H locs cells slots Q (F0 m (pc + 3) ls (.int z :: rest))) : W p l e R s m args below meth c H locs cells slots Q (F0 m pc ls (.int x1 :: .ref (ad 0) :: rest)) := callO (runV F yv_X2_firstPlace_X2 (c_X2_firstPlace h) hw.1 hw.2.1 hw.2.2.1 rfl rfl rfl ⟨rfl, rfl⟩ hR hcs rfl hsz rfl hW hdg) kk
theorem yv_X1_standAt_X2 : YV RX2 117 yX1_standAt cX1_standAt 2 (some .int) 1 := ⟨(tw 227 (by decide +kernel) rfl), (tw 3 (by decide +kernel) rfl), (tw 224 (by decide +kernel) rfl), (tw 225 (by decide +kernel) rfl), (tw 226 (by decide +kernel) rfl), by decide +kernel⟩
theorem k_X1_standAt_s_ {p : Program} {l : Launch} {e : Env} {R : Room} {s : State} {m : MethodId} {args : Array Value} {below : List Frame} {meth : Method} {c : Code} {H : Heap} {locs : List Loc} {cells slots : Nat} {Q : State → Prop} {G : GX} {A : Nat → Prop} {ad : Nat → Nat} {u : SS} {cc : ByteArray} {nL pc : Nat} {y : MethodName} {ret : Option FieldType} {ls : Array Slot} {rest : List Value} {x1 : Int32} {z : Int32} (F : FX p m c cc nL s args y ret RX2 meth) (hw : WD G A s (sw G ad u) H locs) (h : f_X1_standAt x1 u.1 = some z) (hR : rmX1_standAt.frames + 1 ≤ R.frames ∧ 8 + (2 + 11) + rmX1_standAt.locals ≤ R.locals) (hcs : cells ≤ R.cells ∧ slots ≤ R.slots) (hsz : ls.size = nL) (hW : (rest.map fun v => v.category).sum ≤ 8) (hdg : decode cc pc = .ok (.invokevirtual 117, 3)) (kk : W p l e R s m args below meth c H locs cells slots Q (F0 m (pc + 3) ls (.int z :: rest))) : W p l e R s m args below meth c H locs cells slots Q (F0 m pc ls (.int x1 :: .ref (ad 1) :: rest)) := callO (runV F yv_X1_standAt_X2 (c_X1_standAt h (ad := (fun k => ad (k + 1)))) hw.1 (hw.2.1.sub [1, 2, 3, 4] rfl) (hw.2.2.1.sub [1, 2, 3, 4] (by decide) rfl) rfl rfl rfl ⟨rfl, rfl⟩ hR hcs rfl hsz rfl hW hdg) kk
theorem yv_X3_thingOf_X2 : YN RX2 120 yX3_thingOf RX3 cX3_thingOf 1 (some .int) 1 := ⟨(tw 213 (by decide +kernel) rfl), (tw 1 (by decide +kernel) rfl), fun _ h => h.2.2.2.1, (tw 212 (by decide +kernel) rfl), by decide +kernel⟩
theorem k_X3_thingOf_s_ {p : Program} {l : Launch} {e : Env} {R : Room} {s : State} {m : MethodId} {args : Array Value} {below : List Frame} {meth : Method} {c : Code} {H : Heap} {locs : List Loc} {cells slots : Nat} {Q : State → Prop} {G : GX} {A : Nat → Prop} {ad : Nat → Nat} {u : SS} {cc : ByteArray} {nL pc : Nat} {y : MethodName} {ret : Option FieldType} {ls : Array Slot} {rest : List Value} {x0 : Int32} {z : Int32} (F : FX p m c cc nL s args y ret RX2 meth) (hw : WD G A s (sw G ad u) H locs) (h : f_X3_thingOf x0 = some z) (hR : rmX3_thingOf.frames + 1 ≤ R.frames ∧ 8 + (1 + 11) + rmX3_thingOf.locals ≤ R.locals) (hcs : cells ≤ R.cells ∧ slots ≤ R.slots) (hsz : ls.size = nL) (hW : (rest.map fun v => v.category).sum ≤ 8) (hdg : decode cc pc = .ok (.invokestatic 120, 3)) (kk : W p l e R s m args below meth c H locs cells slots Q (F0 m (pc + 3) ls (.int z :: rest))) : W p l e R s m args below meth c H locs cells slots Q (F0 m pc ls (.int x0 :: rest)) := callO (runN F yv_X3_thingOf_X2 (c_X3_thingOf h (G := G)) hw.1 nil_P (A := A) nil_D ⟨rfl, rfl⟩ hR hcs rfl hsz rfl hW hdg) kk
theorem yv_X2_encloses_X2 : YV RX2 123 yX2_encloses cX2_encloses 3 (some .boolean) 2 := ⟨(tw 332 (by decide +kernel) rfl), (tw 2 (by decide +kernel) rfl), (tw 367 (by decide +kernel) rfl), (tw 330 (by decide +kernel) rfl), (tw 331 (by decide +kernel) rfl), by decide +kernel⟩
theorem k_X2_encloses_s_ {p : Program} {l : Launch} {e : Env} {R : Room} {s : State} {m : MethodId} {args : Array Value} {below : List Frame} {meth : Method} {c : Code} {H : Heap} {locs : List Loc} {cells slots : Nat} {Q : State → Prop} {G : GX} {A : Nat → Prop} {ad : Nat → Nat} {u : SS} {cc : ByteArray} {nL pc : Nat} {y : MethodName} {ret : Option FieldType} {ls : Array Slot} {rest : List Value} {x1 : Int32} {x2 : Int32} {z : Int32} (F : FX p m c cc nL s args y ret RX2 meth) (hw : WD G A s (sw G ad u) H locs) (h : f_X2_encloses x1 x2 u = some z) (hR : rmX2_encloses.frames + 1 ≤ R.frames ∧ 8 + (3 + 11) + rmX2_encloses.locals ≤ R.locals) (hcs : cells ≤ R.cells ∧ slots ≤ R.slots) (hsz : ls.size = nL) (hW : (rest.map fun v => v.category).sum ≤ 8) (hdg : decode cc pc = .ok (.invokevirtual 123, 3)) (kk : W p l e R s m args below meth c H locs cells slots Q (F0 m (pc + 3) ls (.int z :: rest))) : W p l e R s m args below meth c H locs cells slots Q (F0 m pc ls (.int x2 :: .int x1 :: .ref (ad 0) :: rest)) := callO (runV F yv_X2_encloses_X2 (c_X2_encloses h) hw.1 hw.2.1 hw.2.2.1 rfl rfl rfl ⟨rfl, rfl⟩ hR hcs rfl hsz rfl hW hdg) kk
def rmX2_innermost : Room := { frames := 3, cells := 0, slots := 0, locals := 65 }
noncomputable def f_X2_innermost_18 : Nat → Int32 → Int32 → Int32 → Int32 → SS → Option (Int32)
  | 0, _, _, _, _, _ => none
  | n + 1, x1, x2, x3, x4, u => (f_X1_first x3 u.1).bind (fun z5 => (if x4 < z5 then some (-1) else (f_X1_standAt x4 u.1).bind (fun z8 => (f_X3_thingOf z8).bind (fun z10 => (f_X2_encloses z10 x1 u).bind (fun z12 => (if z12 = 0 then f_X2_innermost_18 n x1 x2 x3 (x4 + (-1)) u else (f_X2_encloses z10 x2 u).bind (fun z15 => (if z15 = 0 then f_X2_innermost_18 n x1 x2 x3 (x4 + (-1)) u else some z10))))))))
noncomputable def f_X2_innermost (x1 : Int32) (x2 : Int32) (u : SS) : Option (Int32) := (f_X1_rowOfThing x1 u.1).bind (fun z1 => (f_X2_firstPlace x1 u).bind (fun z3 => f_X2_innermost_18 NF x1 x2 z1 (z3 - 1) u))
section
variable {p : Program} {l : Launch} {e : Env} {s : State} {m : MethodId} {args : Array Value} {below : List Frame} {meth : Method} {c : Code}
variable {G : GX} {A : Nat → Prop} {ad : Nat → Nat} 
set_option maxHeartbeats 4000000 in
set_option maxRecDepth 100000 in
theorem w_X2_innermost_18 (F : FX p m c cX2_innermost 6 s args yX2_innermost (some .int) RX2 meth) {z : Int32} : ∀ (n : Nat) (x1 : Int32) (x2 : Int32) (x3 : Int32) (x4 : Int32) (u : SS) (ls : Array Slot), WD G A s (sw G ad u) s.heap [] → lv_has ls 6 [(0, .ref (ad 0)), (1, .int x1), (2, .int x2), (3, .int x3), (4, .int x4)] → f_X2_innermost_18 n x1 x2 x3 x4 u = some z → W p l e rmX2_innermost s m args below meth c s.heap [] 0 0 (MQ below (QO (some (.int z))) args s 0 0 (fun _ => False)) (F0 m 18 ls []) := by
  obtain ⟨⟨hx, hb, hml, hown, hts⟩, hr, hlocks⟩ := id F
  intro n
  induction n with
  | zero =>
    intro x1 x2 x3 x4 u ls hw hl h
    rw [f_X2_innermost_18] at h
    cases h
  | succ n ih =>
    intro x1 x2 x3 x4 u ls hw hl h
    rw [f_X2_innermost_18] at h
    refine lv_iload hx hb dX2_innermost_18 (lv_at hl 4 rfl) ?_
    refine lv_aload_n hx hb dX2_innermost_20 rfl (lv_at hl 0 rfl) ?_
    refine s_g0_0 F hw dX2_innermost_21 ?_
    refine lv_iload_n hx hb dX2_innermost_24 rfl (lv_at hl 3 rfl) ?_
    obtain ⟨z5, e6, h⟩ := bnd h
    refine k_X1_first_s_ F hw e6 ⟨Nat.le_of_ble_eq_true rfl, Nat.le_of_ble_eq_true rfl⟩ ⟨Nat.zero_le _, Nat.zero_le _⟩ hl.1 (Nat.le_of_ble_eq_true rfl) dX2_innermost_25 ?_
    refine lv_icmp_lt (tgt := 74) hx hb dX2_innermost_28 rfl (fun c7 => ?_) (fun c7 => ?_)
    · replace h := itT h c7
      refine lv_iconst (v := (-1)) hx hb dX2_innermost_74 rfl ?_
      cases h
      exact retO_i F dX2_innermost_75
    · replace h := itF h c7
      refine lv_aload_n hx hb dX2_innermost_31 rfl (lv_at hl 0 rfl) ?_
      refine s_g0_0 F hw dX2_innermost_32 ?_
      refine lv_iload hx hb dX2_innermost_35 (lv_at hl 4 rfl) ?_
      obtain ⟨z8, e9, h⟩ := bnd h
      refine k_X1_standAt_s_ F hw e9 ⟨Nat.le_of_ble_eq_true rfl, Nat.le_of_ble_eq_true rfl⟩ ⟨Nat.zero_le _, Nat.zero_le _⟩ hl.1 (Nat.le_of_ble_eq_true rfl) dX2_innermost_37 ?_
      obtain ⟨z10, e11, h⟩ := bnd h
      refine k_X3_thingOf_s_ F hw e11 ⟨Nat.le_of_ble_eq_true rfl, Nat.le_of_ble_eq_true rfl⟩ ⟨Nat.zero_le _, Nat.zero_le _⟩ hl.1 (Nat.le_of_ble_eq_true rfl) dX2_innermost_40 ?_
      refine lv_istore (lv' := [(5, .int z10), (0, .ref (ad 0)), (1, .int x1), (2, .int x2), (3, .int x3), (4, .int x4)]) hx hb dX2_innermost_43 hl (by decide) rfl (fun ls hl => ?_)
      refine lv_aload_n hx hb dX2_innermost_45 rfl (lv_at hl 1 rfl) ?_
      refine lv_iload hx hb dX2_innermost_46 (lv_at hl 0 rfl) ?_
      refine lv_iload_n hx hb dX2_innermost_48 rfl (lv_at hl 2 rfl) ?_
      obtain ⟨z12, e13, h⟩ := bnd h
      refine k_X2_encloses_s_ F hw e13 ⟨Nat.le_of_ble_eq_true rfl, Nat.le_of_ble_eq_true rfl⟩ ⟨Nat.zero_le _, Nat.zero_le _⟩ hl.1 (Nat.le_of_ble_eq_true rfl) dX2_innermost_49 ?_
      refine lv_if_eq (tgt := 68) hx hb dX2_innermost_52 rfl (fun c14 => ?_) (fun c14 => ?_)
      · replace h := itT h c14
        refine lv_iinc (v := (x4 + (-1))) (lv' := [(4, .int (x4 + (-1))), (5, .int z10), (0, .ref (ad 0)), (1, .int x1), (2, .int x2), (3, .int x3)]) hx hb dX2_innermost_68 hl (k := 5) rfl rfl (by decide) rfl (fun ls hl => ?_)
        refine lv_goto (tgt := 18) hx hb dX2_innermost_71 rfl ?_
        exact ih _ _ _ _ _ _ hw (lv_sub hl [2, 3, 4, 5, 0] rfl) h
      · replace h := itF h c14
        refine lv_aload_n hx hb dX2_innermost_55 rfl (lv_at hl 1 rfl) ?_
        refine lv_iload hx hb dX2_innermost_56 (lv_at hl 0 rfl) ?_
        refine lv_iload_n hx hb dX2_innermost_58 rfl (lv_at hl 3 rfl) ?_
        obtain ⟨z15, e16, h⟩ := bnd h
        refine k_X2_encloses_s_ F hw e16 ⟨Nat.le_of_ble_eq_true rfl, Nat.le_of_ble_eq_true rfl⟩ ⟨Nat.zero_le _, Nat.zero_le _⟩ hl.1 (Nat.le_of_ble_eq_true rfl) dX2_innermost_59 ?_
        refine lv_if_eq (tgt := 68) hx hb dX2_innermost_62 rfl (fun c17 => ?_) (fun c17 => ?_)
        · replace h := itT h c17
          refine lv_iinc (v := (x4 + (-1))) (lv' := [(4, .int (x4 + (-1))), (5, .int z10), (0, .ref (ad 0)), (1, .int x1), (2, .int x2), (3, .int x3)]) hx hb dX2_innermost_68 hl (k := 5) rfl rfl (by decide) rfl (fun ls hl => ?_)
          refine lv_goto (tgt := 18) hx hb dX2_innermost_71 rfl ?_
          exact ih _ _ _ _ _ _ hw (lv_sub hl [2, 3, 4, 5, 0] rfl) h
        · replace h := itF h c17
          refine lv_iload hx hb dX2_innermost_65 (lv_at hl 0 rfl) ?_
          cases h
          exact retO_i F dX2_innermost_67
set_option maxHeartbeats 4000000 in
set_option maxRecDepth 100000 in
theorem w_X2_innermost_0 (F : FX p m c cX2_innermost 6 s args yX2_innermost (some .int) RX2 meth) {z : Int32} : ∀ (x1 : Int32) (x2 : Int32) (u : SS) (ls : Array Slot), WD G A s (sw G ad u) s.heap [] → lv_has ls 6 [(0, .ref (ad 0)), (1, .int x1), (2, .int x2)] → f_X2_innermost x1 x2 u = some z → W p l e rmX2_innermost s m args below meth c s.heap [] 0 0 (MQ below (QO (some (.int z))) args s 0 0 (fun _ => False)) (F0 m 0 ls []) := by
  obtain ⟨⟨hx, hb, hml, hown, hts⟩, hr, hlocks⟩ := id F
  intro x1 x2 u ls hw hl h
  unfold f_X2_innermost at h
  refine lv_aload_n hx hb dX2_innermost_0 rfl (lv_at hl 0 rfl) ?_
  refine s_g0_0 F hw dX2_innermost_1 ?_
  refine lv_iload_n hx hb dX2_innermost_4 rfl (lv_at hl 1 rfl) ?_
  obtain ⟨z1, e2, h⟩ := bnd h
  refine k_X1_rowOfThing_s_ F hw e2 ⟨Nat.le_of_ble_eq_true rfl, Nat.le_of_ble_eq_true rfl⟩ ⟨Nat.zero_le _, Nat.zero_le _⟩ hl.1 (Nat.le_of_ble_eq_true rfl) dX2_innermost_5 ?_
  refine lv_istore_n (lv' := [(3, .int z1), (0, .ref (ad 0)), (1, .int x1), (2, .int x2)]) hx hb dX2_innermost_8 rfl hl (by decide) rfl (fun ls hl => ?_)
  refine lv_aload_n hx hb dX2_innermost_9 rfl (lv_at hl 1 rfl) ?_
  refine lv_iload_n hx hb dX2_innermost_10 rfl (lv_at hl 2 rfl) ?_
  obtain ⟨z3, e4, h⟩ := bnd h
  refine k_X2_firstPlace_s_ F hw e4 ⟨Nat.le_of_ble_eq_true rfl, Nat.le_of_ble_eq_true rfl⟩ ⟨Nat.zero_le _, Nat.zero_le _⟩ hl.1 (Nat.le_of_ble_eq_true rfl) dX2_innermost_11 ?_
  refine lv_iconst (v := 1) hx hb dX2_innermost_14 rfl ?_
  refine lv_isub hx hb dX2_innermost_15 ?_
  refine lv_istore (lv' := [(4, .int (z3 - 1)), (3, .int z1), (0, .ref (ad 0)), (1, .int x1), (2, .int x2)]) hx hb dX2_innermost_16 hl (by decide) rfl (fun ls hl => ?_)
  exact w_X2_innermost_18 F NF _ _ _ _ _ _ hw (lv_sub hl [2, 3, 4, 1, 0] rfl) h
end
theorem c_X2_innermost {l : Launch} {G : GX} {ad : Nat → Nat} {x1 : Int32} {x2 : Int32} {u : SS} {z : Int32} (h : f_X2_innermost x1 x2 u = some z) : MO l yX2_innermost cX2_innermost 6 (some .int) rmX2_innermost G (sw G ad u) [.ref (ad 0), .int x1, .int x2] (some (.int z)) := MO.of (by decide) (Nat.le_of_ble_eq_true rfl) (fun p e s m below meth c ls F hw hl => w_X2_innermost_0 F _ _ _ _ hw hl h)
end
section
/-! ===== X2_enclosingCount ===== -/
theorem dX2_enclosingCount_0 : decode cX2_enclosingCount 0 = .ok (.aload_n 0, 1) := by decide +kernel
theorem dX2_enclosingCount_1 : decode cX2_enclosingCount 1 = .ok (.getfield 12, 3) := by decide +kernel
theorem dX2_enclosingCount_4 : decode cX2_enclosingCount 4 = .ok (.iload_n 1, 1) := by decide +kernel
theorem dX2_enclosingCount_5 : decode cX2_enclosingCount 5 = .ok (.invokevirtual 101, 3) := by decide +kernel
theorem dX2_enclosingCount_8 : decode cX2_enclosingCount 8 = .ok (.istore_n 2, 1) := by decide +kernel
theorem dX2_enclosingCount_9 : decode cX2_enclosingCount 9 = .ok (.iconst 0, 1) := by decide +kernel
theorem dX2_enclosingCount_10 : decode cX2_enclosingCount 10 = .ok (.istore_n 3, 1) := by decide +kernel
theorem dX2_enclosingCount_11 : decode cX2_enclosingCount 11 = .ok (.aload_n 0, 1) := by decide +kernel
theorem dX2_enclosingCount_12 : decode cX2_enclosingCount 12 = .ok (.getfield 12, 3) := by decide +kernel
theorem dX2_enclosingCount_15 : decode cX2_enclosingCount 15 = .ok (.iload_n 2, 1) := by decide +kernel
theorem dX2_enclosingCount_16 : decode cX2_enclosingCount 16 = .ok (.invokevirtual 81, 3) := by decide +kernel
theorem dX2_enclosingCount_19 : decode cX2_enclosingCount 19 = .ok (.istore 4, 2) := by decide +kernel
theorem dX2_enclosingCount_21 : decode cX2_enclosingCount 21 = .ok (.iload 4, 2) := by decide +kernel
theorem dX2_enclosingCount_23 : decode cX2_enclosingCount 23 = .ok (.aload_n 0, 1) := by decide +kernel
theorem dX2_enclosingCount_24 : decode cX2_enclosingCount 24 = .ok (.getfield 12, 3) := by decide +kernel
theorem dX2_enclosingCount_27 : decode cX2_enclosingCount 27 = .ok (.iload_n 2, 1) := by decide +kernel
theorem dX2_enclosingCount_28 : decode cX2_enclosingCount 28 = .ok (.invokevirtual 84, 3) := by decide +kernel
theorem dX2_enclosingCount_31 : decode cX2_enclosingCount 31 = .ok (.if_icmp .ge 44, 3) := by decide +kernel
theorem dX2_enclosingCount_34 : decode cX2_enclosingCount 34 = .ok (.aload_n 0, 1) := by decide +kernel
theorem dX2_enclosingCount_35 : decode cX2_enclosingCount 35 = .ok (.getfield 12, 3) := by decide +kernel
theorem dX2_enclosingCount_38 : decode cX2_enclosingCount 38 = .ok (.iload 4, 2) := by decide +kernel
theorem dX2_enclosingCount_40 : decode cX2_enclosingCount 40 = .ok (.invokevirtual 117, 3) := by decide +kernel
theorem dX2_enclosingCount_43 : decode cX2_enclosingCount 43 = .ok (.istore 5, 2) := by decide +kernel
theorem dX2_enclosingCount_45 : decode cX2_enclosingCount 45 = .ok (.iload 5, 2) := by decide +kernel
theorem dX2_enclosingCount_47 : decode cX2_enclosingCount 47 = .ok (.invokestatic 126, 3) := by decide +kernel
theorem dX2_enclosingCount_50 : decode cX2_enclosingCount 50 = .ok (.ifCond .ne 19, 3) := by decide +kernel
theorem dX2_enclosingCount_53 : decode cX2_enclosingCount 53 = .ok (.aload_n 0, 1) := by decide +kernel
theorem dX2_enclosingCount_54 : decode cX2_enclosingCount 54 = .ok (.iload 5, 2) := by decide +kernel
theorem dX2_enclosingCount_56 : decode cX2_enclosingCount 56 = .ok (.invokestatic 120, 3) := by decide +kernel
theorem dX2_enclosingCount_59 : decode cX2_enclosingCount 59 = .ok (.iload_n 1, 1) := by decide +kernel
theorem dX2_enclosingCount_60 : decode cX2_enclosingCount 60 = .ok (.invokevirtual 123, 3) := by decide +kernel
theorem dX2_enclosingCount_63 : decode cX2_enclosingCount 63 = .ok (.ifCond .eq 6, 3) := by decide +kernel
theorem dX2_enclosingCount_66 : decode cX2_enclosingCount 66 = .ok (.iinc 3 1, 3) := by decide +kernel
theorem dX2_enclosingCount_69 : decode cX2_enclosingCount 69 = .ok (.iinc 4 1, 3) := by decide +kernel
theorem dX2_enclosingCount_72 : decode cX2_enclosingCount 72 = .ok (.goto (-51), 3) := by decide +kernel
theorem dX2_enclosingCount_75 : decode cX2_enclosingCount 75 = .ok (.iload_n 3, 1) := by decide +kernel
theorem dX2_enclosingCount_76 : decode cX2_enclosingCount 76 = .ok (.ireturn, 1) := by decide +kernel
theorem yv_X3_isEnd_X2 : YN RX2 126 yX3_isEnd RX3 cX3_isEnd 1 (some .boolean) 1 := ⟨(tw 324 (by decide +kernel) rfl), (tw 1 (by decide +kernel) rfl), fun _ h => h.2.2.2.2, (tw 323 (by decide +kernel) rfl), by decide +kernel⟩
theorem k_X3_isEnd_s_ {p : Program} {l : Launch} {e : Env} {R : Room} {s : State} {m : MethodId} {args : Array Value} {below : List Frame} {meth : Method} {c : Code} {H : Heap} {locs : List Loc} {cells slots : Nat} {Q : State → Prop} {G : GX} {A : Nat → Prop} {ad : Nat → Nat} {u : SS} {cc : ByteArray} {nL pc : Nat} {y : MethodName} {ret : Option FieldType} {ls : Array Slot} {rest : List Value} {x0 : Int32} {z : Int32} (F : FX p m c cc nL s args y ret RX2 meth) (hw : WD G A s (sw G ad u) H locs) (h : f_X3_isEnd x0 = some z) (hR : rmX3_isEnd.frames + 1 ≤ R.frames ∧ 8 + (1 + 11) + rmX3_isEnd.locals ≤ R.locals) (hcs : cells ≤ R.cells ∧ slots ≤ R.slots) (hsz : ls.size = nL) (hW : (rest.map fun v => v.category).sum ≤ 8) (hdg : decode cc pc = .ok (.invokestatic 126, 3)) (kk : W p l e R s m args below meth c H locs cells slots Q (F0 m (pc + 3) ls (.int z :: rest))) : W p l e R s m args below meth c H locs cells slots Q (F0 m pc ls (.int x0 :: rest)) := callO (runN F yv_X3_isEnd_X2 (c_X3_isEnd h (G := G)) hw.1 nil_P (A := A) nil_D ⟨rfl, rfl⟩ hR hcs rfl hsz rfl hW hdg) kk
def rmX2_enclosingCount : Room := { frames := 3, cells := 0, slots := 0, locals := 65 }
noncomputable def f_X2_enclosingCount_21 : Nat → Int32 → Int32 → Int32 → Int32 → SS → Option (Int32)
  | 0, _, _, _, _, _ => none
  | n + 1, x1, x2, x3, x4, u => (f_X1_end x2 u.1).bind (fun z5 => (if z5 ≤ x4 then some x3 else (f_X1_standAt x4 u.1).bind (fun z8 => (f_X3_isEnd z8).bind (fun z10 => (if z10 = 0 then (f_X3_thingOf z8).bind (fun z13 => (f_X2_encloses z13 x1 u).bind (fun z15 => (if z15 = 0 then f_X2_enclosingCount_21 n x1 x2 x3 (x4 + 1) u else f_X2_enclosingCount_21 n x1 x2 (x3 + 1) (x4 + 1) u))) else f_X2_enclosingCount_21 n x1 x2 x3 (x4 + 1) u)))))
noncomputable def f_X2_enclosingCount (x1 : Int32) (u : SS) : Option (Int32) := (f_X1_rowOfThing x1 u.1).bind (fun z1 => (f_X1_first z1 u.1).bind (fun z3 => f_X2_enclosingCount_21 NF x1 z1 0 z3 u))
section
variable {p : Program} {l : Launch} {e : Env} {s : State} {m : MethodId} {args : Array Value} {below : List Frame} {meth : Method} {c : Code}
variable {G : GX} {A : Nat → Prop} {ad : Nat → Nat} 
set_option maxHeartbeats 4000000 in
set_option maxRecDepth 100000 in
theorem w_X2_enclosingCount_21 (F : FX p m c cX2_enclosingCount 6 s args yX2_enclosingCount (some .int) RX2 meth) {z : Int32} : ∀ (n : Nat) (x1 : Int32) (x2 : Int32) (x3 : Int32) (x4 : Int32) (u : SS) (ls : Array Slot), WD G A s (sw G ad u) s.heap [] → lv_has ls 6 [(0, .ref (ad 0)), (1, .int x1), (2, .int x2), (3, .int x3), (4, .int x4)] → f_X2_enclosingCount_21 n x1 x2 x3 x4 u = some z → W p l e rmX2_enclosingCount s m args below meth c s.heap [] 0 0 (MQ below (QO (some (.int z))) args s 0 0 (fun _ => False)) (F0 m 21 ls []) := by
  obtain ⟨⟨hx, hb, hml, hown, hts⟩, hr, hlocks⟩ := id F
  intro n
  induction n with
  | zero =>
    intro x1 x2 x3 x4 u ls hw hl h
    rw [f_X2_enclosingCount_21] at h
    cases h
  | succ n ih =>
    intro x1 x2 x3 x4 u ls hw hl h
    rw [f_X2_enclosingCount_21] at h
    refine lv_iload hx hb dX2_enclosingCount_21 (lv_at hl 4 rfl) ?_
    refine lv_aload_n hx hb dX2_enclosingCount_23 rfl (lv_at hl 0 rfl) ?_
    refine s_g0_0 F hw dX2_enclosingCount_24 ?_
    refine lv_iload_n hx hb dX2_enclosingCount_27 rfl (lv_at hl 2 rfl) ?_
    obtain ⟨z5, e6, h⟩ := bnd h
    refine k_X1_end_s_ F hw e6 ⟨Nat.le_of_ble_eq_true rfl, Nat.le_of_ble_eq_true rfl⟩ ⟨Nat.zero_le _, Nat.zero_le _⟩ hl.1 (Nat.le_of_ble_eq_true rfl) dX2_enclosingCount_28 ?_
    refine lv_icmp_ge (tgt := 75) hx hb dX2_enclosingCount_31 rfl (fun c7 => ?_) (fun c7 => ?_)
    · replace h := itT h c7
      refine lv_iload_n hx hb dX2_enclosingCount_75 rfl (lv_at hl 3 rfl) ?_
      cases h
      exact retO_i F dX2_enclosingCount_76
    · replace h := itF h c7
      refine lv_aload_n hx hb dX2_enclosingCount_34 rfl (lv_at hl 0 rfl) ?_
      refine s_g0_0 F hw dX2_enclosingCount_35 ?_
      refine lv_iload hx hb dX2_enclosingCount_38 (lv_at hl 4 rfl) ?_
      obtain ⟨z8, e9, h⟩ := bnd h
      refine k_X1_standAt_s_ F hw e9 ⟨Nat.le_of_ble_eq_true rfl, Nat.le_of_ble_eq_true rfl⟩ ⟨Nat.zero_le _, Nat.zero_le _⟩ hl.1 (Nat.le_of_ble_eq_true rfl) dX2_enclosingCount_40 ?_
      refine lv_istore (lv' := [(5, .int z8), (0, .ref (ad 0)), (1, .int x1), (2, .int x2), (3, .int x3), (4, .int x4)]) hx hb dX2_enclosingCount_43 hl (by decide) rfl (fun ls hl => ?_)
      refine lv_iload hx hb dX2_enclosingCount_45 (lv_at hl 0 rfl) ?_
      obtain ⟨z10, e11, h⟩ := bnd h
      refine k_X3_isEnd_s_ F hw e11 ⟨Nat.le_of_ble_eq_true rfl, Nat.le_of_ble_eq_true rfl⟩ ⟨Nat.zero_le _, Nat.zero_le _⟩ hl.1 (Nat.le_of_ble_eq_true rfl) dX2_enclosingCount_47 ?_
      refine lv_if_ne (tgt := 69) hx hb dX2_enclosingCount_50 rfl (fun c12 => ?_) (fun c12 => ?_)
      · replace h := itF h c12
        refine lv_iinc (v := (x4 + 1)) (lv' := [(4, .int (x4 + 1)), (5, .int z8), (0, .ref (ad 0)), (1, .int x1), (2, .int x2), (3, .int x3)]) hx hb dX2_enclosingCount_69 hl (k := 5) rfl rfl (by decide) rfl (fun ls hl => ?_)
        refine lv_goto (tgt := 21) hx hb dX2_enclosingCount_72 rfl ?_
        exact ih _ _ _ _ _ _ hw (lv_sub hl [2, 3, 4, 5, 0] rfl) h
      · replace h := itT h c12
        refine lv_aload_n hx hb dX2_enclosingCount_53 rfl (lv_at hl 1 rfl) ?_
        refine lv_iload hx hb dX2_enclosingCount_54 (lv_at hl 0 rfl) ?_
        obtain ⟨z13, e14, h⟩ := bnd h
        refine k_X3_thingOf_s_ F hw e14 ⟨Nat.le_of_ble_eq_true rfl, Nat.le_of_ble_eq_true rfl⟩ ⟨Nat.zero_le _, Nat.zero_le _⟩ hl.1 (Nat.le_of_ble_eq_true rfl) dX2_enclosingCount_56 ?_
        refine lv_iload_n hx hb dX2_enclosingCount_59 rfl (lv_at hl 2 rfl) ?_
        obtain ⟨z15, e16, h⟩ := bnd h
        refine k_X2_encloses_s_ F hw e16 ⟨Nat.le_of_ble_eq_true rfl, Nat.le_of_ble_eq_true rfl⟩ ⟨Nat.zero_le _, Nat.zero_le _⟩ hl.1 (Nat.le_of_ble_eq_true rfl) dX2_enclosingCount_60 ?_
        refine lv_if_eq (tgt := 69) hx hb dX2_enclosingCount_63 rfl (fun c17 => ?_) (fun c17 => ?_)
        · replace h := itT h c17
          refine lv_iinc (v := (x4 + 1)) (lv' := [(4, .int (x4 + 1)), (5, .int z8), (0, .ref (ad 0)), (1, .int x1), (2, .int x2), (3, .int x3)]) hx hb dX2_enclosingCount_69 hl (k := 5) rfl rfl (by decide) rfl (fun ls hl => ?_)
          refine lv_goto (tgt := 21) hx hb dX2_enclosingCount_72 rfl ?_
          exact ih _ _ _ _ _ _ hw (lv_sub hl [2, 3, 4, 5, 0] rfl) h
        · replace h := itF h c17
          refine lv_iinc (v := (x3 + 1)) (lv' := [(3, .int (x3 + 1)), (5, .int z8), (0, .ref (ad 0)), (1, .int x1), (2, .int x2), (4, .int x4)]) hx hb dX2_enclosingCount_66 hl (k := 4) rfl rfl (by decide) rfl (fun ls hl => ?_)
          refine lv_iinc (v := (x4 + 1)) (lv' := [(4, .int (x4 + 1)), (3, .int (x3 + 1)), (5, .int z8), (0, .ref (ad 0)), (1, .int x1), (2, .int x2)]) hx hb dX2_enclosingCount_69 hl (k := 5) rfl rfl (by decide) rfl (fun ls hl => ?_)
          refine lv_goto (tgt := 21) hx hb dX2_enclosingCount_72 rfl ?_
          exact ih _ _ _ _ _ _ hw (lv_sub hl [3, 4, 5, 1, 0] rfl) h
set_option maxHeartbeats 4000000 in
set_option maxRecDepth 100000 in
theorem w_X2_enclosingCount_0 (F : FX p m c cX2_enclosingCount 6 s args yX2_enclosingCount (some .int) RX2 meth) {z : Int32} : ∀ (x1 : Int32) (u : SS) (ls : Array Slot), WD G A s (sw G ad u) s.heap [] → lv_has ls 6 [(0, .ref (ad 0)), (1, .int x1)] → f_X2_enclosingCount x1 u = some z → W p l e rmX2_enclosingCount s m args below meth c s.heap [] 0 0 (MQ below (QO (some (.int z))) args s 0 0 (fun _ => False)) (F0 m 0 ls []) := by
  obtain ⟨⟨hx, hb, hml, hown, hts⟩, hr, hlocks⟩ := id F
  intro x1 u ls hw hl h
  unfold f_X2_enclosingCount at h
  refine lv_aload_n hx hb dX2_enclosingCount_0 rfl (lv_at hl 0 rfl) ?_
  refine s_g0_0 F hw dX2_enclosingCount_1 ?_
  refine lv_iload_n hx hb dX2_enclosingCount_4 rfl (lv_at hl 1 rfl) ?_
  obtain ⟨z1, e2, h⟩ := bnd h
  refine k_X1_rowOfThing_s_ F hw e2 ⟨Nat.le_of_ble_eq_true rfl, Nat.le_of_ble_eq_true rfl⟩ ⟨Nat.zero_le _, Nat.zero_le _⟩ hl.1 (Nat.le_of_ble_eq_true rfl) dX2_enclosingCount_5 ?_
  refine lv_istore_n (lv' := [(2, .int z1), (0, .ref (ad 0)), (1, .int x1)]) hx hb dX2_enclosingCount_8 rfl hl (by decide) rfl (fun ls hl => ?_)
  refine lv_iconst (v := 0) hx hb dX2_enclosingCount_9 rfl ?_
  refine lv_istore_n (lv' := [(3, .int 0), (2, .int z1), (0, .ref (ad 0)), (1, .int x1)]) hx hb dX2_enclosingCount_10 rfl hl (by decide) rfl (fun ls hl => ?_)
  refine lv_aload_n hx hb dX2_enclosingCount_11 rfl (lv_at hl 2 rfl) ?_
  refine s_g0_0 F hw dX2_enclosingCount_12 ?_
  refine lv_iload_n hx hb dX2_enclosingCount_15 rfl (lv_at hl 1 rfl) ?_
  obtain ⟨z3, e4, h⟩ := bnd h
  refine k_X1_first_s_ F hw e4 ⟨Nat.le_of_ble_eq_true rfl, Nat.le_of_ble_eq_true rfl⟩ ⟨Nat.zero_le _, Nat.zero_le _⟩ hl.1 (Nat.le_of_ble_eq_true rfl) dX2_enclosingCount_16 ?_
  refine lv_istore (lv' := [(4, .int z3), (3, .int 0), (2, .int z1), (0, .ref (ad 0)), (1, .int x1)]) hx hb dX2_enclosingCount_19 hl (by decide) rfl (fun ls hl => ?_)
  exact w_X2_enclosingCount_21 F NF _ _ _ _ _ _ hw (lv_sub hl [3, 4, 2, 1, 0] rfl) h
end
theorem c_X2_enclosingCount {l : Launch} {G : GX} {ad : Nat → Nat} {x1 : Int32} {u : SS} {z : Int32} (h : f_X2_enclosingCount x1 u = some z) : MO l yX2_enclosingCount cX2_enclosingCount 6 (some .int) rmX2_enclosingCount G (sw G ad u) [.ref (ad 0), .int x1] (some (.int z)) := MO.of (by decide) (Nat.le_of_ble_eq_true rfl) (fun p e s m below meth c ls F hw hl => w_X2_enclosingCount_0 F _ _ _ hw hl h)
/-! ===== X2_neighbour ===== -/
theorem dX2_neighbour_0 : decode cX2_neighbour 0 = .ok (.aload_n 0, 1) := by decide +kernel
theorem dX2_neighbour_1 : decode cX2_neighbour 1 = .ok (.getfield 12, 3) := by decide +kernel
theorem dX2_neighbour_4 : decode cX2_neighbour 4 = .ok (.iload_n 1, 1) := by decide +kernel
theorem dX2_neighbour_5 : decode cX2_neighbour 5 = .ok (.invokevirtual 101, 3) := by decide +kernel
theorem dX2_neighbour_8 : decode cX2_neighbour 8 = .ok (.istore_n 3, 1) := by decide +kernel
theorem dX2_neighbour_9 : decode cX2_neighbour 9 = .ok (.aload_n 0, 1) := by decide +kernel
theorem dX2_neighbour_10 : decode cX2_neighbour 10 = .ok (.iload_n 1, 1) := by decide +kernel
theorem dX2_neighbour_11 : decode cX2_neighbour 11 = .ok (.invokevirtual 114, 3) := by decide +kernel
theorem dX2_neighbour_14 : decode cX2_neighbour 14 = .ok (.iload_n 2, 1) := by decide +kernel
theorem dX2_neighbour_15 : decode cX2_neighbour 15 = .ok (.iadd, 1) := by decide +kernel
theorem dX2_neighbour_16 : decode cX2_neighbour 16 = .ok (.istore 4, 2) := by decide +kernel
theorem dX2_neighbour_18 : decode cX2_neighbour 18 = .ok (.iload 4, 2) := by decide +kernel
theorem dX2_neighbour_20 : decode cX2_neighbour 20 = .ok (.aload_n 0, 1) := by decide +kernel
theorem dX2_neighbour_21 : decode cX2_neighbour 21 = .ok (.getfield 12, 3) := by decide +kernel
theorem dX2_neighbour_24 : decode cX2_neighbour 24 = .ok (.iload_n 3, 1) := by decide +kernel
theorem dX2_neighbour_25 : decode cX2_neighbour 25 = .ok (.invokevirtual 81, 3) := by decide +kernel
theorem dX2_neighbour_28 : decode cX2_neighbour 28 = .ok (.if_icmp .lt 50, 3) := by decide +kernel
theorem dX2_neighbour_31 : decode cX2_neighbour 31 = .ok (.iload 4, 2) := by decide +kernel
theorem dX2_neighbour_33 : decode cX2_neighbour 33 = .ok (.aload_n 0, 1) := by decide +kernel
theorem dX2_neighbour_34 : decode cX2_neighbour 34 = .ok (.getfield 12, 3) := by decide +kernel
theorem dX2_neighbour_37 : decode cX2_neighbour 37 = .ok (.iload_n 3, 1) := by decide +kernel
theorem dX2_neighbour_38 : decode cX2_neighbour 38 = .ok (.invokevirtual 84, 3) := by decide +kernel
theorem dX2_neighbour_41 : decode cX2_neighbour 41 = .ok (.if_icmp .ge 37, 3) := by decide +kernel
theorem dX2_neighbour_44 : decode cX2_neighbour 44 = .ok (.aload_n 0, 1) := by decide +kernel
theorem dX2_neighbour_45 : decode cX2_neighbour 45 = .ok (.getfield 12, 3) := by decide +kernel
theorem dX2_neighbour_48 : decode cX2_neighbour 48 = .ok (.iload 4, 2) := by decide +kernel
theorem dX2_neighbour_50 : decode cX2_neighbour 50 = .ok (.invokevirtual 117, 3) := by decide +kernel
theorem dX2_neighbour_53 : decode cX2_neighbour 53 = .ok (.istore 5, 2) := by decide +kernel
theorem dX2_neighbour_55 : decode cX2_neighbour 55 = .ok (.iload 5, 2) := by decide +kernel
theorem dX2_neighbour_57 : decode cX2_neighbour 57 = .ok (.invokestatic 126, 3) := by decide +kernel
theorem dX2_neighbour_60 : decode cX2_neighbour 60 = .ok (.ifCond .ne 9, 3) := by decide +kernel
theorem dX2_neighbour_63 : decode cX2_neighbour 63 = .ok (.iload 5, 2) := by decide +kernel
theorem dX2_neighbour_65 : decode cX2_neighbour 65 = .ok (.invokestatic 120, 3) := by decide +kernel
theorem dX2_neighbour_68 : decode cX2_neighbour 68 = .ok (.ireturn, 1) := by decide +kernel
theorem dX2_neighbour_69 : decode cX2_neighbour 69 = .ok (.iload 4, 2) := by decide +kernel
theorem dX2_neighbour_71 : decode cX2_neighbour 71 = .ok (.iload_n 2, 1) := by decide +kernel
theorem dX2_neighbour_72 : decode cX2_neighbour 72 = .ok (.iadd, 1) := by decide +kernel
theorem dX2_neighbour_73 : decode cX2_neighbour 73 = .ok (.istore 4, 2) := by decide +kernel
theorem dX2_neighbour_75 : decode cX2_neighbour 75 = .ok (.goto (-57), 3) := by decide +kernel
theorem dX2_neighbour_78 : decode cX2_neighbour 78 = .ok (.iconst (-1), 1) := by decide +kernel
theorem dX2_neighbour_79 : decode cX2_neighbour 79 = .ok (.ireturn, 1) := by decide +kernel
def rmX2_neighbour : Room := { frames := 3, cells := 0, slots := 0, locals := 65 }
noncomputable def f_X2_neighbour_18 : Nat → Int32 → Int32 → Int32 → SS → Option (Int32)
  | 0, _, _, _, _ => none
  | n + 1, x2, x3, x4, u => (f_X1_first x3 u.1).bind (fun z5 => (if x4 < z5 then some (-1) else (f_X1_end x3 u.1).bind (fun z8 => (if z8 ≤ x4 then some (-1) else (f_X1_standAt x4 u.1).bind (fun z11 => (f_X3_isEnd z11).bind (fun z13 => (if z13 = 0 then (f_X3_thingOf z11).bind (fun z16 => some z16) else f_X2_neighbour_18 n x2 x3 (x4 + x2) u)))))))
noncomputable def f_X2_neighbour (x1 : Int32) (x2 : Int32) (u : SS) : Option (Int32) := (f_X1_rowOfThing x1 u.1).bind (fun z1 => (f_X2_firstPlace x1 u).bind (fun z3 => f_X2_neighbour_18 NF x2 z1 (z3 + x2) u))
section
variable {p : Program} {l : Launch} {e : Env} {s : State} {m : MethodId} {args : Array Value} {below : List Frame} {meth : Method} {c : Code}
variable {G : GX} {A : Nat → Prop} {ad : Nat → Nat} 
set_option maxHeartbeats 4000000 in
set_option maxRecDepth 100000 in
theorem w_X2_neighbour_18 (F : FX p m c cX2_neighbour 6 s args yX2_neighbour (some .int) RX2 meth) {z : Int32} : ∀ (n : Nat) (x2 : Int32) (x3 : Int32) (x4 : Int32) (u : SS) (ls : Array Slot), WD G A s (sw G ad u) s.heap [] → lv_has ls 6 [(0, .ref (ad 0)), (2, .int x2), (3, .int x3), (4, .int x4)] → f_X2_neighbour_18 n x2 x3 x4 u = some z → W p l e rmX2_neighbour s m args below meth c s.heap [] 0 0 (MQ below (QO (some (.int z))) args s 0 0 (fun _ => False)) (F0 m 18 ls []) := by
  obtain ⟨⟨hx, hb, hml, hown, hts⟩, hr, hlocks⟩ := id F
  intro n
  induction n with
  | zero =>
    intro x2 x3 x4 u ls hw hl h
    rw [f_X2_neighbour_18] at h
    cases h
  | succ n ih =>
    intro x2 x3 x4 u ls hw hl h
    rw [f_X2_neighbour_18] at h
    refine lv_iload hx hb dX2_neighbour_18 (lv_at hl 3 rfl) ?_
    refine lv_aload_n hx hb dX2_neighbour_20 rfl (lv_at hl 0 rfl) ?_
    refine s_g0_0 F hw dX2_neighbour_21 ?_
    refine lv_iload_n hx hb dX2_neighbour_24 rfl (lv_at hl 2 rfl) ?_
    obtain ⟨z5, e6, h⟩ := bnd h
    refine k_X1_first_s_ F hw e6 ⟨Nat.le_of_ble_eq_true rfl, Nat.le_of_ble_eq_true rfl⟩ ⟨Nat.zero_le _, Nat.zero_le _⟩ hl.1 (Nat.le_of_ble_eq_true rfl) dX2_neighbour_25 ?_
    refine lv_icmp_lt (tgt := 78) hx hb dX2_neighbour_28 rfl (fun c7 => ?_) (fun c7 => ?_)
    · replace h := itT h c7
      refine lv_iconst (v := (-1)) hx hb dX2_neighbour_78 rfl ?_
      cases h
      exact retO_i F dX2_neighbour_79
    · replace h := itF h c7
      refine lv_iload hx hb dX2_neighbour_31 (lv_at hl 3 rfl) ?_
      refine lv_aload_n hx hb dX2_neighbour_33 rfl (lv_at hl 0 rfl) ?_
      refine s_g0_0 F hw dX2_neighbour_34 ?_
      refine lv_iload_n hx hb dX2_neighbour_37 rfl (lv_at hl 2 rfl) ?_
      obtain ⟨z8, e9, h⟩ := bnd h
      refine k_X1_end_s_ F hw e9 ⟨Nat.le_of_ble_eq_true rfl, Nat.le_of_ble_eq_true rfl⟩ ⟨Nat.zero_le _, Nat.zero_le _⟩ hl.1 (Nat.le_of_ble_eq_true rfl) dX2_neighbour_38 ?_
      refine lv_icmp_ge (tgt := 78) hx hb dX2_neighbour_41 rfl (fun c10 => ?_) (fun c10 => ?_)
      · replace h := itT h c10
        refine lv_iconst (v := (-1)) hx hb dX2_neighbour_78 rfl ?_
        cases h
        exact retO_i F dX2_neighbour_79
      · replace h := itF h c10
        refine lv_aload_n hx hb dX2_neighbour_44 rfl (lv_at hl 0 rfl) ?_
        refine s_g0_0 F hw dX2_neighbour_45 ?_
        refine lv_iload hx hb dX2_neighbour_48 (lv_at hl 3 rfl) ?_
        obtain ⟨z11, e12, h⟩ := bnd h
        refine k_X1_standAt_s_ F hw e12 ⟨Nat.le_of_ble_eq_true rfl, Nat.le_of_ble_eq_true rfl⟩ ⟨Nat.zero_le _, Nat.zero_le _⟩ hl.1 (Nat.le_of_ble_eq_true rfl) dX2_neighbour_50 ?_
        refine lv_istore (lv' := [(5, .int z11), (0, .ref (ad 0)), (2, .int x2), (3, .int x3), (4, .int x4)]) hx hb dX2_neighbour_53 hl (by decide) rfl (fun ls hl => ?_)
        refine lv_iload hx hb dX2_neighbour_55 (lv_at hl 0 rfl) ?_
        obtain ⟨z13, e14, h⟩ := bnd h
        refine k_X3_isEnd_s_ F hw e14 ⟨Nat.le_of_ble_eq_true rfl, Nat.le_of_ble_eq_true rfl⟩ ⟨Nat.zero_le _, Nat.zero_le _⟩ hl.1 (Nat.le_of_ble_eq_true rfl) dX2_neighbour_57 ?_
        refine lv_if_ne (tgt := 69) hx hb dX2_neighbour_60 rfl (fun c15 => ?_) (fun c15 => ?_)
        · replace h := itF h c15
          refine lv_iload hx hb dX2_neighbour_69 (lv_at hl 4 rfl) ?_
          refine lv_iload_n hx hb dX2_neighbour_71 rfl (lv_at hl 2 rfl) ?_
          refine lv_iadd hx hb dX2_neighbour_72 ?_
          refine lv_istore (lv' := [(4, .int (x4 + x2)), (5, .int z11), (0, .ref (ad 0)), (2, .int x2), (3, .int x3)]) hx hb dX2_neighbour_73 hl (by decide) rfl (fun ls hl => ?_)
          refine lv_goto (tgt := 18) hx hb dX2_neighbour_75 rfl ?_
          exact ih _ _ _ _ _ hw (lv_sub hl [2, 3, 4, 0] rfl) h
        · replace h := itT h c15
          refine lv_iload hx hb dX2_neighbour_63 (lv_at hl 0 rfl) ?_
          obtain ⟨z16, e17, h⟩ := bnd h
          refine k_X3_thingOf_s_ F hw e17 ⟨Nat.le_of_ble_eq_true rfl, Nat.le_of_ble_eq_true rfl⟩ ⟨Nat.zero_le _, Nat.zero_le _⟩ hl.1 (Nat.le_of_ble_eq_true rfl) dX2_neighbour_65 ?_
          cases h
          exact retO_i F dX2_neighbour_68
set_option maxHeartbeats 4000000 in
set_option maxRecDepth 100000 in
theorem w_X2_neighbour_0 (F : FX p m c cX2_neighbour 6 s args yX2_neighbour (some .int) RX2 meth) {z : Int32} : ∀ (x1 : Int32) (x2 : Int32) (u : SS) (ls : Array Slot), WD G A s (sw G ad u) s.heap [] → lv_has ls 6 [(0, .ref (ad 0)), (1, .int x1), (2, .int x2)] → f_X2_neighbour x1 x2 u = some z → W p l e rmX2_neighbour s m args below meth c s.heap [] 0 0 (MQ below (QO (some (.int z))) args s 0 0 (fun _ => False)) (F0 m 0 ls []) := by
  obtain ⟨⟨hx, hb, hml, hown, hts⟩, hr, hlocks⟩ := id F
  intro x1 x2 u ls hw hl h
  unfold f_X2_neighbour at h
  refine lv_aload_n hx hb dX2_neighbour_0 rfl (lv_at hl 0 rfl) ?_
  refine s_g0_0 F hw dX2_neighbour_1 ?_
  refine lv_iload_n hx hb dX2_neighbour_4 rfl (lv_at hl 1 rfl) ?_
  obtain ⟨z1, e2, h⟩ := bnd h
  refine k_X1_rowOfThing_s_ F hw e2 ⟨Nat.le_of_ble_eq_true rfl, Nat.le_of_ble_eq_true rfl⟩ ⟨Nat.zero_le _, Nat.zero_le _⟩ hl.1 (Nat.le_of_ble_eq_true rfl) dX2_neighbour_5 ?_
  refine lv_istore_n (lv' := [(3, .int z1), (0, .ref (ad 0)), (1, .int x1), (2, .int x2)]) hx hb dX2_neighbour_8 rfl hl (by decide) rfl (fun ls hl => ?_)
  refine lv_aload_n hx hb dX2_neighbour_9 rfl (lv_at hl 1 rfl) ?_
  refine lv_iload_n hx hb dX2_neighbour_10 rfl (lv_at hl 2 rfl) ?_
  obtain ⟨z3, e4, h⟩ := bnd h
  refine k_X2_firstPlace_s_ F hw e4 ⟨Nat.le_of_ble_eq_true rfl, Nat.le_of_ble_eq_true rfl⟩ ⟨Nat.zero_le _, Nat.zero_le _⟩ hl.1 (Nat.le_of_ble_eq_true rfl) dX2_neighbour_11 ?_
  refine lv_iload_n hx hb dX2_neighbour_14 rfl (lv_at hl 3 rfl) ?_
  refine lv_iadd hx hb dX2_neighbour_15 ?_
  refine lv_istore (lv' := [(4, .int (z3 + x2)), (3, .int z1), (0, .ref (ad 0)), (1, .int x1), (2, .int x2)]) hx hb dX2_neighbour_16 hl (by decide) rfl (fun ls hl => ?_)
  exact w_X2_neighbour_18 F NF _ _ _ _ _ hw (lv_sub hl [2, 4, 1, 0] rfl) h
end
theorem c_X2_neighbour {l : Launch} {G : GX} {ad : Nat → Nat} {x1 : Int32} {x2 : Int32} {u : SS} {z : Int32} (h : f_X2_neighbour x1 x2 u = some z) : MO l yX2_neighbour cX2_neighbour 6 (some .int) rmX2_neighbour G (sw G ad u) [.ref (ad 0), .int x1, .int x2] (some (.int z)) := MO.of (by decide) (Nat.le_of_ble_eq_true rfl) (fun p e s m below meth c ls F hw hl => w_X2_neighbour_0 F _ _ _ _ hw hl h)
/-! ===== X2_firstWithin ===== -/
theorem dX2_firstWithin_0 : decode cX2_firstWithin 0 = .ok (.aload_n 0, 1) := by decide +kernel
theorem dX2_firstWithin_1 : decode cX2_firstWithin 1 = .ok (.iload_n 1, 1) := by decide +kernel
theorem dX2_firstWithin_2 : decode cX2_firstWithin 2 = .ok (.iconst 1, 1) := by decide +kernel
theorem dX2_firstWithin_3 : decode cX2_firstWithin 3 = .ok (.invokevirtual 129, 3) := by decide +kernel
theorem dX2_firstWithin_6 : decode cX2_firstWithin 6 = .ok (.istore_n 2, 1) := by decide +kernel
theorem dX2_firstWithin_7 : decode cX2_firstWithin 7 = .ok (.iload_n 2, 1) := by decide +kernel
theorem dX2_firstWithin_8 : decode cX2_firstWithin 8 = .ok (.iconst (-1), 1) := by decide +kernel
theorem dX2_firstWithin_9 : decode cX2_firstWithin 9 = .ok (.if_icmp .eq 16, 3) := by decide +kernel
theorem dX2_firstWithin_12 : decode cX2_firstWithin 12 = .ok (.aload_n 0, 1) := by decide +kernel
theorem dX2_firstWithin_13 : decode cX2_firstWithin 13 = .ok (.iload_n 1, 1) := by decide +kernel
theorem dX2_firstWithin_14 : decode cX2_firstWithin 14 = .ok (.iload_n 2, 1) := by decide +kernel
theorem dX2_firstWithin_15 : decode cX2_firstWithin 15 = .ok (.invokevirtual 123, 3) := by decide +kernel
theorem dX2_firstWithin_18 : decode cX2_firstWithin 18 = .ok (.ifCond .eq 7, 3) := by decide +kernel
theorem dX2_firstWithin_21 : decode cX2_firstWithin 21 = .ok (.iload_n 2, 1) := by decide +kernel
theorem dX2_firstWithin_22 : decode cX2_firstWithin 22 = .ok (.goto 4, 3) := by decide +kernel
theorem dX2_firstWithin_25 : decode cX2_firstWithin 25 = .ok (.iconst (-1), 1) := by decide +kernel
theorem dX2_firstWithin_26 : decode cX2_firstWithin 26 = .ok (.ireturn, 1) := by decide +kernel
theorem yv_X2_neighbour_X2 : YV RX2 129 yX2_neighbour cX2_neighbour 6 (some .int) 2 := ⟨(tw 395 (by decide +kernel) rfl), (tw 2 (by decide +kernel) rfl), (tw 401 (by decide +kernel) rfl), (tw 393 (by decide +kernel) rfl), (tw 394 (by decide +kernel) rfl), by decide +kernel⟩
theorem k_X2_neighbour_s_ {p : Program} {l : Launch} {e : Env} {R : Room} {s : State} {m : MethodId} {args : Array Value} {below : List Frame} {meth : Method} {c : Code} {H : Heap} {locs : List Loc} {cells slots : Nat} {Q : State → Prop} {G : GX} {A : Nat → Prop} {ad : Nat → Nat} {u : SS} {cc : ByteArray} {nL pc : Nat} {y : MethodName} {ret : Option FieldType} {ls : Array Slot} {rest : List Value} {x1 : Int32} {x2 : Int32} {z : Int32} (F : FX p m c cc nL s args y ret RX2 meth) (hw : WD G A s (sw G ad u) H locs) (h : f_X2_neighbour x1 x2 u = some z) (hR : rmX2_neighbour.frames + 1 ≤ R.frames ∧ 8 + (6 + 11) + rmX2_neighbour.locals ≤ R.locals) (hcs : cells ≤ R.cells ∧ slots ≤ R.slots) (hsz : ls.size = nL) (hW : (rest.map fun v => v.category).sum ≤ 8) (hdg : decode cc pc = .ok (.invokevirtual 129, 3)) (kk : W p l e R s m args below meth c H locs cells slots Q (F0 m (pc + 3) ls (.int z :: rest))) : W p l e R s m args below meth c H locs cells slots Q (F0 m pc ls (.int x2 :: .int x1 :: .ref (ad 0) :: rest)) := callO (runV F yv_X2_neighbour_X2 (c_X2_neighbour h) hw.1 hw.2.1 hw.2.2.1 rfl rfl rfl ⟨rfl, rfl⟩ hR hcs rfl hsz rfl hW hdg) kk
def rmX2_firstWithin : Room := { frames := 4, cells := 0, slots := 0, locals := 90 }
noncomputable def f_X2_firstWithin (x1 : Int32) (u : SS) : Option (Int32) := (f_X2_neighbour x1 1 u).bind (fun z1 => (if z1 = ((-1) : Int32) then some (-1) else (f_X2_encloses x1 z1 u).bind (fun z4 => (if z4 = 0 then some (-1) else some z1))))
section
variable {p : Program} {l : Launch} {e : Env} {s : State} {m : MethodId} {args : Array Value} {below : List Frame} {meth : Method} {c : Code}
variable {G : GX} {A : Nat → Prop} {ad : Nat → Nat} 
set_option maxHeartbeats 4000000 in
set_option maxRecDepth 100000 in
theorem w_X2_firstWithin_0 (F : FX p m c cX2_firstWithin 3 s args yX2_firstWithin (some .int) RX2 meth) {z : Int32} : ∀ (x1 : Int32) (u : SS) (ls : Array Slot), WD G A s (sw G ad u) s.heap [] → lv_has ls 3 [(0, .ref (ad 0)), (1, .int x1)] → f_X2_firstWithin x1 u = some z → W p l e rmX2_firstWithin s m args below meth c s.heap [] 0 0 (MQ below (QO (some (.int z))) args s 0 0 (fun _ => False)) (F0 m 0 ls []) := by
  obtain ⟨⟨hx, hb, hml, hown, hts⟩, hr, hlocks⟩ := id F
  intro x1 u ls hw hl h
  unfold f_X2_firstWithin at h
  refine lv_aload_n hx hb dX2_firstWithin_0 rfl (lv_at hl 0 rfl) ?_
  refine lv_iload_n hx hb dX2_firstWithin_1 rfl (lv_at hl 1 rfl) ?_
  refine lv_iconst (v := 1) hx hb dX2_firstWithin_2 rfl ?_
  obtain ⟨z1, e2, h⟩ := bnd h
  refine k_X2_neighbour_s_ F hw e2 ⟨Nat.le_of_ble_eq_true rfl, Nat.le_of_ble_eq_true rfl⟩ ⟨Nat.zero_le _, Nat.zero_le _⟩ hl.1 (Nat.le_of_ble_eq_true rfl) dX2_firstWithin_3 ?_
  refine lv_istore_n (lv' := [(2, .int z1), (0, .ref (ad 0)), (1, .int x1)]) hx hb dX2_firstWithin_6 rfl hl (by decide) rfl (fun ls hl => ?_)
  refine lv_iload_n hx hb dX2_firstWithin_7 rfl (lv_at hl 0 rfl) ?_
  refine lv_iconst (v := (-1)) hx hb dX2_firstWithin_8 rfl ?_
  refine lv_icmp_eq (tgt := 25) hx hb dX2_firstWithin_9 rfl (fun c3 => ?_) (fun c3 => ?_)
  · replace h := itT h c3
    refine lv_iconst (v := (-1)) hx hb dX2_firstWithin_25 rfl ?_
    cases h
    exact retO_i F dX2_firstWithin_26
  · replace h := itF h c3
    refine lv_aload_n hx hb dX2_firstWithin_12 rfl (lv_at hl 1 rfl) ?_
    refine lv_iload_n hx hb dX2_firstWithin_13 rfl (lv_at hl 2 rfl) ?_
    refine lv_iload_n hx hb dX2_firstWithin_14 rfl (lv_at hl 0 rfl) ?_
    obtain ⟨z4, e5, h⟩ := bnd h
    refine k_X2_encloses_s_ F hw e5 ⟨Nat.le_of_ble_eq_true rfl, Nat.le_of_ble_eq_true rfl⟩ ⟨Nat.zero_le _, Nat.zero_le _⟩ hl.1 (Nat.le_of_ble_eq_true rfl) dX2_firstWithin_15 ?_
    refine lv_if_eq (tgt := 25) hx hb dX2_firstWithin_18 rfl (fun c6 => ?_) (fun c6 => ?_)
    · replace h := itT h c6
      refine lv_iconst (v := (-1)) hx hb dX2_firstWithin_25 rfl ?_
      cases h
      exact retO_i F dX2_firstWithin_26
    · replace h := itF h c6
      refine lv_iload_n hx hb dX2_firstWithin_21 rfl (lv_at hl 0 rfl) ?_
      refine lv_goto (tgt := 26) hx hb dX2_firstWithin_22 rfl ?_
      cases h
      exact retO_i F dX2_firstWithin_26
end
theorem c_X2_firstWithin {l : Launch} {G : GX} {ad : Nat → Nat} {x1 : Int32} {u : SS} {z : Int32} (h : f_X2_firstWithin x1 u = some z) : MO l yX2_firstWithin cX2_firstWithin 3 (some .int) rmX2_firstWithin G (sw G ad u) [.ref (ad 0), .int x1] (some (.int z)) := MO.of (by decide) (Nat.le_of_ble_eq_true rfl) (fun p e s m below meth c ls F hw hl => w_X2_firstWithin_0 F _ _ _ hw hl h)
/-! ===== X2_thingsAhead ===== -/
theorem dX2_thingsAhead_0 : decode cX2_thingsAhead 0 = .ok (.aload_n 0, 1) := by decide +kernel
theorem dX2_thingsAhead_1 : decode cX2_thingsAhead 1 = .ok (.getfield 12, 3) := by decide +kernel
theorem dX2_thingsAhead_4 : decode cX2_thingsAhead 4 = .ok (.iload_n 1, 1) := by decide +kernel
theorem dX2_thingsAhead_5 : decode cX2_thingsAhead 5 = .ok (.invokevirtual 101, 3) := by decide +kernel
theorem dX2_thingsAhead_8 : decode cX2_thingsAhead 8 = .ok (.istore_n 2, 1) := by decide +kernel
theorem dX2_thingsAhead_9 : decode cX2_thingsAhead 9 = .ok (.aload_n 0, 1) := by decide +kernel
theorem dX2_thingsAhead_10 : decode cX2_thingsAhead 10 = .ok (.iload_n 1, 1) := by decide +kernel
theorem dX2_thingsAhead_11 : decode cX2_thingsAhead 11 = .ok (.invokevirtual 114, 3) := by decide +kernel
theorem dX2_thingsAhead_14 : decode cX2_thingsAhead 14 = .ok (.istore_n 3, 1) := by decide +kernel
theorem dX2_thingsAhead_15 : decode cX2_thingsAhead 15 = .ok (.iconst 0, 1) := by decide +kernel
theorem dX2_thingsAhead_16 : decode cX2_thingsAhead 16 = .ok (.istore 4, 2) := by decide +kernel
theorem dX2_thingsAhead_18 : decode cX2_thingsAhead 18 = .ok (.aload_n 0, 1) := by decide +kernel
theorem dX2_thingsAhead_19 : decode cX2_thingsAhead 19 = .ok (.getfield 12, 3) := by decide +kernel
theorem dX2_thingsAhead_22 : decode cX2_thingsAhead 22 = .ok (.iload_n 2, 1) := by decide +kernel
theorem dX2_thingsAhead_23 : decode cX2_thingsAhead 23 = .ok (.invokevirtual 81, 3) := by decide +kernel
theorem dX2_thingsAhead_26 : decode cX2_thingsAhead 26 = .ok (.istore 5, 2) := by decide +kernel
theorem dX2_thingsAhead_28 : decode cX2_thingsAhead 28 = .ok (.iload 5, 2) := by decide +kernel
theorem dX2_thingsAhead_30 : decode cX2_thingsAhead 30 = .ok (.iload_n 3, 1) := by decide +kernel
theorem dX2_thingsAhead_31 : decode cX2_thingsAhead 31 = .ok (.if_icmp .ge 27, 3) := by decide +kernel
theorem dX2_thingsAhead_34 : decode cX2_thingsAhead 34 = .ok (.aload_n 0, 1) := by decide +kernel
theorem dX2_thingsAhead_35 : decode cX2_thingsAhead 35 = .ok (.getfield 12, 3) := by decide +kernel
theorem dX2_thingsAhead_38 : decode cX2_thingsAhead 38 = .ok (.iload 5, 2) := by decide +kernel
theorem dX2_thingsAhead_40 : decode cX2_thingsAhead 40 = .ok (.invokevirtual 117, 3) := by decide +kernel
theorem dX2_thingsAhead_43 : decode cX2_thingsAhead 43 = .ok (.invokestatic 126, 3) := by decide +kernel
theorem dX2_thingsAhead_46 : decode cX2_thingsAhead 46 = .ok (.ifCond .ne 6, 3) := by decide +kernel
theorem dX2_thingsAhead_49 : decode cX2_thingsAhead 49 = .ok (.iinc 4 1, 3) := by decide +kernel
theorem dX2_thingsAhead_52 : decode cX2_thingsAhead 52 = .ok (.iinc 5 1, 3) := by decide +kernel
theorem dX2_thingsAhead_55 : decode cX2_thingsAhead 55 = .ok (.goto (-27), 3) := by decide +kernel
theorem dX2_thingsAhead_58 : decode cX2_thingsAhead 58 = .ok (.iload 4, 2) := by decide +kernel
theorem dX2_thingsAhead_60 : decode cX2_thingsAhead 60 = .ok (.ireturn, 1) := by decide +kernel
def rmX2_thingsAhead : Room := { frames := 3, cells := 0, slots := 0, locals := 65 }
noncomputable def f_X2_thingsAhead_28 : Nat → Int32 → Int32 → Int32 → SS → Option (Int32)
  | 0, _, _, _, _ => none
  | n + 1, x3, x4, x5, u => (if x3 ≤ x5 then some x4 else (f_X1_standAt x5 u.1).bind (fun z8 => (f_X3_isEnd z8).bind (fun z10 => (if z10 = 0 then f_X2_thingsAhead_28 n x3 (x4 + 1) (x5 + 1) u else f_X2_thingsAhead_28 n x3 x4 (x5 + 1) u))))
noncomputable def f_X2_thingsAhead (x1 : Int32) (u : SS) : Option (Int32) := (f_X1_rowOfThing x1 u.1).bind (fun z1 => (f_X2_firstPlace x1 u).bind (fun z3 => (f_X1_first z1 u.1).bind (fun z5 => f_X2_thingsAhead_28 NF z3 0 z5 u)))
section
variable {p : Program} {l : Launch} {e : Env} {s : State} {m : MethodId} {args : Array Value} {below : List Frame} {meth : Method} {c : Code}
variable {G : GX} {A : Nat → Prop} {ad : Nat → Nat} 
set_option maxHeartbeats 4000000 in
set_option maxRecDepth 100000 in
theorem w_X2_thingsAhead_28 (F : FX p m c cX2_thingsAhead 6 s args yX2_thingsAhead (some .int) RX2 meth) {z : Int32} : ∀ (n : Nat) (x3 : Int32) (x4 : Int32) (x5 : Int32) (u : SS) (ls : Array Slot), WD G A s (sw G ad u) s.heap [] → lv_has ls 6 [(0, .ref (ad 0)), (3, .int x3), (4, .int x4), (5, .int x5)] → f_X2_thingsAhead_28 n x3 x4 x5 u = some z → W p l e rmX2_thingsAhead s m args below meth c s.heap [] 0 0 (MQ below (QO (some (.int z))) args s 0 0 (fun _ => False)) (F0 m 28 ls []) := by
  obtain ⟨⟨hx, hb, hml, hown, hts⟩, hr, hlocks⟩ := id F
  intro n
  induction n with
  | zero =>
    intro x3 x4 x5 u ls hw hl h
    rw [f_X2_thingsAhead_28] at h
    cases h
  | succ n ih =>
    intro x3 x4 x5 u ls hw hl h
    rw [f_X2_thingsAhead_28] at h
    refine lv_iload hx hb dX2_thingsAhead_28 (lv_at hl 3 rfl) ?_
    refine lv_iload_n hx hb dX2_thingsAhead_30 rfl (lv_at hl 1 rfl) ?_
    refine lv_icmp_ge (tgt := 58) hx hb dX2_thingsAhead_31 rfl (fun c7 => ?_) (fun c7 => ?_)
    · replace h := itT h c7
      refine lv_iload hx hb dX2_thingsAhead_58 (lv_at hl 2 rfl) ?_
      cases h
      exact retO_i F dX2_thingsAhead_60
    · replace h := itF h c7
      refine lv_aload_n hx hb dX2_thingsAhead_34 rfl (lv_at hl 0 rfl) ?_
      refine s_g0_0 F hw dX2_thingsAhead_35 ?_
      refine lv_iload hx hb dX2_thingsAhead_38 (lv_at hl 3 rfl) ?_
      obtain ⟨z8, e9, h⟩ := bnd h
      refine k_X1_standAt_s_ F hw e9 ⟨Nat.le_of_ble_eq_true rfl, Nat.le_of_ble_eq_true rfl⟩ ⟨Nat.zero_le _, Nat.zero_le _⟩ hl.1 (Nat.le_of_ble_eq_true rfl) dX2_thingsAhead_40 ?_
      obtain ⟨z10, e11, h⟩ := bnd h
      refine k_X3_isEnd_s_ F hw e11 ⟨Nat.le_of_ble_eq_true rfl, Nat.le_of_ble_eq_true rfl⟩ ⟨Nat.zero_le _, Nat.zero_le _⟩ hl.1 (Nat.le_of_ble_eq_true rfl) dX2_thingsAhead_43 ?_
      refine lv_if_ne (tgt := 52) hx hb dX2_thingsAhead_46 rfl (fun c12 => ?_) (fun c12 => ?_)
      · replace h := itF h c12
        refine lv_iinc (v := (x5 + 1)) (lv' := [(5, .int (x5 + 1)), (0, .ref (ad 0)), (3, .int x3), (4, .int x4)]) hx hb dX2_thingsAhead_52 hl (k := 3) rfl rfl (by decide) rfl (fun ls hl => ?_)
        refine lv_goto (tgt := 28) hx hb dX2_thingsAhead_55 rfl ?_
        exact ih _ _ _ _ _ hw (lv_sub hl [1, 2, 3, 0] rfl) h
      · replace h := itT h c12
        refine lv_iinc (v := (x4 + 1)) (lv' := [(4, .int (x4 + 1)), (0, .ref (ad 0)), (3, .int x3), (5, .int x5)]) hx hb dX2_thingsAhead_49 hl (k := 2) rfl rfl (by decide) rfl (fun ls hl => ?_)
        refine lv_iinc (v := (x5 + 1)) (lv' := [(5, .int (x5 + 1)), (4, .int (x4 + 1)), (0, .ref (ad 0)), (3, .int x3)]) hx hb dX2_thingsAhead_52 hl (k := 3) rfl rfl (by decide) rfl (fun ls hl => ?_)
        refine lv_goto (tgt := 28) hx hb dX2_thingsAhead_55 rfl ?_
        exact ih _ _ _ _ _ hw (lv_sub hl [2, 3, 1, 0] rfl) h
set_option maxHeartbeats 4000000 in
set_option maxRecDepth 100000 in
theorem w_X2_thingsAhead_0 (F : FX p m c cX2_thingsAhead 6 s args yX2_thingsAhead (some .int) RX2 meth) {z : Int32} : ∀ (x1 : Int32) (u : SS) (ls : Array Slot), WD G A s (sw G ad u) s.heap [] → lv_has ls 6 [(0, .ref (ad 0)), (1, .int x1)] → f_X2_thingsAhead x1 u = some z → W p l e rmX2_thingsAhead s m args below meth c s.heap [] 0 0 (MQ below (QO (some (.int z))) args s 0 0 (fun _ => False)) (F0 m 0 ls []) := by
  obtain ⟨⟨hx, hb, hml, hown, hts⟩, hr, hlocks⟩ := id F
  intro x1 u ls hw hl h
  unfold f_X2_thingsAhead at h
  refine lv_aload_n hx hb dX2_thingsAhead_0 rfl (lv_at hl 0 rfl) ?_
  refine s_g0_0 F hw dX2_thingsAhead_1 ?_
  refine lv_iload_n hx hb dX2_thingsAhead_4 rfl (lv_at hl 1 rfl) ?_
  obtain ⟨z1, e2, h⟩ := bnd h
  refine k_X1_rowOfThing_s_ F hw e2 ⟨Nat.le_of_ble_eq_true rfl, Nat.le_of_ble_eq_true rfl⟩ ⟨Nat.zero_le _, Nat.zero_le _⟩ hl.1 (Nat.le_of_ble_eq_true rfl) dX2_thingsAhead_5 ?_
  refine lv_istore_n (lv' := [(2, .int z1), (0, .ref (ad 0)), (1, .int x1)]) hx hb dX2_thingsAhead_8 rfl hl (by decide) rfl (fun ls hl => ?_)
  refine lv_aload_n hx hb dX2_thingsAhead_9 rfl (lv_at hl 1 rfl) ?_
  refine lv_iload_n hx hb dX2_thingsAhead_10 rfl (lv_at hl 2 rfl) ?_
  obtain ⟨z3, e4, h⟩ := bnd h
  refine k_X2_firstPlace_s_ F hw e4 ⟨Nat.le_of_ble_eq_true rfl, Nat.le_of_ble_eq_true rfl⟩ ⟨Nat.zero_le _, Nat.zero_le _⟩ hl.1 (Nat.le_of_ble_eq_true rfl) dX2_thingsAhead_11 ?_
  refine lv_istore_n (lv' := [(3, .int z3), (2, .int z1), (0, .ref (ad 0)), (1, .int x1)]) hx hb dX2_thingsAhead_14 rfl hl (by decide) rfl (fun ls hl => ?_)
  refine lv_iconst (v := 0) hx hb dX2_thingsAhead_15 rfl ?_
  refine lv_istore (lv' := [(4, .int 0), (3, .int z3), (2, .int z1), (0, .ref (ad 0)), (1, .int x1)]) hx hb dX2_thingsAhead_16 hl (by decide) rfl (fun ls hl => ?_)
  refine lv_aload_n hx hb dX2_thingsAhead_18 rfl (lv_at hl 3 rfl) ?_
  refine s_g0_0 F hw dX2_thingsAhead_19 ?_
  refine lv_iload_n hx hb dX2_thingsAhead_22 rfl (lv_at hl 2 rfl) ?_
  obtain ⟨z5, e6, h⟩ := bnd h
  refine k_X1_first_s_ F hw e6 ⟨Nat.le_of_ble_eq_true rfl, Nat.le_of_ble_eq_true rfl⟩ ⟨Nat.zero_le _, Nat.zero_le _⟩ hl.1 (Nat.le_of_ble_eq_true rfl) dX2_thingsAhead_23 ?_
  refine lv_istore (lv' := [(5, .int z5), (4, .int 0), (3, .int z3), (2, .int z1), (0, .ref (ad 0)), (1, .int x1)]) hx hb dX2_thingsAhead_26 hl (by decide) rfl (fun ls hl => ?_)
  exact w_X2_thingsAhead_28 F NF _ _ _ _ _ hw (lv_sub hl [4, 2, 1, 0] rfl) h
end
theorem c_X2_thingsAhead {l : Launch} {G : GX} {ad : Nat → Nat} {x1 : Int32} {u : SS} {z : Int32} (h : f_X2_thingsAhead x1 u = some z) : MO l yX2_thingsAhead cX2_thingsAhead 6 (some .int) rmX2_thingsAhead G (sw G ad u) [.ref (ad 0), .int x1] (some (.int z)) := MO.of (by decide) (Nat.le_of_ble_eq_true rfl) (fun p e s m below meth c ls F hw hl => w_X2_thingsAhead_0 F _ _ _ hw hl h)
/-! ===== X2_thingNumber ===== -/
theorem dX2_thingNumber_0 : decode cX2_thingNumber 0 = .ok (.iconst 0, 1) := by decide +kernel
theorem dX2_thingNumber_1 : decode cX2_thingNumber 1 = .ok (.istore_n 3, 1) := by decide +kernel
theorem dX2_thingNumber_2 : decode cX2_thingNumber 2 = .ok (.aload_n 0, 1) := by decide +kernel
theorem dX2_thingNumber_3 : decode cX2_thingNumber 3 = .ok (.getfield 12, 3) := by decide +kernel
theorem dX2_thingNumber_6 : decode cX2_thingNumber 6 = .ok (.iload_n 1, 1) := by decide +kernel
theorem dX2_thingNumber_7 : decode cX2_thingNumber 7 = .ok (.invokevirtual 81, 3) := by decide +kernel
theorem dX2_thingNumber_10 : decode cX2_thingNumber 10 = .ok (.istore 4, 2) := by decide +kernel
theorem dX2_thingNumber_12 : decode cX2_thingNumber 12 = .ok (.iload 4, 2) := by decide +kernel
theorem dX2_thingNumber_14 : decode cX2_thingNumber 14 = .ok (.aload_n 0, 1) := by decide +kernel
theorem dX2_thingNumber_15 : decode cX2_thingNumber 15 = .ok (.getfield 12, 3) := by decide +kernel
theorem dX2_thingNumber_18 : decode cX2_thingNumber 18 = .ok (.iload_n 1, 1) := by decide +kernel
theorem dX2_thingNumber_19 : decode cX2_thingNumber 19 = .ok (.invokevirtual 84, 3) := by decide +kernel
theorem dX2_thingNumber_22 : decode cX2_thingNumber 22 = .ok (.if_icmp .ge 50, 3) := by decide +kernel
theorem dX2_thingNumber_25 : decode cX2_thingNumber 25 = .ok (.aload_n 0, 1) := by decide +kernel
theorem dX2_thingNumber_26 : decode cX2_thingNumber 26 = .ok (.getfield 12, 3) := by decide +kernel
theorem dX2_thingNumber_29 : decode cX2_thingNumber 29 = .ok (.iload 4, 2) := by decide +kernel
theorem dX2_thingNumber_31 : decode cX2_thingNumber 31 = .ok (.invokevirtual 117, 3) := by decide +kernel
theorem dX2_thingNumber_34 : decode cX2_thingNumber 34 = .ok (.istore 5, 2) := by decide +kernel
theorem dX2_thingNumber_36 : decode cX2_thingNumber 36 = .ok (.iload 5, 2) := by decide +kernel
theorem dX2_thingNumber_38 : decode cX2_thingNumber 38 = .ok (.invokestatic 126, 3) := by decide +kernel
theorem dX2_thingNumber_41 : decode cX2_thingNumber 41 = .ok (.ifCond .ne 14, 3) := by decide +kernel
theorem dX2_thingNumber_44 : decode cX2_thingNumber 44 = .ok (.iload_n 3, 1) := by decide +kernel
theorem dX2_thingNumber_45 : decode cX2_thingNumber 45 = .ok (.iload_n 2, 1) := by decide +kernel
theorem dX2_thingNumber_46 : decode cX2_thingNumber 46 = .ok (.if_icmp .ne 9, 3) := by decide +kernel
theorem dX2_thingNumber_49 : decode cX2_thingNumber 49 = .ok (.iload 5, 2) := by decide +kernel
theorem dX2_thingNumber_51 : decode cX2_thingNumber 51 = .ok (.invokestatic 120, 3) := by decide +kernel
theorem dX2_thingNumber_54 : decode cX2_thingNumber 54 = .ok (.ireturn, 1) := by decide +kernel
theorem dX2_thingNumber_55 : decode cX2_thingNumber 55 = .ok (.iload 5, 2) := by decide +kernel
theorem dX2_thingNumber_57 : decode cX2_thingNumber 57 = .ok (.invokestatic 126, 3) := by decide +kernel
theorem dX2_thingNumber_60 : decode cX2_thingNumber 60 = .ok (.ifCond .ne 6, 3) := by decide +kernel
theorem dX2_thingNumber_63 : decode cX2_thingNumber 63 = .ok (.iinc 3 1, 3) := by decide +kernel
theorem dX2_thingNumber_66 : decode cX2_thingNumber 66 = .ok (.iinc 4 1, 3) := by decide +kernel
theorem dX2_thingNumber_69 : decode cX2_thingNumber 69 = .ok (.goto (-57), 3) := by decide +kernel
theorem dX2_thingNumber_72 : decode cX2_thingNumber 72 = .ok (.iconst (-1), 1) := by decide +kernel
theorem dX2_thingNumber_73 : decode cX2_thingNumber 73 = .ok (.ireturn, 1) := by decide +kernel
def rmX2_thingNumber : Room := { frames := 1, cells := 0, slots := 0, locals := 21 }
noncomputable def f_X2_thingNumber_12 : Nat → Int32 → Int32 → Int32 → Int32 → SS → Option (Int32)
  | 0, _, _, _, _, _ => none
  | n + 1, x1, x2, x3, x4, u => (f_X1_end x1 u.1).bind (fun z3 => (if z3 ≤ x4 then some (-1) else (f_X1_standAt x4 u.1).bind (fun z6 => (f_X3_isEnd z6).bind (fun z8 => (if z8 = 0 then (if x3 = x2 then (f_X3_thingOf z6).bind (fun z18 => some z18) else (f_X3_isEnd z6).bind (fun z15 => (if z15 = 0 then f_X2_thingNumber_12 n x1 x2 (x3 + 1) (x4 + 1) u else f_X2_thingNumber_12 n x1 x2 x3 (x4 + 1) u))) else (f_X3_isEnd z6).bind (fun z11 => (if z11 = 0 then f_X2_thingNumber_12 n x1 x2 (x3 + 1) (x4 + 1) u else f_X2_thingNumber_12 n x1 x2 x3 (x4 + 1) u)))))))
noncomputable def f_X2_thingNumber (x1 : Int32) (x2 : Int32) (u : SS) : Option (Int32) := (f_X1_first x1 u.1).bind (fun z1 => f_X2_thingNumber_12 NF x1 x2 0 z1 u)
section
variable {p : Program} {l : Launch} {e : Env} {s : State} {m : MethodId} {args : Array Value} {below : List Frame} {meth : Method} {c : Code}
variable {G : GX} {A : Nat → Prop} {ad : Nat → Nat} 
set_option maxHeartbeats 4000000 in
set_option maxRecDepth 100000 in
theorem w_X2_thingNumber_12 (F : FX p m c cX2_thingNumber 6 s args yX2_thingNumber (some .int) RX2 meth) {z : Int32} : ∀ (n : Nat) (x1 : Int32) (x2 : Int32) (x3 : Int32) (x4 : Int32) (u : SS) (ls : Array Slot), WD G A s (sw G ad u) s.heap [] → lv_has ls 6 [(0, .ref (ad 0)), (1, .int x1), (2, .int x2), (3, .int x3), (4, .int x4)] → f_X2_thingNumber_12 n x1 x2 x3 x4 u = some z → W p l e rmX2_thingNumber s m args below meth c s.heap [] 0 0 (MQ below (QO (some (.int z))) args s 0 0 (fun _ => False)) (F0 m 12 ls []) := by
  obtain ⟨⟨hx, hb, hml, hown, hts⟩, hr, hlocks⟩ := id F
  intro n
  induction n with
  | zero =>
    intro x1 x2 x3 x4 u ls hw hl h
    rw [f_X2_thingNumber_12] at h
    cases h
  | succ n ih =>
    intro x1 x2 x3 x4 u ls hw hl h
    rw [f_X2_thingNumber_12] at h
    refine lv_iload hx hb dX2_thingNumber_12 (lv_at hl 4 rfl) ?_
    refine lv_aload_n hx hb dX2_thingNumber_14 rfl (lv_at hl 0 rfl) ?_
    refine s_g0_0 F hw dX2_thingNumber_15 ?_
    refine lv_iload_n hx hb dX2_thingNumber_18 rfl (lv_at hl 1 rfl) ?_
    obtain ⟨z3, e4, h⟩ := bnd h
    refine k_X1_end_s_ F hw e4 ⟨Nat.le_of_ble_eq_true rfl, Nat.le_of_ble_eq_true rfl⟩ ⟨Nat.zero_le _, Nat.zero_le _⟩ hl.1 (Nat.le_of_ble_eq_true rfl) dX2_thingNumber_19 ?_
    refine lv_icmp_ge (tgt := 72) hx hb dX2_thingNumber_22 rfl (fun c5 => ?_) (fun c5 => ?_)
    · replace h := itT h c5
      refine lv_iconst (v := (-1)) hx hb dX2_thingNumber_72 rfl ?_
      cases h
      exact retO_i F dX2_thingNumber_73
    · replace h := itF h c5
      refine lv_aload_n hx hb dX2_thingNumber_25 rfl (lv_at hl 0 rfl) ?_
      refine s_g0_0 F hw dX2_thingNumber_26 ?_
      refine lv_iload hx hb dX2_thingNumber_29 (lv_at hl 4 rfl) ?_
      obtain ⟨z6, e7, h⟩ := bnd h
      refine k_X1_standAt_s_ F hw e7 ⟨Nat.le_of_ble_eq_true rfl, Nat.le_of_ble_eq_true rfl⟩ ⟨Nat.zero_le _, Nat.zero_le _⟩ hl.1 (Nat.le_of_ble_eq_true rfl) dX2_thingNumber_31 ?_
      refine lv_istore (lv' := [(5, .int z6), (0, .ref (ad 0)), (1, .int x1), (2, .int x2), (3, .int x3), (4, .int x4)]) hx hb dX2_thingNumber_34 hl (by decide) rfl (fun ls hl => ?_)
      refine lv_iload hx hb dX2_thingNumber_36 (lv_at hl 0 rfl) ?_
      obtain ⟨z8, e9, h⟩ := bnd h
      refine k_X3_isEnd_s_ F hw e9 ⟨Nat.le_of_ble_eq_true rfl, Nat.le_of_ble_eq_true rfl⟩ ⟨Nat.zero_le _, Nat.zero_le _⟩ hl.1 (Nat.le_of_ble_eq_true rfl) dX2_thingNumber_38 ?_
      refine lv_if_ne (tgt := 55) hx hb dX2_thingNumber_41 rfl (fun c10 => ?_) (fun c10 => ?_)
      · replace h := itF h c10
        refine lv_iload hx hb dX2_thingNumber_55 (lv_at hl 0 rfl) ?_
        obtain ⟨z11, e12, h⟩ := bnd h
        refine k_X3_isEnd_s_ F hw e12 ⟨Nat.le_of_ble_eq_true rfl, Nat.le_of_ble_eq_true rfl⟩ ⟨Nat.zero_le _, Nat.zero_le _⟩ hl.1 (Nat.le_of_ble_eq_true rfl) dX2_thingNumber_57 ?_
        refine lv_if_ne (tgt := 66) hx hb dX2_thingNumber_60 rfl (fun c13 => ?_) (fun c13 => ?_)
        · replace h := itF h c13
          refine lv_iinc (v := (x4 + 1)) (lv' := [(4, .int (x4 + 1)), (5, .int z6), (0, .ref (ad 0)), (1, .int x1), (2, .int x2), (3, .int x3)]) hx hb dX2_thingNumber_66 hl (k := 5) rfl rfl (by decide) rfl (fun ls hl => ?_)
          refine lv_goto (tgt := 12) hx hb dX2_thingNumber_69 rfl ?_
          exact ih _ _ _ _ _ _ hw (lv_sub hl [2, 3, 4, 5, 0] rfl) h
        · replace h := itT h c13
          refine lv_iinc (v := (x3 + 1)) (lv' := [(3, .int (x3 + 1)), (5, .int z6), (0, .ref (ad 0)), (1, .int x1), (2, .int x2), (4, .int x4)]) hx hb dX2_thingNumber_63 hl (k := 4) rfl rfl (by decide) rfl (fun ls hl => ?_)
          refine lv_iinc (v := (x4 + 1)) (lv' := [(4, .int (x4 + 1)), (3, .int (x3 + 1)), (5, .int z6), (0, .ref (ad 0)), (1, .int x1), (2, .int x2)]) hx hb dX2_thingNumber_66 hl (k := 5) rfl rfl (by decide) rfl (fun ls hl => ?_)
          refine lv_goto (tgt := 12) hx hb dX2_thingNumber_69 rfl ?_
          exact ih _ _ _ _ _ _ hw (lv_sub hl [3, 4, 5, 1, 0] rfl) h
      · replace h := itT h c10
        refine lv_iload_n hx hb dX2_thingNumber_44 rfl (lv_at hl 4 rfl) ?_
        refine lv_iload_n hx hb dX2_thingNumber_45 rfl (lv_at hl 3 rfl) ?_
        refine lv_icmp_ne (tgt := 55) hx hb dX2_thingNumber_46 rfl (fun c14 => ?_) (fun c14 => ?_)
        · replace h := itF h c14
          refine lv_iload hx hb dX2_thingNumber_55 (lv_at hl 0 rfl) ?_
          obtain ⟨z15, e16, h⟩ := bnd h
          refine k_X3_isEnd_s_ F hw e16 ⟨Nat.le_of_ble_eq_true rfl, Nat.le_of_ble_eq_true rfl⟩ ⟨Nat.zero_le _, Nat.zero_le _⟩ hl.1 (Nat.le_of_ble_eq_true rfl) dX2_thingNumber_57 ?_
          refine lv_if_ne (tgt := 66) hx hb dX2_thingNumber_60 rfl (fun c17 => ?_) (fun c17 => ?_)
          · replace h := itF h c17
            refine lv_iinc (v := (x4 + 1)) (lv' := [(4, .int (x4 + 1)), (5, .int z6), (0, .ref (ad 0)), (1, .int x1), (2, .int x2), (3, .int x3)]) hx hb dX2_thingNumber_66 hl (k := 5) rfl rfl (by decide) rfl (fun ls hl => ?_)
            refine lv_goto (tgt := 12) hx hb dX2_thingNumber_69 rfl ?_
            exact ih _ _ _ _ _ _ hw (lv_sub hl [2, 3, 4, 5, 0] rfl) h
          · replace h := itT h c17
            refine lv_iinc (v := (x3 + 1)) (lv' := [(3, .int (x3 + 1)), (5, .int z6), (0, .ref (ad 0)), (1, .int x1), (2, .int x2), (4, .int x4)]) hx hb dX2_thingNumber_63 hl (k := 4) rfl rfl (by decide) rfl (fun ls hl => ?_)
            refine lv_iinc (v := (x4 + 1)) (lv' := [(4, .int (x4 + 1)), (3, .int (x3 + 1)), (5, .int z6), (0, .ref (ad 0)), (1, .int x1), (2, .int x2)]) hx hb dX2_thingNumber_66 hl (k := 5) rfl rfl (by decide) rfl (fun ls hl => ?_)
            refine lv_goto (tgt := 12) hx hb dX2_thingNumber_69 rfl ?_
            exact ih _ _ _ _ _ _ hw (lv_sub hl [3, 4, 5, 1, 0] rfl) h
        · replace h := itT h c14
          refine lv_iload hx hb dX2_thingNumber_49 (lv_at hl 0 rfl) ?_
          obtain ⟨z18, e19, h⟩ := bnd h
          refine k_X3_thingOf_s_ F hw e19 ⟨Nat.le_of_ble_eq_true rfl, Nat.le_of_ble_eq_true rfl⟩ ⟨Nat.zero_le _, Nat.zero_le _⟩ hl.1 (Nat.le_of_ble_eq_true rfl) dX2_thingNumber_51 ?_
          cases h
          exact retO_i F dX2_thingNumber_54
set_option maxHeartbeats 4000000 in
set_option maxRecDepth 100000 in
theorem w_X2_thingNumber_0 (F : FX p m c cX2_thingNumber 6 s args yX2_thingNumber (some .int) RX2 meth) {z : Int32} : ∀ (x1 : Int32) (x2 : Int32) (u : SS) (ls : Array Slot), WD G A s (sw G ad u) s.heap [] → lv_has ls 6 [(0, .ref (ad 0)), (1, .int x1), (2, .int x2)] → f_X2_thingNumber x1 x2 u = some z → W p l e rmX2_thingNumber s m args below meth c s.heap [] 0 0 (MQ below (QO (some (.int z))) args s 0 0 (fun _ => False)) (F0 m 0 ls []) := by
  obtain ⟨⟨hx, hb, hml, hown, hts⟩, hr, hlocks⟩ := id F
  intro x1 x2 u ls hw hl h
  unfold f_X2_thingNumber at h
  refine lv_iconst (v := 0) hx hb dX2_thingNumber_0 rfl ?_
  refine lv_istore_n (lv' := [(3, .int 0), (0, .ref (ad 0)), (1, .int x1), (2, .int x2)]) hx hb dX2_thingNumber_1 rfl hl (by decide) rfl (fun ls hl => ?_)
  refine lv_aload_n hx hb dX2_thingNumber_2 rfl (lv_at hl 1 rfl) ?_
  refine s_g0_0 F hw dX2_thingNumber_3 ?_
  refine lv_iload_n hx hb dX2_thingNumber_6 rfl (lv_at hl 2 rfl) ?_
  obtain ⟨z1, e2, h⟩ := bnd h
  refine k_X1_first_s_ F hw e2 ⟨Nat.le_of_ble_eq_true rfl, Nat.le_of_ble_eq_true rfl⟩ ⟨Nat.zero_le _, Nat.zero_le _⟩ hl.1 (Nat.le_of_ble_eq_true rfl) dX2_thingNumber_7 ?_
  refine lv_istore (lv' := [(4, .int z1), (3, .int 0), (0, .ref (ad 0)), (1, .int x1), (2, .int x2)]) hx hb dX2_thingNumber_10 hl (by decide) rfl (fun ls hl => ?_)
  exact w_X2_thingNumber_12 F NF _ _ _ _ _ _ hw (lv_sub hl [2, 3, 4, 1, 0] rfl) h
end
theorem c_X2_thingNumber {l : Launch} {G : GX} {ad : Nat → Nat} {x1 : Int32} {x2 : Int32} {u : SS} {z : Int32} (h : f_X2_thingNumber x1 x2 u = some z) : MO l yX2_thingNumber cX2_thingNumber 6 (some .int) rmX2_thingNumber G (sw G ad u) [.ref (ad 0), .int x1, .int x2] (some (.int z)) := MO.of (by decide) (Nat.le_of_ble_eq_true rfl) (fun p e s m below meth c ls F hw hl => w_X2_thingNumber_0 F _ _ _ _ hw hl h)
/-! ===== X2_takeOut ===== -/
theorem dX2_takeOut_0 : decode cX2_takeOut 0 = .ok (.iload_n 3, 1) := by decide +kernel
theorem dX2_takeOut_1 : decode cX2_takeOut 1 = .ok (.iload_n 2, 1) := by decide +kernel
theorem dX2_takeOut_2 : decode cX2_takeOut 2 = .ok (.isub, 1) := by decide +kernel
theorem dX2_takeOut_3 : decode cX2_takeOut 3 = .ok (.istore 5, 2) := by decide +kernel
theorem dX2_takeOut_5 : decode cX2_takeOut 5 = .ok (.iload_n 2, 1) := by decide +kernel
theorem dX2_takeOut_6 : decode cX2_takeOut 6 = .ok (.aload_n 0, 1) := by decide +kernel
theorem dX2_takeOut_7 : decode cX2_takeOut 7 = .ok (.getfield 12, 3) := by decide +kernel
theorem dX2_takeOut_10 : decode cX2_takeOut 10 = .ok (.iload_n 1, 1) := by decide +kernel
theorem dX2_takeOut_11 : decode cX2_takeOut 11 = .ok (.invokevirtual 81, 3) := by decide +kernel
theorem dX2_takeOut_14 : decode cX2_takeOut 14 = .ok (.if_icmp .lt 28, 3) := by decide +kernel
theorem dX2_takeOut_17 : decode cX2_takeOut 17 = .ok (.iload 5, 2) := by decide +kernel
theorem dX2_takeOut_19 : decode cX2_takeOut 19 = .ok (.ifCond .lt 23, 3) := by decide +kernel
theorem dX2_takeOut_22 : decode cX2_takeOut 22 = .ok (.iload_n 3, 1) := by decide +kernel
theorem dX2_takeOut_23 : decode cX2_takeOut 23 = .ok (.aload_n 0, 1) := by decide +kernel
theorem dX2_takeOut_24 : decode cX2_takeOut 24 = .ok (.getfield 12, 3) := by decide +kernel
theorem dX2_takeOut_27 : decode cX2_takeOut 27 = .ok (.iload_n 1, 1) := by decide +kernel
theorem dX2_takeOut_28 : decode cX2_takeOut 28 = .ok (.invokevirtual 84, 3) := by decide +kernel
theorem dX2_takeOut_31 : decode cX2_takeOut 31 = .ok (.if_icmp .gt 11, 3) := by decide +kernel
theorem dX2_takeOut_34 : decode cX2_takeOut 34 = .ok (.iload 5, 2) := by decide +kernel
theorem dX2_takeOut_36 : decode cX2_takeOut 36 = .ok (.aload 4, 2) := by decide +kernel
theorem dX2_takeOut_38 : decode cX2_takeOut 38 = .ok (.arraylength, 1) := by decide +kernel
theorem dX2_takeOut_39 : decode cX2_takeOut 39 = .ok (.if_icmp .le 5, 3) := by decide +kernel
theorem dX2_takeOut_42 : decode cX2_takeOut 42 = .ok (.iconst 0, 1) := by decide +kernel
theorem dX2_takeOut_43 : decode cX2_takeOut 43 = .ok (.ireturn, 1) := by decide +kernel
theorem dX2_takeOut_44 : decode cX2_takeOut 44 = .ok (.iload_n 2, 1) := by decide +kernel
theorem dX2_takeOut_45 : decode cX2_takeOut 45 = .ok (.aload_n 0, 1) := by decide +kernel
theorem dX2_takeOut_46 : decode cX2_takeOut 46 = .ok (.getfield 12, 3) := by decide +kernel
theorem dX2_takeOut_49 : decode cX2_takeOut 49 = .ok (.iload_n 1, 1) := by decide +kernel
theorem dX2_takeOut_50 : decode cX2_takeOut 50 = .ok (.invokevirtual 81, 3) := by decide +kernel
theorem dX2_takeOut_53 : decode cX2_takeOut 53 = .ok (.if_icmp .le 16, 3) := by decide +kernel
theorem dX2_takeOut_56 : decode cX2_takeOut 56 = .ok (.aload_n 0, 1) := by decide +kernel
theorem dX2_takeOut_57 : decode cX2_takeOut 57 = .ok (.getfield 12, 3) := by decide +kernel
theorem dX2_takeOut_60 : decode cX2_takeOut 60 = .ok (.iload_n 2, 1) := by decide +kernel
theorem dX2_takeOut_61 : decode cX2_takeOut 61 = .ok (.iconst 1, 1) := by decide +kernel
theorem dX2_takeOut_62 : decode cX2_takeOut 62 = .ok (.isub, 1) := by decide +kernel
theorem dX2_takeOut_63 : decode cX2_takeOut 63 = .ok (.invokevirtual 117, 3) := by decide +kernel
theorem dX2_takeOut_66 : decode cX2_takeOut 66 = .ok (.goto 4, 3) := by decide +kernel
theorem dX2_takeOut_69 : decode cX2_takeOut 69 = .ok (.iconst (-1), 1) := by decide +kernel
theorem dX2_takeOut_70 : decode cX2_takeOut 70 = .ok (.istore 6, 2) := by decide +kernel
theorem dX2_takeOut_72 : decode cX2_takeOut 72 = .ok (.iconst 0, 1) := by decide +kernel
theorem dX2_takeOut_73 : decode cX2_takeOut 73 = .ok (.istore 7, 2) := by decide +kernel
theorem dX2_takeOut_75 : decode cX2_takeOut 75 = .ok (.iload 7, 2) := by decide +kernel
theorem dX2_takeOut_77 : decode cX2_takeOut 77 = .ok (.bipush 20, 2) := by decide +kernel
theorem dX2_takeOut_79 : decode cX2_takeOut 79 = .ok (.if_icmp .ge 93, 3) := by decide +kernel
theorem dX2_takeOut_82 : decode cX2_takeOut 82 = .ok (.aload_n 0, 1) := by decide +kernel
theorem dX2_takeOut_83 : decode cX2_takeOut 83 = .ok (.getfield 21, 3) := by decide +kernel
theorem dX2_takeOut_86 : decode cX2_takeOut 86 = .ok (.getfield 133, 3) := by decide +kernel
theorem dX2_takeOut_89 : decode cX2_takeOut 89 = .ok (.iload 7, 2) := by decide +kernel
theorem dX2_takeOut_91 : decode cX2_takeOut 91 = .ok (.iaload, 1) := by decide +kernel
theorem dX2_takeOut_92 : decode cX2_takeOut 92 = .ok (.iload_n 1, 1) := by decide +kernel
theorem dX2_takeOut_93 : decode cX2_takeOut 93 = .ok (.if_icmp .ne 73, 3) := by decide +kernel
theorem dX2_takeOut_96 : decode cX2_takeOut 96 = .ok (.aload_n 0, 1) := by decide +kernel
theorem dX2_takeOut_97 : decode cX2_takeOut 97 = .ok (.getfield 21, 3) := by decide +kernel
theorem dX2_takeOut_100 : decode cX2_takeOut 100 = .ok (.getfield 136, 3) := by decide +kernel
theorem dX2_takeOut_103 : decode cX2_takeOut 103 = .ok (.iload 7, 2) := by decide +kernel
theorem dX2_takeOut_105 : decode cX2_takeOut 105 = .ok (.iaload, 1) := by decide +kernel
theorem dX2_takeOut_106 : decode cX2_takeOut 106 = .ok (.iconst (-1), 1) := by decide +kernel
theorem dX2_takeOut_107 : decode cX2_takeOut 107 = .ok (.if_icmp .eq 59, 3) := by decide +kernel
theorem dX2_takeOut_110 : decode cX2_takeOut 110 = .ok (.aload_n 0, 1) := by decide +kernel
theorem dX2_takeOut_111 : decode cX2_takeOut 111 = .ok (.getfield 12, 3) := by decide +kernel
theorem dX2_takeOut_114 : decode cX2_takeOut 114 = .ok (.aload_n 0, 1) := by decide +kernel
theorem dX2_takeOut_115 : decode cX2_takeOut 115 = .ok (.getfield 21, 3) := by decide +kernel
theorem dX2_takeOut_118 : decode cX2_takeOut 118 = .ok (.getfield 136, 3) := by decide +kernel
theorem dX2_takeOut_121 : decode cX2_takeOut 121 = .ok (.iload 7, 2) := by decide +kernel
theorem dX2_takeOut_123 : decode cX2_takeOut 123 = .ok (.iaload, 1) := by decide +kernel
theorem dX2_takeOut_124 : decode cX2_takeOut 124 = .ok (.invokevirtual 91, 3) := by decide +kernel
theorem dX2_takeOut_127 : decode cX2_takeOut 127 = .ok (.istore 8, 2) := by decide +kernel
theorem dX2_takeOut_129 : decode cX2_takeOut 129 = .ok (.aload_n 0, 1) := by decide +kernel
theorem dX2_takeOut_130 : decode cX2_takeOut 130 = .ok (.getfield 21, 3) := by decide +kernel
theorem dX2_takeOut_133 : decode cX2_takeOut 133 = .ok (.getfield 136, 3) := by decide +kernel
theorem dX2_takeOut_136 : decode cX2_takeOut 136 = .ok (.iload 7, 2) := by decide +kernel
theorem dX2_takeOut_138 : decode cX2_takeOut 138 = .ok (.iload 8, 2) := by decide +kernel
theorem dX2_takeOut_140 : decode cX2_takeOut 140 = .ok (.iload_n 2, 1) := by decide +kernel
theorem dX2_takeOut_141 : decode cX2_takeOut 141 = .ok (.if_icmp .lt 14, 3) := by decide +kernel
theorem dX2_takeOut_144 : decode cX2_takeOut 144 = .ok (.iload 8, 2) := by decide +kernel
theorem dX2_takeOut_146 : decode cX2_takeOut 146 = .ok (.iload_n 3, 1) := by decide +kernel
theorem dX2_takeOut_147 : decode cX2_takeOut 147 = .ok (.if_icmp .ge 8, 3) := by decide +kernel
theorem dX2_takeOut_150 : decode cX2_takeOut 150 = .ok (.iload 6, 2) := by decide +kernel
theorem dX2_takeOut_152 : decode cX2_takeOut 152 = .ok (.goto 13, 3) := by decide +kernel
theorem dX2_takeOut_155 : decode cX2_takeOut 155 = .ok (.aload_n 0, 1) := by decide +kernel
theorem dX2_takeOut_156 : decode cX2_takeOut 156 = .ok (.getfield 21, 3) := by decide +kernel
theorem dX2_takeOut_159 : decode cX2_takeOut 159 = .ok (.getfield 136, 3) := by decide +kernel
theorem dX2_takeOut_162 : decode cX2_takeOut 162 = .ok (.iload 7, 2) := by decide +kernel
theorem dX2_takeOut_164 : decode cX2_takeOut 164 = .ok (.iaload, 1) := by decide +kernel
theorem dX2_takeOut_165 : decode cX2_takeOut 165 = .ok (.iastore, 1) := by decide +kernel
theorem dX2_takeOut_166 : decode cX2_takeOut 166 = .ok (.iinc 7 1, 3) := by decide +kernel
theorem dX2_takeOut_169 : decode cX2_takeOut 169 = .ok (.goto (-94), 3) := by decide +kernel
theorem dX2_takeOut_172 : decode cX2_takeOut 172 = .ok (.aload_n 0, 1) := by decide +kernel
theorem dX2_takeOut_173 : decode cX2_takeOut 173 = .ok (.getfield 12, 3) := by decide +kernel
theorem dX2_takeOut_176 : decode cX2_takeOut 176 = .ok (.getfield 104, 3) := by decide +kernel
theorem dX2_takeOut_179 : decode cX2_takeOut 179 = .ok (.iload_n 2, 1) := by decide +kernel
theorem dX2_takeOut_180 : decode cX2_takeOut 180 = .ok (.aload 4, 2) := by decide +kernel
theorem dX2_takeOut_182 : decode cX2_takeOut 182 = .ok (.iconst 0, 1) := by decide +kernel
theorem dX2_takeOut_183 : decode cX2_takeOut 183 = .ok (.iload 5, 2) := by decide +kernel
theorem dX2_takeOut_185 : decode cX2_takeOut 185 = .ok (.invokestatic 59, 3) := by decide +kernel
theorem dX2_takeOut_188 : decode cX2_takeOut 188 = .ok (.aload_n 0, 1) := by decide +kernel
theorem dX2_takeOut_189 : decode cX2_takeOut 189 = .ok (.getfield 12, 3) := by decide +kernel
theorem dX2_takeOut_192 : decode cX2_takeOut 192 = .ok (.iload_n 1, 1) := by decide +kernel
theorem dX2_takeOut_193 : decode cX2_takeOut 193 = .ok (.iload_n 2, 1) := by decide +kernel
theorem dX2_takeOut_194 : decode cX2_takeOut 194 = .ok (.iload_n 3, 1) := by decide +kernel
theorem dX2_takeOut_195 : decode cX2_takeOut 195 = .ok (.invokevirtual 139, 3) := by decide +kernel
theorem dX2_takeOut_198 : decode cX2_takeOut 198 = .ok (.iload 5, 2) := by decide +kernel
theorem dX2_takeOut_200 : decode cX2_takeOut 200 = .ok (.ireturn, 1) := by decide +kernel
theorem p_g0_0 {p : Program} {l : Launch} {e : Env} {R : Room} {s : State} {m : MethodId} {args : Array Value} {below : List Frame} {meth : Method} {c : Code} {H : Heap} {locs : List Loc} {cells slots : Nat} {Q : State → Prop} {G : GX} {A : Nat → Prop} {ad : Nat → Nat} {u : SP} {cc : ByteArray} {nL pc : Nat} {y : MethodName} {ret : Option FieldType} {ls : Array Slot} {rest : List Value} (F : FX p m c cc nL s args y ret RX2 meth) (hw : WD G A s (sp G ad u) H locs) (hdg : decode cc pc = .ok (.getfield 12, 3)) (kk : W p l e R s m args below meth c H locs cells slots Q (F0 m (pc + 3) ls (.ref (ad 1) :: rest))) : W p l e R s m args below meth c H locs cells slots Q (F0 m pc ls (.ref (ad 0) :: rest)) := va_get (D := G.1) (ci := 2) (C := RX2) (T := TX2) (N := 8) (Ts := lw_gt) F.1.1 F.1.2.1 (fun _ h => F.tb h) inX2 F.1.2.2.2.1 hw.1.1 hw.2.1 0 rfl rfl 0 (by decide) (F.tb (tw 67 (by decide +kernel) rfl)) (fun _ h9 => h9) rfl hdg kk
theorem k_X1_first_p_ {p : Program} {l : Launch} {e : Env} {R : Room} {s : State} {m : MethodId} {args : Array Value} {below : List Frame} {meth : Method} {c : Code} {H : Heap} {locs : List Loc} {cells slots : Nat} {Q : State → Prop} {G : GX} {A : Nat → Prop} {ad : Nat → Nat} {u : SP} {cc : ByteArray} {nL pc : Nat} {y : MethodName} {ret : Option FieldType} {ls : Array Slot} {rest : List Value} {x1 : Int32} {z : Int32} (F : FX p m c cc nL s args y ret RX2 meth) (hw : WD G A s (sp G ad u) H locs) (h : f_X1_first x1 u.1.1 = some z) (hR : rmX1_first.frames + 1 ≤ R.frames ∧ 8 + (2 + 11) + rmX1_first.locals ≤ R.locals) (hcs : cells ≤ R.cells ∧ slots ≤ R.slots) (hsz : ls.size = nL) (hW : (rest.map fun v => v.category).sum ≤ 8) (hdg : decode cc pc = .ok (.invokevirtual 81, 3)) (kk : W p l e R s m args below meth c H locs cells slots Q (F0 m (pc + 3) ls (.int z :: rest))) : W p l e R s m args below meth c H locs cells slots Q (F0 m pc ls (.int x1 :: .ref (ad 1) :: rest)) := callO (runV F yv_X1_first_X2 (c_X1_first h (ad := (fun k => ad (k + 1)))) hw.1 (hw.2.1.sub [1, 2, 3, 4] rfl) (hw.2.2.1.sub [1, 2, 3, 4] (by decide) rfl) rfl rfl rfl ⟨rfl, rfl⟩ hR hcs rfl hsz rfl hW hdg) kk
theorem k_X1_end_p_ {p : Program} {l : Launch} {e : Env} {R : Room} {s : State} {m : MethodId} {args : Array Value} {below : List Frame} {meth : Method} {c : Code} {H : Heap} {locs : List Loc} {cells slots : Nat} {Q : State → Prop} {G : GX} {A : Nat → Prop} {ad : Nat → Nat} {u : SP} {cc : ByteArray} {nL pc : Nat} {y : MethodName} {ret : Option FieldType} {ls : Array Slot} {rest : List Value} {x1 : Int32} {z : Int32} (F : FX p m c cc nL s args y ret RX2 meth) (hw : WD G A s (sp G ad u) H locs) (h : f_X1_end x1 u.1.1 = some z) (hR : rmX1_end.frames + 1 ≤ R.frames ∧ 8 + (2 + 11) + rmX1_end.locals ≤ R.locals) (hcs : cells ≤ R.cells ∧ slots ≤ R.slots) (hsz : ls.size = nL) (hW : (rest.map fun v => v.category).sum ≤ 8) (hdg : decode cc pc = .ok (.invokevirtual 84, 3)) (kk : W p l e R s m args below meth c H locs cells slots Q (F0 m (pc + 3) ls (.int z :: rest))) : W p l e R s m args below meth c H locs cells slots Q (F0 m pc ls (.int x1 :: .ref (ad 1) :: rest)) := callO (runV F yv_X1_end_X2 (c_X1_end h (ad := (fun k => ad (k + 1)))) hw.1 (hw.2.1.sub [1, 2, 3, 4] rfl) (hw.2.2.1.sub [1, 2, 3, 4] (by decide) rfl) rfl rfl rfl ⟨rfl, rfl⟩ hR hcs rfl hsz rfl hW hdg) kk
theorem p_n14 {p : Program} {l : Launch} {e : Env} {R : Room} {s : State} {m : MethodId} {args : Array Value} {below : List Frame} {meth : Method} {c : Code} {H : Heap} {locs : List Loc} {cells slots : Nat} {Q : State → Prop} {G : GX} {A : Nat → Prop} {ad : Nat → Nat} {u : SP} {cc : ByteArray} {nL pc : Nat} {y : MethodName} {ret : Option FieldType} {ls : Array Slot} {rest : List Value} (F : FX p m c cc nL s args y ret RX2 meth) (hw : WD G A s (sp G ad u) H locs) (hdg : decode cc pc = .ok (.arraylength, 1)) (kk : W p l e R s m args below meth c H locs cells slots Q (F0 m (pc + 1) ls (.int 600 :: rest))) : W p l e R s m args below meth c H locs cells slots Q (F0 m pc ls (.ref (ad 14) :: rest)) := va_alen F.1.1 F.1.2.1 hw.1.1 hw.2.1 14 0 rfl rfl rfl hdg kk
theorem k_X1_standAt_p_ {p : Program} {l : Launch} {e : Env} {R : Room} {s : State} {m : MethodId} {args : Array Value} {below : List Frame} {meth : Method} {c : Code} {H : Heap} {locs : List Loc} {cells slots : Nat} {Q : State → Prop} {G : GX} {A : Nat → Prop} {ad : Nat → Nat} {u : SP} {cc : ByteArray} {nL pc : Nat} {y : MethodName} {ret : Option FieldType} {ls : Array Slot} {rest : List Value} {x1 : Int32} {z : Int32} (F : FX p m c cc nL s args y ret RX2 meth) (hw : WD G A s (sp G ad u) H locs) (h : f_X1_standAt x1 u.1.1 = some z) (hR : rmX1_standAt.frames + 1 ≤ R.frames ∧ 8 + (2 + 11) + rmX1_standAt.locals ≤ R.locals) (hcs : cells ≤ R.cells ∧ slots ≤ R.slots) (hsz : ls.size = nL) (hW : (rest.map fun v => v.category).sum ≤ 8) (hdg : decode cc pc = .ok (.invokevirtual 117, 3)) (kk : W p l e R s m args below meth c H locs cells slots Q (F0 m (pc + 3) ls (.int z :: rest))) : W p l e R s m args below meth c H locs cells slots Q (F0 m pc ls (.int x1 :: .ref (ad 1) :: rest)) := callO (runV F yv_X1_standAt_X2 (c_X1_standAt h (ad := (fun k => ad (k + 1)))) hw.1 (hw.2.1.sub [1, 2, 3, 4] rfl) (hw.2.2.1.sub [1, 2, 3, 4] (by decide) rfl) rfl rfl rfl ⟨rfl, rfl⟩ hR hcs rfl hsz rfl hW hdg) kk
theorem p_g1_0 {p : Program} {l : Launch} {e : Env} {R : Room} {s : State} {m : MethodId} {args : Array Value} {below : List Frame} {meth : Method} {c : Code} {H : Heap} {locs : List Loc} {cells slots : Nat} {Q : State → Prop} {G : GX} {A : Nat → Prop} {ad : Nat → Nat} {u : SP} {cc : ByteArray} {nL pc : Nat} {y : MethodName} {ret : Option FieldType} {ls : Array Slot} {rest : List Value} (F : FX p m c cc nL s args y ret RX2 meth) (hw : WD G A s (sp G ad u) H locs) (hdg : decode cc pc = .ok (.getfield 104, 3)) (kk : W p l e R s m args below meth c H locs cells slots Q (F0 m (pc + 3) ls (.ref (ad 2) :: rest))) : W p l e R s m args below meth c H locs cells slots Q (F0 m pc ls (.ref (ad 1) :: rest)) := va_get (D := G.1) (ci := 1) (C := RX1) (T := TX1) (N := 3) (Ts := lw_gt) F.1.1 F.1.2.1 (fun _ h => F.tb h) inX1 F.1.2.2.2.1 hw.1.1 hw.2.1 1 rfl rfl 0 (by decide) (F.tb (tw 34 (by decide +kernel) rfl)) (fun _ h9 => h9) rfl hdg kk
theorem p_c2_14 {i j n : Int32} {p : Program} {l : Launch} {e : Env} {R : Room} {s : State} {m : MethodId} {args : Array Value} {below : List Frame} {meth : Method} {c : Code} {H : Heap} {locs : List Loc} {cells slots : Nat} {Q : State → Prop} {G : GX} {A : Nat → Prop} {ad : Nat → Nat} {u : SP} {cc : ByteArray} {nL pc : Nat} {y : MethodName} {ret : Option FieldType} {ls : Array Slot} {rest : List Value} (F : FX p m c cc nL s args y ret RX2 meth) (hw : WD G A s (sp G ad u) H locs) (hi : acp i j n 600 600 = true) (hsz : ls.size = nL) (hfr : 1 ≤ R.frames) (hlo : (rest.map fun v => v.category).sum + 18 ≤ R.locals) (hdg : decode cc pc = .ok (.invokestatic 59, 3)) (kk : ∀ (H : Heap) (locs : List Loc), WD G A s (sp G ad (u.1, (va_cpy (u.1.1 1) u.2 i.toNatClampNeg j.toNatClampNeg n.toNatClampNeg))) H locs → W p l e R s m args below meth c H locs cells slots Q (F0 m (pc + 3) ls (rest))) : W p l e R s m args below meth c H locs cells slots Q (F0 m pc ls (.int n :: .int j :: .ref (ad 14) :: .int i :: .ref (ad 2) :: rest)) := va_copyi (ty := .int) F.1.1 F.1.2.1 (F.1.2.2.1.trans hsz.symm) F.1.2.2.2.1 (F.tb (tw 155 (by decide +kernel) rfl)) (F.tb (tw 149 (by decide +kernel) rfl)) (F.tb (tw 148 (by decide +kernel) rfl)) (F.tb (tw 7 (by decide +kernel) rfl)) hw.1.1 hw.2.1 hw.2.2.1 hw.2.2.2 2 14 0 0 rfl rfl rfl rfl rfl (acp_ok hi).1 (acp_ok hi).2.1 (acp_ok hi).2.2.1 (acp_ok hi).2.2.2.1 (acp_ok hi).2.2.2.2 (fun _ _ => rfl) hfr (by rw [nfw]; exact hlo) hdg (fun H1 l1 hP hD hS => kk H1 l1 ⟨hw.1, hP, hD, hS⟩)
theorem yv_X1_remove_X2 : YV RX2 139 yX1_remove cX1_remove 5 none 3 := ⟨(tw 317 (by decide +kernel) rfl), (tw 3 (by decide +kernel) rfl), (tw 314 (by decide +kernel) rfl), (tw 315 (by decide +kernel) rfl), (tw 316 (by decide +kernel) rfl), by decide +kernel⟩
theorem k_X1_remove_p_ {p : Program} {l : Launch} {e : Env} {R : Room} {s : State} {m : MethodId} {args : Array Value} {below : List Frame} {meth : Method} {c : Code} {H : Heap} {locs : List Loc} {cells slots : Nat} {Q : State → Prop} {G : GX} {A : Nat → Prop} {ad : Nat → Nat} {u : SP} {cc : ByteArray} {nL pc : Nat} {y : MethodName} {ret : Option FieldType} {ls : Array Slot} {rest : List Value} {x1 : Int32} {x2 : Int32} {x3 : Int32} {z : OS} (F : FX p m c cc nL s args y ret RX2 meth) (hw : WD G A s (sp G ad u) H locs) (h : f_X1_remove x1 x2 x3 u.1.1 = some z) (hR : rmX1_remove.frames + 1 ≤ R.frames ∧ 8 + (5 + 11) + rmX1_remove.locals ≤ R.locals) (hcs : cells ≤ R.cells ∧ slots ≤ R.slots) (hsz : ls.size = nL) (hW : (rest.map fun v => v.category).sum ≤ 8) (hdg : decode cc pc = .ok (.invokevirtual 139, 3)) (kk : ∀ (H : Heap) (locs : List Loc), WD G A s (sp G ad ((sO u.1 z), u.2)) H locs → W p l e R s m args below meth c H locs cells slots Q (F0 m (pc + 3) ls (rest))) : W p l e R s m args below meth c H locs cells slots Q (F0 m pc ls (.int x3 :: .int x2 :: .int x1 :: .ref (ad 1) :: rest)) := callW (runV F yv_X1_remove_X2 (c_X1_remove h (ad := (fun k => ad (k + 1)))) hw.1 (hw.2.1.sub [1, 2, 3, 4] rfl) (hw.2.2.1.sub [1, 2, 3, 4] (by decide) rfl) rfl rfl rfl ⟨rfl, rfl⟩ hR hcs rfl hsz rfl hW hdg) hw.2.2.2 (hw.2.2.1.sub [1, 2, 3, 4] (by decide) rfl).own_in (fun H1 l1 hP hk hS => kk H1 l1 ⟨hw.1, (joinW hw.2.1 hw.2.2.1 [1, 2, 3, 4] [0, 5, 6, 7, 8, 9, 10, 11, 12, 13, 14] rfl (by decide) hk hP).sub [0, 11, 12, 13, 14, 1, 2, 3, 4, 5, 6, 7, 8, 9, 10] rfl, hw.2.2.1.addr rfl, hS⟩)
theorem p_g0_1 {p : Program} {l : Launch} {e : Env} {R : Room} {s : State} {m : MethodId} {args : Array Value} {below : List Frame} {meth : Method} {c : Code} {H : Heap} {locs : List Loc} {cells slots : Nat} {Q : State → Prop} {G : GX} {A : Nat → Prop} {ad : Nat → Nat} {u : SP} {cc : ByteArray} {nL pc : Nat} {y : MethodName} {ret : Option FieldType} {ls : Array Slot} {rest : List Value} (F : FX p m c cc nL s args y ret RX2 meth) (hw : WD G A s (sp G ad u) H locs) (hdg : decode cc pc = .ok (.getfield 21, 3)) (kk : W p l e R s m args below meth c H locs cells slots Q (F0 m (pc + 3) ls (.ref (ad 5) :: rest))) : W p l e R s m args below meth c H locs cells slots Q (F0 m pc ls (.ref (ad 0) :: rest)) := va_get (D := G.1) (ci := 2) (C := RX2) (T := TX2) (N := 8) (Ts := lw_gt) F.1.1 F.1.2.1 (fun _ h => F.tb h) inX2 F.1.2.2.2.1 hw.1.1 hw.2.1 0 rfl rfl 1 (by decide) (F.tb (tw 69 (by decide +kernel) rfl)) (fun _ h9 => h9) rfl hdg kk
theorem p_g5_0 {p : Program} {l : Launch} {e : Env} {R : Room} {s : State} {m : MethodId} {args : Array Value} {below : List Frame} {meth : Method} {c : Code} {H : Heap} {locs : List Loc} {cells slots : Nat} {Q : State → Prop} {G : GX} {A : Nat → Prop} {ad : Nat → Nat} {u : SP} {cc : ByteArray} {nL pc : Nat} {y : MethodName} {ret : Option FieldType} {ls : Array Slot} {rest : List Value} (F : FX p m c cc nL s args y ret RX2 meth) (hw : WD G A s (sp G ad u) H locs) (hdg : decode cc pc = .ok (.getfield 133, 3)) (kk : W p l e R s m args below meth c H locs cells slots Q (F0 m (pc + 3) ls (.ref (ad 6) :: rest))) : W p l e R s m args below meth c H locs cells slots Q (F0 m pc ls (.ref (ad 5) :: rest)) := va_get (D := G.1) (ci := 0) (C := RX0) (T := TX0) (N := 3) (Ts := lw_gt) F.1.1 F.1.2.1 (fun _ h => F.tb h) inX0 F.1.2.2.2.1 hw.1.1 hw.2.1 5 rfl rfl 0 (by decide) (F.tb (tw 54 (by decide +kernel) rfl)) (fun _ h9 => h9) rfl hdg kk
theorem p_l6 {i : Int32} {p : Program} {l : Launch} {e : Env} {R : Room} {s : State} {m : MethodId} {args : Array Value} {below : List Frame} {meth : Method} {c : Code} {H : Heap} {locs : List Loc} {cells slots : Nat} {Q : State → Prop} {G : GX} {A : Nat → Prop} {ad : Nat → Nat} {u : SP} {cc : ByteArray} {nL pc : Nat} {y : MethodName} {ret : Option FieldType} {ls : Array Slot} {rest : List Value} (F : FX p m c cc nL s args y ret RX2 meth) (hw : WD G A s (sp G ad u) H locs) (hi : ix i 20 = true) (hdg : decode cc pc = .ok (.iaload, 1)) (kk : W p l e R s m args below meth c H locs cells slots Q (F0 m (pc + 1) ls (.int ((u.1.2.1 1) i.toNatClampNeg) :: rest))) : W p l e R s m args below meth c H locs cells slots Q (F0 m pc ls (.int i :: .ref (ad 6) :: rest)) := va_iald F.1.1 F.1.2.1 hw.1.1 hw.2.1 6 0 rfl rfl (ix_in hi) hdg kk
theorem p_g5_1 {p : Program} {l : Launch} {e : Env} {R : Room} {s : State} {m : MethodId} {args : Array Value} {below : List Frame} {meth : Method} {c : Code} {H : Heap} {locs : List Loc} {cells slots : Nat} {Q : State → Prop} {G : GX} {A : Nat → Prop} {ad : Nat → Nat} {u : SP} {cc : ByteArray} {nL pc : Nat} {y : MethodName} {ret : Option FieldType} {ls : Array Slot} {rest : List Value} (F : FX p m c cc nL s args y ret RX2 meth) (hw : WD G A s (sp G ad u) H locs) (hdg : decode cc pc = .ok (.getfield 136, 3)) (kk : W p l e R s m args below meth c H locs cells slots Q (F0 m (pc + 3) ls (.ref (ad 7) :: rest))) : W p l e R s m args below meth c H locs cells slots Q (F0 m pc ls (.ref (ad 5) :: rest)) := va_get (D := G.1) (ci := 0) (C := RX0) (T := TX0) (N := 3) (Ts := lw_gt) F.1.1 F.1.2.1 (fun _ h => F.tb h) inX0 F.1.2.2.2.1 hw.1.1 hw.2.1 5 rfl rfl 1 (by decide) (F.tb (tw 57 (by decide +kernel) rfl)) (fun _ h9 => h9) rfl hdg kk
theorem p_l7 {i : Int32} {p : Program} {l : Launch} {e : Env} {R : Room} {s : State} {m : MethodId} {args : Array Value} {below : List Frame} {meth : Method} {c : Code} {H : Heap} {locs : List Loc} {cells slots : Nat} {Q : State → Prop} {G : GX} {A : Nat → Prop} {ad : Nat → Nat} {u : SP} {cc : ByteArray} {nL pc : Nat} {y : MethodName} {ret : Option FieldType} {ls : Array Slot} {rest : List Value} (F : FX p m c cc nL s args y ret RX2 meth) (hw : WD G A s (sp G ad u) H locs) (hi : ix i 20 = true) (hdg : decode cc pc = .ok (.iaload, 1)) (kk : W p l e R s m args below meth c H locs cells slots Q (F0 m (pc + 1) ls (.int ((u.1.2.1 2) i.toNatClampNeg) :: rest))) : W p l e R s m args below meth c H locs cells slots Q (F0 m pc ls (.int i :: .ref (ad 7) :: rest)) := va_iald F.1.1 F.1.2.1 hw.1.1 hw.2.1 7 0 rfl rfl (ix_in hi) hdg kk
theorem k_X1_placeOf_p_ {p : Program} {l : Launch} {e : Env} {R : Room} {s : State} {m : MethodId} {args : Array Value} {below : List Frame} {meth : Method} {c : Code} {H : Heap} {locs : List Loc} {cells slots : Nat} {Q : State → Prop} {G : GX} {A : Nat → Prop} {ad : Nat → Nat} {u : SP} {cc : ByteArray} {nL pc : Nat} {y : MethodName} {ret : Option FieldType} {ls : Array Slot} {rest : List Value} {x1 : Int32} {z : Int32} (F : FX p m c cc nL s args y ret RX2 meth) (hw : WD G A s (sp G ad u) H locs) (h : f_X1_placeOf x1 u.1.1 = some z) (hR : rmX1_placeOf.frames + 1 ≤ R.frames ∧ 8 + (4 + 11) + rmX1_placeOf.locals ≤ R.locals) (hcs : cells ≤ R.cells ∧ slots ≤ R.slots) (hsz : ls.size = nL) (hW : (rest.map fun v => v.category).sum ≤ 8) (hdg : decode cc pc = .ok (.invokevirtual 91, 3)) (kk : W p l e R s m args below meth c H locs cells slots Q (F0 m (pc + 3) ls (.int z :: rest))) : W p l e R s m args below meth c H locs cells slots Q (F0 m pc ls (.int x1 :: .ref (ad 1) :: rest)) := callO (runV F yv_X1_placeOf_X2 (c_X1_placeOf h (ad := (fun k => ad (k + 1)))) hw.1 (hw.2.1.sub [1, 2, 3, 4] rfl) (hw.2.2.1.sub [1, 2, 3, 4] (by decide) rfl) rfl rfl rfl ⟨rfl, rfl⟩ hR hcs rfl hsz rfl hW hdg) kk
theorem p_s7 {i : Int32} {x : Int32} {p : Program} {l : Launch} {e : Env} {R : Room} {s : State} {m : MethodId} {args : Array Value} {below : List Frame} {meth : Method} {c : Code} {H : Heap} {locs : List Loc} {cells slots : Nat} {Q : State → Prop} {G : GX} {A : Nat → Prop} {ad : Nat → Nat} {u : SP} {cc : ByteArray} {nL pc : Nat} {y : MethodName} {ret : Option FieldType} {ls : Array Slot} {rest : List Value} (F : FX p m c cc nL s args y ret RX2 meth) (hw : WD G A s (sp G ad u) H locs) (hi : ix i 20 = true) (hdg : decode cc pc = .ok (.iastore, 1)) (kk : ∀ (H : Heap) (locs : List Loc), WD G A s (sp G ad ((sK u.1 (oA u.1.2.1 2 i.toNatClampNeg x)), u.2)) H locs → W p l e R s m args below meth c H locs cells slots Q (F0 m (pc + 1) ls (rest))) : W p l e R s m args below meth c H locs cells slots Q (F0 m pc ls (.int x :: .int i :: .ref (ad 7) :: rest)) := va_iast F.1.1 F.1.2.1 hw.1.1 hw.2.1 hw.2.2.1 hw.2.2.2 7 0 rfl rfl (ix_in hi) hdg (fun H1 l1 hP hD hS => kk H1 l1 ⟨hw.1, hP, hD, hS⟩)
def rmX2_takeOut : Room := { frames := 2, cells := 0, slots := 0, locals := 45 }
noncomputable def f_X2_takeOut_75 : Nat → Int32 → Int32 → Int32 → Int32 → Int32 → Int32 → SP → Option (Int32 × SP)
  | 0, _, _, _, _, _, _, _ => none
  | n + 1, x1, x2, x3, x5, x6, x7, u => (if (20 : Int32) ≤ x7 then (if acp x2 0 x5 600 600 = true then (f_X1_remove x1 x2 x3 (u.1, (va_cpy (u.1.1 1) u.2 (Int32.toNatClampNeg x2) (Int32.toNatClampNeg 0) (Int32.toNatClampNeg x5))).1.1).bind (fun z16 => some (x5, ((sO (u.1, (va_cpy (u.1.1 1) u.2 (Int32.toNatClampNeg x2) (Int32.toNatClampNeg 0) (Int32.toNatClampNeg x5))).1 z16), (u.1, (va_cpy (u.1.1 1) u.2 (Int32.toNatClampNeg x2) (Int32.toNatClampNeg 0) (Int32.toNatClampNeg x5))).2))) else none) else (if ix x7 20 = true then (if ((u.1.2.1 1) (Int32.toNatClampNeg x7)) = x1 then (if ix x7 20 = true then (if ((u.1.2.1 2) (Int32.toNatClampNeg x7)) = ((-1) : Int32) then f_X2_takeOut_75 n x1 x2 x3 x5 x6 (x7 + 1) u else (if ix x7 20 = true then (f_X1_placeOf ((u.1.2.1 2) (Int32.toNatClampNeg x7)) u.1.1).bind (fun z23 => (if z23 < x2 then (if ix x7 20 = true then (if ix x7 20 = true then f_X2_takeOut_75 n x1 x2 x3 x5 x6 (x7 + 1) ((sK u.1 (oA u.1.2.1 2 (Int32.toNatClampNeg x7) ((u.1.2.1 2) (Int32.toNatClampNeg x7)))), u.2) else none) else none) else (if x3 ≤ z23 then (if ix x7 20 = true then (if ix x7 20 = true then f_X2_takeOut_75 n x1 x2 x3 x5 x6 (x7 + 1) ((sK u.1 (oA u.1.2.1 2 (Int32.toNatClampNeg x7) ((u.1.2.1 2) (Int32.toNatClampNeg x7)))), u.2) else none) else none) else (if ix x7 20 = true then f_X2_takeOut_75 n x1 x2 x3 x5 x6 (x7 + 1) ((sK u.1 (oA u.1.2.1 2 (Int32.toNatClampNeg x7) x6)), u.2) else none)))) else none)) else none) else f_X2_takeOut_75 n x1 x2 x3 x5 x6 (x7 + 1) u) else none))
noncomputable def f_X2_takeOut (x1 : Int32) (x2 : Int32) (x3 : Int32) (u : SP) : Option (Int32 × SP) := (f_X1_first x1 u.1.1).bind (fun z1 => (if x2 < z1 then some (0, u) else (if (x3 - x2) < 0 then some (0, u) else (f_X1_end x1 u.1.1).bind (fun z5 => (if z5 < x3 then some (0, u) else (if (x3 - x2) ≤ (600 : Int32) then (f_X1_first x1 u.1.1).bind (fun z9 => (if x2 ≤ z9 then f_X2_takeOut_75 NF x1 x2 x3 (x3 - x2) (-1) 0 u else (f_X1_standAt (x2 - 1) u.1.1).bind (fun z12 => f_X2_takeOut_75 NF x1 x2 x3 (x3 - x2) z12 0 u))) else some (0, u)))))))
section
variable {p : Program} {l : Launch} {e : Env} {s : State} {m : MethodId} {args : Array Value} {below : List Frame} {meth : Method} {c : Code}
variable {G : GX} {A : Nat → Prop} {ad : Nat → Nat} 
set_option maxHeartbeats 4000000 in
set_option maxRecDepth 100000 in
theorem w_X2_takeOut_75 (F : FX p m c cX2_takeOut 9 s args yX2_takeOut (some .int) RX2 meth) {z : Int32 × SP} : ∀ (n : Nat) (x1 : Int32) (x2 : Int32) (x3 : Int32) (x5 : Int32) (x6 : Int32) (x7 : Int32) (u : SP) (H : Heap) (locs : List Loc) (ls : Array Slot), WD G A s (sp G ad u) H locs → lv_has ls 9 [(0, .ref (ad 0)), (1, .int x1), (2, .int x2), (3, .int x3), (4, .ref (ad 14)), (5, .int x5), (6, .int x6), (7, .int x7)] → f_X2_takeOut_75 n x1 x2 x3 x5 x6 x7 u = some z → W p l e rmX2_takeOut s m args below meth c H locs 0 0 (MQ below (QW G (sp G ad z.2) A (some (.int z.1))) args s 0 0 A) (F0 m 75 ls []) := by
  obtain ⟨⟨hx, hb, hml, hown, hts⟩, hr, hlocks⟩ := id F
  intro n
  induction n with
  | zero =>
    intro x1 x2 x3 x5 x6 x7 u H locs ls hw hl h
    rw [f_X2_takeOut_75] at h
    cases h
  | succ n ih =>
    intro x1 x2 x3 x5 x6 x7 u H locs ls hw hl h
    rw [f_X2_takeOut_75] at h
    refine lv_iload hx hb dX2_takeOut_75 (lv_at hl 7 rfl) ?_
    refine lv_bipush (v := 20) hx hb dX2_takeOut_77 rfl ?_
    refine lv_icmp_ge (tgt := 172) hx hb dX2_takeOut_79 rfl (fun c14 => ?_) (fun c14 => ?_)
    · replace h := itT h c14
      refine lv_aload_n hx hb dX2_takeOut_172 rfl (lv_at hl 0 rfl) ?_
      refine p_g0_0 F hw dX2_takeOut_173 ?_
      refine p_g1_0 F hw dX2_takeOut_176 ?_
      refine lv_iload_n hx hb dX2_takeOut_179 rfl (lv_at hl 2 rfl) ?_
      refine lv_aload hx hb dX2_takeOut_180 (lv_at hl 4 rfl) ?_
      refine lv_iconst (v := 0) hx hb dX2_takeOut_182 rfl ?_
      refine lv_iload hx hb dX2_takeOut_183 (lv_at hl 5 rfl) ?_
      obtain ⟨g15, h⟩ := gd h
      refine p_c2_14 F hw g15 hl.1 (Nat.le_of_ble_eq_true rfl) (Nat.le_of_ble_eq_true rfl) dX2_takeOut_185 (fun H locs hw => ?_)
      refine lv_aload_n hx hb dX2_takeOut_188 rfl (lv_at hl 0 rfl) ?_
      refine p_g0_0 F hw dX2_takeOut_189 ?_
      refine lv_iload_n hx hb dX2_takeOut_192 rfl (lv_at hl 1 rfl) ?_
      refine lv_iload_n hx hb dX2_takeOut_193 rfl (lv_at hl 2 rfl) ?_
      refine lv_iload_n hx hb dX2_takeOut_194 rfl (lv_at hl 3 rfl) ?_
      obtain ⟨z16, e17, h⟩ := bnd h
      refine k_X1_remove_p_ F hw e17 ⟨Nat.le_of_ble_eq_true rfl, Nat.le_of_ble_eq_true rfl⟩ ⟨Nat.zero_le _, Nat.zero_le _⟩ hl.1 (Nat.le_of_ble_eq_true rfl) dX2_takeOut_195 (fun H locs hw => ?_)
      refine lv_iload hx hb dX2_takeOut_198 (lv_at hl 5 rfl) ?_
      cases h
      exact retW_i F hw dX2_takeOut_200
    · replace h := itF h c14
      refine lv_aload_n hx hb dX2_takeOut_82 rfl (lv_at hl 0 rfl) ?_
      refine p_g0_1 F hw dX2_takeOut_83 ?_
      refine p_g5_0 F hw dX2_takeOut_86 ?_
      refine lv_iload hx hb dX2_takeOut_89 (lv_at hl 7 rfl) ?_
      obtain ⟨g18, h⟩ := gd h
      refine p_l6 F hw g18 dX2_takeOut_91 ?_
      refine lv_iload_n hx hb dX2_takeOut_92 rfl (lv_at hl 1 rfl) ?_
      refine lv_icmp_ne (tgt := 166) hx hb dX2_takeOut_93 rfl (fun c19 => ?_) (fun c19 => ?_)
      · replace h := itF h c19
        refine lv_iinc (v := (x7 + 1)) (lv' := [(7, .int (x7 + 1)), (0, .ref (ad 0)), (1, .int x1), (2, .int x2), (3, .int x3), (4, .ref (ad 14)), (5, .int x5), (6, .int x6)]) hx hb dX2_takeOut_166 hl (k := 7) rfl rfl (by decide) rfl (fun ls hl => ?_)
        refine lv_goto (tgt := 75) hx hb dX2_takeOut_169 rfl ?_
        exact ih _ _ _ _ _ _ _ _ _ _ hw (lv_sub hl [1, 2, 3, 4, 5, 6, 7, 0] rfl) h
      · replace h := itT h c19
        refine lv_aload_n hx hb dX2_takeOut_96 rfl (lv_at hl 0 rfl) ?_
        refine p_g0_1 F hw dX2_takeOut_97 ?_
        refine p_g5_1 F hw dX2_takeOut_100 ?_
        refine lv_iload hx hb dX2_takeOut_103 (lv_at hl 7 rfl) ?_
        obtain ⟨g20, h⟩ := gd h
        refine p_l7 F hw g20 dX2_takeOut_105 ?_
        refine lv_iconst (v := (-1)) hx hb dX2_takeOut_106 rfl ?_
        refine lv_icmp_eq (tgt := 166) hx hb dX2_takeOut_107 rfl (fun c21 => ?_) (fun c21 => ?_)
        · replace h := itT h c21
          refine lv_iinc (v := (x7 + 1)) (lv' := [(7, .int (x7 + 1)), (0, .ref (ad 0)), (1, .int x1), (2, .int x2), (3, .int x3), (4, .ref (ad 14)), (5, .int x5), (6, .int x6)]) hx hb dX2_takeOut_166 hl (k := 7) rfl rfl (by decide) rfl (fun ls hl => ?_)
          refine lv_goto (tgt := 75) hx hb dX2_takeOut_169 rfl ?_
          exact ih _ _ _ _ _ _ _ _ _ _ hw (lv_sub hl [1, 2, 3, 4, 5, 6, 7, 0] rfl) h
        · replace h := itF h c21
          refine lv_aload_n hx hb dX2_takeOut_110 rfl (lv_at hl 0 rfl) ?_
          refine p_g0_0 F hw dX2_takeOut_111 ?_
          refine lv_aload_n hx hb dX2_takeOut_114 rfl (lv_at hl 0 rfl) ?_
          refine p_g0_1 F hw dX2_takeOut_115 ?_
          refine p_g5_1 F hw dX2_takeOut_118 ?_
          refine lv_iload hx hb dX2_takeOut_121 (lv_at hl 7 rfl) ?_
          obtain ⟨g22, h⟩ := gd h
          refine p_l7 F hw g22 dX2_takeOut_123 ?_
          obtain ⟨z23, e24, h⟩ := bnd h
          refine k_X1_placeOf_p_ F hw e24 ⟨Nat.le_of_ble_eq_true rfl, Nat.le_of_ble_eq_true rfl⟩ ⟨Nat.zero_le _, Nat.zero_le _⟩ hl.1 (Nat.le_of_ble_eq_true rfl) dX2_takeOut_124 ?_
          refine lv_istore (lv' := [(8, .int z23), (0, .ref (ad 0)), (1, .int x1), (2, .int x2), (3, .int x3), (4, .ref (ad 14)), (5, .int x5), (6, .int x6), (7, .int x7)]) hx hb dX2_takeOut_127 hl (by decide) rfl (fun ls hl => ?_)
          refine lv_aload_n hx hb dX2_takeOut_129 rfl (lv_at hl 1 rfl) ?_
          refine p_g0_1 F hw dX2_takeOut_130 ?_
          refine p_g5_1 F hw dX2_takeOut_133 ?_
          refine lv_iload hx hb dX2_takeOut_136 (lv_at hl 8 rfl) ?_
          refine lv_iload hx hb dX2_takeOut_138 (lv_at hl 0 rfl) ?_
          refine lv_iload_n hx hb dX2_takeOut_140 rfl (lv_at hl 3 rfl) ?_
          refine lv_icmp_lt (tgt := 155) hx hb dX2_takeOut_141 rfl (fun c25 => ?_) (fun c25 => ?_)
          · replace h := itT h c25
            refine lv_aload_n hx hb dX2_takeOut_155 rfl (lv_at hl 1 rfl) ?_
            refine p_g0_1 F hw dX2_takeOut_156 ?_
            refine p_g5_1 F hw dX2_takeOut_159 ?_
            refine lv_iload hx hb dX2_takeOut_162 (lv_at hl 8 rfl) ?_
            obtain ⟨g26, h⟩ := gd h
            refine p_l7 F hw g26 dX2_takeOut_164 ?_
            obtain ⟨g27, h⟩ := gd h
            refine p_s7 F hw g27 dX2_takeOut_165 (fun H locs hw => ?_)
            refine lv_iinc (v := (x7 + 1)) (lv' := [(7, .int (x7 + 1)), (8, .int z23), (0, .ref (ad 0)), (1, .int x1), (2, .int x2), (3, .int x3), (4, .ref (ad 14)), (5, .int x5), (6, .int x6)]) hx hb dX2_takeOut_166 hl (k := 8) rfl rfl (by decide) rfl (fun ls hl => ?_)
            refine lv_goto (tgt := 75) hx hb dX2_takeOut_169 rfl ?_
            exact ih _ _ _ _ _ _ _ _ _ _ hw (lv_sub hl [2, 3, 4, 5, 6, 7, 8, 0] rfl) h
          · replace h := itF h c25
            refine lv_iload hx hb dX2_takeOut_144 (lv_at hl 0 rfl) ?_
            refine lv_iload_n hx hb dX2_takeOut_146 rfl (lv_at hl 4 rfl) ?_
            refine lv_icmp_ge (tgt := 155) hx hb dX2_takeOut_147 rfl (fun c28 => ?_) (fun c28 => ?_)
            · replace h := itT h c28
              refine lv_aload_n hx hb dX2_takeOut_155 rfl (lv_at hl 1 rfl) ?_
              refine p_g0_1 F hw dX2_takeOut_156 ?_
              refine p_g5_1 F hw dX2_takeOut_159 ?_
              refine lv_iload hx hb dX2_takeOut_162 (lv_at hl 8 rfl) ?_
              obtain ⟨g29, h⟩ := gd h
              refine p_l7 F hw g29 dX2_takeOut_164 ?_
              obtain ⟨g30, h⟩ := gd h
              refine p_s7 F hw g30 dX2_takeOut_165 (fun H locs hw => ?_)
              refine lv_iinc (v := (x7 + 1)) (lv' := [(7, .int (x7 + 1)), (8, .int z23), (0, .ref (ad 0)), (1, .int x1), (2, .int x2), (3, .int x3), (4, .ref (ad 14)), (5, .int x5), (6, .int x6)]) hx hb dX2_takeOut_166 hl (k := 8) rfl rfl (by decide) rfl (fun ls hl => ?_)
              refine lv_goto (tgt := 75) hx hb dX2_takeOut_169 rfl ?_
              exact ih _ _ _ _ _ _ _ _ _ _ hw (lv_sub hl [2, 3, 4, 5, 6, 7, 8, 0] rfl) h
            · replace h := itF h c28
              refine lv_iload hx hb dX2_takeOut_150 (lv_at hl 7 rfl) ?_
              refine lv_goto (tgt := 165) hx hb dX2_takeOut_152 rfl ?_
              obtain ⟨g31, h⟩ := gd h
              refine p_s7 F hw g31 dX2_takeOut_165 (fun H locs hw => ?_)
              refine lv_iinc (v := (x7 + 1)) (lv' := [(7, .int (x7 + 1)), (8, .int z23), (0, .ref (ad 0)), (1, .int x1), (2, .int x2), (3, .int x3), (4, .ref (ad 14)), (5, .int x5), (6, .int x6)]) hx hb dX2_takeOut_166 hl (k := 8) rfl rfl (by decide) rfl (fun ls hl => ?_)
              refine lv_goto (tgt := 75) hx hb dX2_takeOut_169 rfl ?_
              exact ih _ _ _ _ _ _ _ _ _ _ hw (lv_sub hl [2, 3, 4, 5, 6, 7, 8, 0] rfl) h
set_option maxHeartbeats 4000000 in
set_option maxRecDepth 100000 in
theorem w_X2_takeOut_0 (F : FX p m c cX2_takeOut 9 s args yX2_takeOut (some .int) RX2 meth) {z : Int32 × SP} : ∀ (x1 : Int32) (x2 : Int32) (x3 : Int32) (u : SP) (H : Heap) (locs : List Loc) (ls : Array Slot), WD G A s (sp G ad u) H locs → lv_has ls 9 [(0, .ref (ad 0)), (1, .int x1), (2, .int x2), (3, .int x3), (4, .ref (ad 14))] → f_X2_takeOut x1 x2 x3 u = some z → W p l e rmX2_takeOut s m args below meth c H locs 0 0 (MQ below (QW G (sp G ad z.2) A (some (.int z.1))) args s 0 0 A) (F0 m 0 ls []) := by
  obtain ⟨⟨hx, hb, hml, hown, hts⟩, hr, hlocks⟩ := id F
  intro x1 x2 x3 u H locs ls hw hl h
  unfold f_X2_takeOut at h
  refine lv_iload_n hx hb dX2_takeOut_0 rfl (lv_at hl 3 rfl) ?_
  refine lv_iload_n hx hb dX2_takeOut_1 rfl (lv_at hl 2 rfl) ?_
  refine lv_isub hx hb dX2_takeOut_2 ?_
  refine lv_istore (lv' := [(5, .int (x3 - x2)), (0, .ref (ad 0)), (1, .int x1), (2, .int x2), (3, .int x3), (4, .ref (ad 14))]) hx hb dX2_takeOut_3 hl (by decide) rfl (fun ls hl => ?_)
  refine lv_iload_n hx hb dX2_takeOut_5 rfl (lv_at hl 3 rfl) ?_
  refine lv_aload_n hx hb dX2_takeOut_6 rfl (lv_at hl 1 rfl) ?_
  refine p_g0_0 F hw dX2_takeOut_7 ?_
  refine lv_iload_n hx hb dX2_takeOut_10 rfl (lv_at hl 2 rfl) ?_
  obtain ⟨z1, e2, h⟩ := bnd h
  refine k_X1_first_p_ F hw e2 ⟨Nat.le_of_ble_eq_true rfl, Nat.le_of_ble_eq_true rfl⟩ ⟨Nat.zero_le _, Nat.zero_le _⟩ hl.1 (Nat.le_of_ble_eq_true rfl) dX2_takeOut_11 ?_
  refine lv_icmp_lt (tgt := 42) hx hb dX2_takeOut_14 rfl (fun c3 => ?_) (fun c3 => ?_)
  · replace h := itT h c3
    refine lv_iconst (v := 0) hx hb dX2_takeOut_42 rfl ?_
    cases h
    exact retW_i F hw dX2_takeOut_43
  · replace h := itF h c3
    refine lv_iload hx hb dX2_takeOut_17 (lv_at hl 0 rfl) ?_
    refine lv_if_lt (tgt := 42) hx hb dX2_takeOut_19 rfl (fun c4 => ?_) (fun c4 => ?_)
    · replace h := itT h c4
      refine lv_iconst (v := 0) hx hb dX2_takeOut_42 rfl ?_
      cases h
      exact retW_i F hw dX2_takeOut_43
    · replace h := itF h c4
      refine lv_iload_n hx hb dX2_takeOut_22 rfl (lv_at hl 4 rfl) ?_
      refine lv_aload_n hx hb dX2_takeOut_23 rfl (lv_at hl 1 rfl) ?_
      refine p_g0_0 F hw dX2_takeOut_24 ?_
      refine lv_iload_n hx hb dX2_takeOut_27 rfl (lv_at hl 2 rfl) ?_
      obtain ⟨z5, e6, h⟩ := bnd h
      refine k_X1_end_p_ F hw e6 ⟨Nat.le_of_ble_eq_true rfl, Nat.le_of_ble_eq_true rfl⟩ ⟨Nat.zero_le _, Nat.zero_le _⟩ hl.1 (Nat.le_of_ble_eq_true rfl) dX2_takeOut_28 ?_
      refine lv_icmp_gt (tgt := 42) hx hb dX2_takeOut_31 rfl (fun c7 => ?_) (fun c7 => ?_)
      · replace h := itT h c7
        refine lv_iconst (v := 0) hx hb dX2_takeOut_42 rfl ?_
        cases h
        exact retW_i F hw dX2_takeOut_43
      · replace h := itF h c7
        refine lv_iload hx hb dX2_takeOut_34 (lv_at hl 0 rfl) ?_
        refine lv_aload hx hb dX2_takeOut_36 (lv_at hl 5 rfl) ?_
        refine p_n14 F hw dX2_takeOut_38 ?_
        refine lv_icmp_le (tgt := 44) hx hb dX2_takeOut_39 rfl (fun c8 => ?_) (fun c8 => ?_)
        · replace h := itT h c8
          refine lv_iload_n hx hb dX2_takeOut_44 rfl (lv_at hl 3 rfl) ?_
          refine lv_aload_n hx hb dX2_takeOut_45 rfl (lv_at hl 1 rfl) ?_
          refine p_g0_0 F hw dX2_takeOut_46 ?_
          refine lv_iload_n hx hb dX2_takeOut_49 rfl (lv_at hl 2 rfl) ?_
          obtain ⟨z9, e10, h⟩ := bnd h
          refine k_X1_first_p_ F hw e10 ⟨Nat.le_of_ble_eq_true rfl, Nat.le_of_ble_eq_true rfl⟩ ⟨Nat.zero_le _, Nat.zero_le _⟩ hl.1 (Nat.le_of_ble_eq_true rfl) dX2_takeOut_50 ?_
          refine lv_icmp_le (tgt := 69) hx hb dX2_takeOut_53 rfl (fun c11 => ?_) (fun c11 => ?_)
          · replace h := itT h c11
            refine lv_iconst (v := (-1)) hx hb dX2_takeOut_69 rfl ?_
            refine lv_istore (lv' := [(6, .int (-1)), (5, .int (x3 - x2)), (0, .ref (ad 0)), (1, .int x1), (2, .int x2), (3, .int x3), (4, .ref (ad 14))]) hx hb dX2_takeOut_70 hl (by decide) rfl (fun ls hl => ?_)
            refine lv_iconst (v := 0) hx hb dX2_takeOut_72 rfl ?_
            refine lv_istore (lv' := [(7, .int 0), (6, .int (-1)), (5, .int (x3 - x2)), (0, .ref (ad 0)), (1, .int x1), (2, .int x2), (3, .int x3), (4, .ref (ad 14))]) hx hb dX2_takeOut_73 hl (by decide) rfl (fun ls hl => ?_)
            exact w_X2_takeOut_75 F NF _ _ _ _ _ _ _ _ _ _ hw (lv_sub hl [3, 4, 5, 6, 7, 2, 1, 0] rfl) h
          · replace h := itF h c11
            refine lv_aload_n hx hb dX2_takeOut_56 rfl (lv_at hl 1 rfl) ?_
            refine p_g0_0 F hw dX2_takeOut_57 ?_
            refine lv_iload_n hx hb dX2_takeOut_60 rfl (lv_at hl 3 rfl) ?_
            refine lv_iconst (v := 1) hx hb dX2_takeOut_61 rfl ?_
            refine lv_isub hx hb dX2_takeOut_62 ?_
            obtain ⟨z12, e13, h⟩ := bnd h
            refine k_X1_standAt_p_ F hw e13 ⟨Nat.le_of_ble_eq_true rfl, Nat.le_of_ble_eq_true rfl⟩ ⟨Nat.zero_le _, Nat.zero_le _⟩ hl.1 (Nat.le_of_ble_eq_true rfl) dX2_takeOut_63 ?_
            refine lv_goto (tgt := 70) hx hb dX2_takeOut_66 rfl ?_
            refine lv_istore (lv' := [(6, .int z12), (5, .int (x3 - x2)), (0, .ref (ad 0)), (1, .int x1), (2, .int x2), (3, .int x3), (4, .ref (ad 14))]) hx hb dX2_takeOut_70 hl (by decide) rfl (fun ls hl => ?_)
            refine lv_iconst (v := 0) hx hb dX2_takeOut_72 rfl ?_
            refine lv_istore (lv' := [(7, .int 0), (6, .int z12), (5, .int (x3 - x2)), (0, .ref (ad 0)), (1, .int x1), (2, .int x2), (3, .int x3), (4, .ref (ad 14))]) hx hb dX2_takeOut_73 hl (by decide) rfl (fun ls hl => ?_)
            exact w_X2_takeOut_75 F NF _ _ _ _ _ _ _ _ _ _ hw (lv_sub hl [3, 4, 5, 6, 7, 2, 1, 0] rfl) h
        · replace h := itF h c8
          refine lv_iconst (v := 0) hx hb dX2_takeOut_42 rfl ?_
          cases h
          exact retW_i F hw dX2_takeOut_43
end
theorem c_X2_takeOut {l : Launch} {G : GX} {ad : Nat → Nat} {x1 : Int32} {x2 : Int32} {x3 : Int32} {u : SP} {z : Int32 × SP} (h : f_X2_takeOut x1 x2 x3 u = some z) : MW l yX2_takeOut cX2_takeOut 9 (some .int) rmX2_takeOut G (sp G ad u) (sp G ad z.2) [.ref (ad 0), .int x1, .int x2, .int x3, .ref (ad 14)] (some (.int z.1)) := MW.of (by decide) (Nat.le_of_ble_eq_true rfl) (fun p e s m below meth c ls F hw hl => w_X2_takeOut_0 F _ _ _ _ _ _ _ hw hl h)
/-! ===== X2_dealLabels ===== -/
theorem dX2_dealLabels_0 : decode cX2_dealLabels 0 = .ok (.iconst (-1), 1) := by decide +kernel
theorem dX2_dealLabels_1 : decode cX2_dealLabels 1 = .ok (.istore 8, 2) := by decide +kernel
theorem dX2_dealLabels_3 : decode cX2_dealLabels 3 = .ok (.ldc2_w 192, 3) := by decide +kernel
theorem dX2_dealLabels_6 : decode cX2_dealLabels 6 = .ok (.lstore 9, 2) := by decide +kernel
theorem dX2_dealLabels_8 : decode cX2_dealLabels 8 = .ok (.iload_n 2, 1) := by decide +kernel
theorem dX2_dealLabels_9 : decode cX2_dealLabels 9 = .ok (.istore 11, 2) := by decide +kernel
theorem dX2_dealLabels_11 : decode cX2_dealLabels 11 = .ok (.iload 11, 2) := by decide +kernel
theorem dX2_dealLabels_13 : decode cX2_dealLabels 13 = .ok (.iload_n 3, 1) := by decide +kernel
theorem dX2_dealLabels_14 : decode cX2_dealLabels 14 = .ok (.if_icmp .ge 72, 3) := by decide +kernel
theorem dX2_dealLabels_17 : decode cX2_dealLabels 17 = .ok (.aload_n 0, 1) := by decide +kernel
theorem dX2_dealLabels_18 : decode cX2_dealLabels 18 = .ok (.iload 11, 2) := by decide +kernel
theorem dX2_dealLabels_20 : decode cX2_dealLabels 20 = .ok (.invokevirtual 87, 3) := by decide +kernel
theorem dX2_dealLabels_23 : decode cX2_dealLabels 23 = .ok (.lload 9, 2) := by decide +kernel
theorem dX2_dealLabels_25 : decode cX2_dealLabels 25 = .ok (.lcmp, 1) := by decide +kernel
theorem dX2_dealLabels_26 : decode cX2_dealLabels 26 = .ok (.ifCond .eq 37, 3) := by decide +kernel
theorem dX2_dealLabels_29 : decode cX2_dealLabels 29 = .ok (.aload_n 0, 1) := by decide +kernel
theorem dX2_dealLabels_30 : decode cX2_dealLabels 30 = .ok (.iload 11, 2) := by decide +kernel
theorem dX2_dealLabels_32 : decode cX2_dealLabels 32 = .ok (.invokevirtual 87, 3) := by decide +kernel
theorem dX2_dealLabels_35 : decode cX2_dealLabels 35 = .ok (.lstore 9, 2) := by decide +kernel
theorem dX2_dealLabels_37 : decode cX2_dealLabels 37 = .ok (.iinc 8 1, 3) := by decide +kernel
theorem dX2_dealLabels_40 : decode cX2_dealLabels 40 = .ok (.aload_n 0, 1) := by decide +kernel
theorem dX2_dealLabels_41 : decode cX2_dealLabels 41 = .ok (.dup, 1) := by decide +kernel
theorem dX2_dealLabels_42 : decode cX2_dealLabels 42 = .ok (.getfield 42, 3) := by decide +kernel
theorem dX2_dealLabels_45 : decode cX2_dealLabels 45 = .ok (.lload 9, 2) := by decide +kernel
theorem dX2_dealLabels_47 : decode cX2_dealLabels 47 = .ok (.ldc2_w 79, 3) := by decide +kernel
theorem dX2_dealLabels_50 : decode cX2_dealLabels 50 = .ok (.lcmp, 1) := by decide +kernel
theorem dX2_dealLabels_51 : decode cX2_dealLabels 51 = .ok (.ifCond .eq 7, 3) := by decide +kernel
theorem dX2_dealLabels_54 : decode cX2_dealLabels 54 = .ok (.iconst 1, 1) := by decide +kernel
theorem dX2_dealLabels_55 : decode cX2_dealLabels 55 = .ok (.goto 4, 3) := by decide +kernel
theorem dX2_dealLabels_58 : decode cX2_dealLabels 58 = .ok (.iconst 0, 1) := by decide +kernel
theorem dX2_dealLabels_59 : decode cX2_dealLabels 59 = .ok (.iadd, 1) := by decide +kernel
theorem dX2_dealLabels_60 : decode cX2_dealLabels 60 = .ok (.putfield 42, 3) := by decide +kernel
theorem dX2_dealLabels_63 : decode cX2_dealLabels 63 = .ok (.aload_n 0, 1) := by decide +kernel
theorem dX2_dealLabels_64 : decode cX2_dealLabels 64 = .ok (.iload 11, 2) := by decide +kernel
theorem dX2_dealLabels_66 : decode cX2_dealLabels 66 = .ok (.lload 4, 2) := by decide +kernel
theorem dX2_dealLabels_68 : decode cX2_dealLabels 68 = .ok (.iload 6, 2) := by decide +kernel
theorem dX2_dealLabels_70 : decode cX2_dealLabels 70 = .ok (.iload 7, 2) := by decide +kernel
theorem dX2_dealLabels_72 : decode cX2_dealLabels 72 = .ok (.iload 8, 2) := by decide +kernel
theorem dX2_dealLabels_74 : decode cX2_dealLabels 74 = .ok (.invokestatic 174, 3) := by decide +kernel
theorem dX2_dealLabels_77 : decode cX2_dealLabels 77 = .ok (.invokevirtual 170, 3) := by decide +kernel
theorem dX2_dealLabels_80 : decode cX2_dealLabels 80 = .ok (.iinc 11 1, 3) := by decide +kernel
theorem dX2_dealLabels_83 : decode cX2_dealLabels 83 = .ok (.goto (-72), 3) := by decide +kernel
theorem dX2_dealLabels_86 : decode cX2_dealLabels 86 = .ok (.aload_n 0, 1) := by decide +kernel
theorem dX2_dealLabels_87 : decode cX2_dealLabels 87 = .ok (.getfield 32, 3) := by decide +kernel
theorem dX2_dealLabels_90 : decode cX2_dealLabels 90 = .ok (.iload_n 1, 1) := by decide +kernel
theorem dX2_dealLabels_91 : decode cX2_dealLabels 91 = .ok (.aload_n 0, 1) := by decide +kernel
theorem dX2_dealLabels_92 : decode cX2_dealLabels 92 = .ok (.getfield 32, 3) := by decide +kernel
theorem dX2_dealLabels_95 : decode cX2_dealLabels 95 = .ok (.iload_n 1, 1) := by decide +kernel
theorem dX2_dealLabels_96 : decode cX2_dealLabels 96 = .ok (.iaload, 1) := by decide +kernel
theorem dX2_dealLabels_97 : decode cX2_dealLabels 97 = .ok (.iload 7, 2) := by decide +kernel
theorem dX2_dealLabels_99 : decode cX2_dealLabels 99 = .ok (.invokestatic 178, 3) := by decide +kernel
theorem dX2_dealLabels_102 : decode cX2_dealLabels 102 = .ok (.iastore, 1) := by decide +kernel
theorem dX2_dealLabels_103 : decode cX2_dealLabels 103 = .ok (.return_, 1) := by decide +kernel
theorem s_g0_4 {p : Program} {l : Launch} {e : Env} {R : Room} {s : State} {m : MethodId} {args : Array Value} {below : List Frame} {meth : Method} {c : Code} {H : Heap} {locs : List Loc} {cells slots : Nat} {Q : State → Prop} {G : GX} {A : Nat → Prop} {ad : Nat → Nat} {u : SS} {cc : ByteArray} {nL pc : Nat} {y : MethodName} {ret : Option FieldType} {ls : Array Slot} {rest : List Value} (F : FX p m c cc nL s args y ret RX2 meth) (hw : WD G A s (sw G ad u) H locs) (hdg : decode cc pc = .ok (.getfield 32, 3)) (kk : W p l e R s m args below meth c H locs cells slots Q (F0 m (pc + 3) ls (.ref (ad 11) :: rest))) : W p l e R s m args below meth c H locs cells slots Q (F0 m pc ls (.ref (ad 0) :: rest)) := va_get (D := G.1) (ci := 2) (C := RX2) (T := TX2) (N := 8) (Ts := lw_gt) F.1.1 F.1.2.1 (fun _ h => F.tb h) inX2 F.1.2.2.2.1 hw.1.1 hw.2.1 0 rfl rfl 4 (by decide) (F.tb (tw 75 (by decide +kernel) rfl)) (fun _ h9 => h9) rfl hdg kk
theorem s_l11 {i : Int32} {p : Program} {l : Launch} {e : Env} {R : Room} {s : State} {m : MethodId} {args : Array Value} {below : List Frame} {meth : Method} {c : Code} {H : Heap} {locs : List Loc} {cells slots : Nat} {Q : State → Prop} {G : GX} {A : Nat → Prop} {ad : Nat → Nat} {u : SS} {cc : ByteArray} {nL pc : Nat} {y : MethodName} {ret : Option FieldType} {ls : Array Slot} {rest : List Value} (F : FX p m c cc nL s args y ret RX2 meth) (hw : WD G A s (sw G ad u) H locs) (hi : ix i 8 = true) (hdg : decode cc pc = .ok (.iaload, 1)) (kk : W p l e R s m args below meth c H locs cells slots Q (F0 m (pc + 1) ls (.int ((u.2.2.1 4) i.toNatClampNeg) :: rest))) : W p l e R s m args below meth c H locs cells slots Q (F0 m pc ls (.int i :: .ref (ad 11) :: rest)) := va_iald F.1.1 F.1.2.1 hw.1.1 hw.2.1 11 0 rfl rfl (ix_in hi) hdg kk
theorem s_s11 {i : Int32} {x : Int32} {p : Program} {l : Launch} {e : Env} {R : Room} {s : State} {m : MethodId} {args : Array Value} {below : List Frame} {meth : Method} {c : Code} {H : Heap} {locs : List Loc} {cells slots : Nat} {Q : State → Prop} {G : GX} {A : Nat → Prop} {ad : Nat → Nat} {u : SS} {cc : ByteArray} {nL pc : Nat} {y : MethodName} {ret : Option FieldType} {ls : Array Slot} {rest : List Value} (F : FX p m c cc nL s args y ret RX2 meth) (hw : WD G A s (sw G ad u) H locs) (hi : ix i 8 = true) (hdg : decode cc pc = .ok (.iastore, 1)) (kk : ∀ (H : Heap) (locs : List Loc), WD G A s (sw G ad (sA u 4 i.toNatClampNeg x)) H locs → W p l e R s m args below meth c H locs cells slots Q (F0 m (pc + 1) ls (rest))) : W p l e R s m args below meth c H locs cells slots Q (F0 m pc ls (.int x :: .int i :: .ref (ad 11) :: rest)) := va_iast F.1.1 F.1.2.1 hw.1.1 hw.2.1 hw.2.2.1 hw.2.2.2 11 0 rfl rfl (ix_in hi) hdg (fun H1 l1 hP hD hS => kk H1 l1 ⟨hw.1, hP, hD, hS⟩)
theorem yv_X3_dealt_X2 : YN RX2 174 yX3_dealt RX3 cX3_dealt 5 (some .long) 4 := ⟨(tw 271 (by decide +kernel) rfl), (tw 1 (by decide +kernel) rfl), fun _ h => h.2.1, (tw 270 (by decide +kernel) rfl), by decide +kernel⟩
theorem k_X3_dealt_s_ {p : Program} {l : Launch} {e : Env} {R : Room} {s : State} {m : MethodId} {args : Array Value} {below : List Frame} {meth : Method} {c : Code} {H : Heap} {locs : List Loc} {cells slots : Nat} {Q : State → Prop} {G : GX} {A : Nat → Prop} {ad : Nat → Nat} {u : SS} {cc : ByteArray} {nL pc : Nat} {y : MethodName} {ret : Option FieldType} {ls : Array Slot} {rest : List Value} {x0 : Int64} {x2 : Int32} {x3 : Int32} {x4 : Int32} {z : Int64} (F : FX p m c cc nL s args y ret RX2 meth) (hw : WD G A s (sw G ad u) H locs) (h : f_X3_dealt x0 x2 x3 x4 = some z) (hR : rmX3_dealt.frames + 1 ≤ R.frames ∧ 8 + (5 + 11) + rmX3_dealt.locals ≤ R.locals) (hcs : cells ≤ R.cells ∧ slots ≤ R.slots) (hsz : ls.size = nL) (hW : (rest.map fun v => v.category).sum ≤ 8) (hdg : decode cc pc = .ok (.invokestatic 174, 3)) (kk : W p l e R s m args below meth c H locs cells slots Q (F0 m (pc + 3) ls (.long z :: rest))) : W p l e R s m args below meth c H locs cells slots Q (F0 m pc ls (.int x4 :: .int x3 :: .int x2 :: .long x0 :: rest)) := callO (runN F yv_X3_dealt_X2 (c_X3_dealt h (G := G)) hw.1 nil_P (A := A) nil_D ⟨rfl, rfl⟩ hR hcs rfl hsz rfl hW hdg) kk
theorem yv_X2_setLabel_X2 : YV RX2 170 yX2_setLabel cX2_setLabel 4 none 2 := ⟨(tw 259 (by decide +kernel) rfl), (tw 2 (by decide +kernel) rfl), (tw 256 (by decide +kernel) rfl), (tw 257 (by decide +kernel) rfl), (tw 258 (by decide +kernel) rfl), by decide +kernel⟩
theorem k_X2_setLabel_s_ {p : Program} {l : Launch} {e : Env} {R : Room} {s : State} {m : MethodId} {args : Array Value} {below : List Frame} {meth : Method} {c : Code} {H : Heap} {locs : List Loc} {cells slots : Nat} {Q : State → Prop} {G : GX} {A : Nat → Prop} {ad : Nat → Nat} {u : SS} {cc : ByteArray} {nL pc : Nat} {y : MethodName} {ret : Option FieldType} {ls : Array Slot} {rest : List Value} {x1 : Int32} {x2 : Int64} {z : SS} (F : FX p m c cc nL s args y ret RX2 meth) (hw : WD G A s (sw G ad u) H locs) (h : f_X2_setLabel x1 x2 u = some z) (hR : rmX2_setLabel.frames + 1 ≤ R.frames ∧ 8 + (4 + 11) + rmX2_setLabel.locals ≤ R.locals) (hcs : cells ≤ R.cells ∧ slots ≤ R.slots) (hsz : ls.size = nL) (hW : (rest.map fun v => v.category).sum ≤ 8) (hdg : decode cc pc = .ok (.invokevirtual 170, 3)) (kk : ∀ (H : Heap) (locs : List Loc), WD G A s (sw G ad z) H locs → W p l e R s m args below meth c H locs cells slots Q (F0 m (pc + 3) ls (rest))) : W p l e R s m args below meth c H locs cells slots Q (F0 m pc ls (.long x2 :: .int x1 :: .ref (ad 0) :: rest)) := callW (runV F yv_X2_setLabel_X2 (c_X2_setLabel h) hw.1 hw.2.1 hw.2.2.1 rfl rfl rfl ⟨rfl, rfl⟩ hR hcs rfl hsz rfl hW hdg) hw.2.2.2 hw.2.2.1.own_in (fun H1 l1 hP _ hS => kk H1 l1 ⟨hw.1, hP, hw.2.2.1.addr rfl, hS⟩)
theorem s_g0_7 {p : Program} {l : Launch} {e : Env} {R : Room} {s : State} {m : MethodId} {args : Array Value} {below : List Frame} {meth : Method} {c : Code} {H : Heap} {locs : List Loc} {cells slots : Nat} {Q : State → Prop} {G : GX} {A : Nat → Prop} {ad : Nat → Nat} {u : SS} {cc : ByteArray} {nL pc : Nat} {y : MethodName} {ret : Option FieldType} {ls : Array Slot} {rest : List Value} (F : FX p m c cc nL s args y ret RX2 meth) (hw : WD G A s (sw G ad u) H locs) (hdg : decode cc pc = .ok (.getfield 42, 3)) (kk : W p l e R s m args below meth c H locs cells slots Q (F0 m (pc + 3) ls (.int u.2.2.2.2 :: rest))) : W p l e R s m args below meth c H locs cells slots Q (F0 m pc ls (.ref (ad 0) :: rest)) := va_get (D := G.1) (ci := 2) (C := RX2) (T := TX2) (N := 8) (Ts := lw_gt) F.1.1 F.1.2.1 (fun _ h => F.tb h) inX2 F.1.2.2.2.1 hw.1.1 hw.2.1 0 rfl rfl 7 (by decide) (F.tb (tw 81 (by decide +kernel) rfl)) (fun _ h9 => h9) rfl hdg kk
theorem s_p0_7 {x : Int32} {p : Program} {l : Launch} {e : Env} {R : Room} {s : State} {m : MethodId} {args : Array Value} {below : List Frame} {meth : Method} {c : Code} {H : Heap} {locs : List Loc} {cells slots : Nat} {Q : State → Prop} {G : GX} {A : Nat → Prop} {ad : Nat → Nat} {u : SS} {cc : ByteArray} {nL pc : Nat} {y : MethodName} {ret : Option FieldType} {ls : Array Slot} {rest : List Value} (F : FX p m c cc nL s args y ret RX2 meth) (hw : WD G A s (sw G ad u) H locs) (hdg : decode cc pc = .ok (.putfield 42, 3)) (kk : ∀ (H : Heap) (locs : List Loc), WD G A s (sw G ad (sR u x)) H locs → W p l e R s m args below meth c H locs cells slots Q (F0 m (pc + 3) ls (rest))) : W p l e R s m args below meth c H locs cells slots Q (F0 m pc ls (.int x :: .ref (ad 0) :: rest)) := va_put (D := G.1) (ci := 2) (ty := .int) (C := RX2) (T := TX2) (N := 8) (Ts := lw_gt) F.1.1 F.1.2.1 (fun _ h => F.tb h) inX2 tyX2 tyX2_ok nmX2 F.1.2.2.2.1 hw.1.1 hw.2.1 hw.2.2.1 hw.2.2.2 0 rfl rfl 7 (by decide) (F.tb (tw 81 (by decide +kernel) rfl)) (fun _ h9 => h9) rfl (by decide +kernel) rfl rfl (Nat.le_of_ble_eq_true rfl) hdg (fun H1 l1 hP hD hS => kk H1 l1 ⟨hw.1, hP, hD, hS⟩)
def rmX2_dealLabels : Room := { frames := 1, cells := 0, slots := 0, locals := 24 }
noncomputable def f_X2_dealLabels_11 : Nat → Int32 → Int32 → Int64 → Int32 → Int32 → Int32 → Int64 → Int32 → SS → Option (SS)
  | 0, _, _, _, _, _, _, _, _, _ => none
  | n + 1, x1, x3, x4, x6, x7, x8, x9, x11, u => (if x3 ≤ x11 then (if ix x1 8 = true then (if ix x1 8 = true then some (sA u 4 (Int32.toNatClampNeg x1) (if ((u.2.2.1 4) (Int32.toNatClampNeg x1)) < x7 then x7 else ((u.2.2.1 4) (Int32.toNatClampNeg x1)))) else none) else none) else (f_X2_labelAt x11 u).bind (fun z4 => (if (lg_cmp z4 x9) = 0 then (f_X3_dealt x4 x6 x7 x8).bind (fun z7 => (f_X2_setLabel x11 z7 u).bind (fun z9 => f_X2_dealLabels_11 n x1 x3 x4 x6 x7 x8 x9 (x11 + 1) z9)) else (f_X2_labelAt x11 u).bind (fun z11 => (if (lg_cmp z11 (-1)) = 0 then (f_X3_dealt x4 x6 x7 (x8 + 1)).bind (fun z14 => (f_X2_setLabel x11 z14 (sR u (u.2.2.2.2 + 0))).bind (fun z16 => f_X2_dealLabels_11 n x1 x3 x4 x6 x7 (x8 + 1) z11 (x11 + 1) z16)) else (f_X3_dealt x4 x6 x7 (x8 + 1)).bind (fun z18 => (f_X2_setLabel x11 z18 (sR u (u.2.2.2.2 + 1))).bind (fun z20 => f_X2_dealLabels_11 n x1 x3 x4 x6 x7 (x8 + 1) z11 (x11 + 1) z20)))))))
noncomputable def f_X2_dealLabels (x1 : Int32) (x2 : Int32) (x3 : Int32) (x4 : Int64) (x6 : Int32) (x7 : Int32) (u : SS) : Option (SS) := f_X2_dealLabels_11 NF x1 x3 x4 x6 x7 (-1) (-2) x2 u
section
variable {p : Program} {l : Launch} {e : Env} {s : State} {m : MethodId} {args : Array Value} {below : List Frame} {meth : Method} {c : Code}
variable {G : GX} {A : Nat → Prop} {ad : Nat → Nat} 
set_option maxHeartbeats 4000000 in
set_option maxRecDepth 100000 in
theorem w_X2_dealLabels_11 (F : FX p m c cX2_dealLabels 12 s args yX2_dealLabels none RX2 meth) {z : SS} : ∀ (n : Nat) (x1 : Int32) (x3 : Int32) (x4 : Int64) (x6 : Int32) (x7 : Int32) (x8 : Int32) (x9 : Int64) (x11 : Int32) (u : SS) (H : Heap) (locs : List Loc) (ls : Array Slot), WD G A s (sw G ad u) H locs → lv_has ls 12 [(0, .ref (ad 0)), (1, .int x1), (3, .int x3), (4, .long x4), (6, .int x6), (7, .int x7), (8, .int x8), (9, .long x9), (11, .int x11)] → f_X2_dealLabels_11 n x1 x3 x4 x6 x7 x8 x9 x11 u = some z → W p l e rmX2_dealLabels s m args below meth c H locs 0 0 (MQ below (QW G (sw G ad z) A none) args s 0 0 A) (F0 m 11 ls []) := by
  obtain ⟨⟨hx, hb, hml, hown, hts⟩, hr, hlocks⟩ := id F
  intro n
  induction n with
  | zero =>
    intro x1 x3 x4 x6 x7 x8 x9 x11 u H locs ls hw hl h
    rw [f_X2_dealLabels_11] at h
    cases h
  | succ n ih =>
    intro x1 x3 x4 x6 x7 x8 x9 x11 u H locs ls hw hl h
    rw [f_X2_dealLabels_11] at h
    refine lv_iload hx hb dX2_dealLabels_11 (lv_at hl 8 rfl) ?_
    refine lv_iload_n hx hb dX2_dealLabels_13 rfl (lv_at hl 2 rfl) ?_
    refine lv_icmp_ge (tgt := 86) hx hb dX2_dealLabels_14 rfl (fun c1 => ?_) (fun c1 => ?_)
    · replace h := itT h c1
      refine lv_aload_n hx hb dX2_dealLabels_86 rfl (lv_at hl 0 rfl) ?_
      refine s_g0_4 F hw dX2_dealLabels_87 ?_
      refine lv_iload_n hx hb dX2_dealLabels_90 rfl (lv_at hl 1 rfl) ?_
      refine lv_aload_n hx hb dX2_dealLabels_91 rfl (lv_at hl 0 rfl) ?_
      refine s_g0_4 F hw dX2_dealLabels_92 ?_
      refine lv_iload_n hx hb dX2_dealLabels_95 rfl (lv_at hl 1 rfl) ?_
      obtain ⟨g2, h⟩ := gd h
      refine s_l11 F hw g2 dX2_dealLabels_96 ?_
      refine lv_iload hx hb dX2_dealLabels_97 (lv_at hl 5 rfl) ?_
      refine va_mmax hx hb (hml.trans hl.1.symm) hown (F.tb (tw 273 (by decide +kernel) rfl)) (F.tb (tw 274 (by decide +kernel) rfl)) (F.tb (tw 8 (by decide +kernel) rfl)) (F.tb (tw 275 (by decide +kernel) rfl)) (Nat.le_of_ble_eq_true rfl) (Nat.le_of_ble_eq_true rfl) (Nat.zero_le _) (Nat.zero_le _) dX2_dealLabels_99 ?_
      obtain ⟨g3, h⟩ := gd h
      refine s_s11 F hw g3 dX2_dealLabels_102 (fun H locs hw => ?_)
      cases h
      exact retW_v F hw dX2_dealLabels_103
    · replace h := itF h c1
      refine lv_aload_n hx hb dX2_dealLabels_17 rfl (lv_at hl 0 rfl) ?_
      refine lv_iload hx hb dX2_dealLabels_18 (lv_at hl 8 rfl) ?_
      obtain ⟨z4, e5, h⟩ := bnd h
      refine k_X2_labelAt_s_ F hw e5 ⟨Nat.le_of_ble_eq_true rfl, Nat.le_of_ble_eq_true rfl⟩ ⟨Nat.zero_le _, Nat.zero_le _⟩ hl.1 (Nat.le_of_ble_eq_true rfl) dX2_dealLabels_20 ?_
      refine lv_lload hx hb dX2_dealLabels_23 (lv_at hl 7 rfl) ?_
      refine W.lcmp hx hb dX2_dealLabels_25 ?_
      refine lv_if_eq (tgt := 63) hx hb dX2_dealLabels_26 rfl (fun c6 => ?_) (fun c6 => ?_)
      · replace h := itT h c6
        refine lv_aload_n hx hb dX2_dealLabels_63 rfl (lv_at hl 0 rfl) ?_
        refine lv_iload hx hb dX2_dealLabels_64 (lv_at hl 8 rfl) ?_
        refine lv_lload hx hb dX2_dealLabels_66 (lv_at hl 3 rfl) ?_
        refine lv_iload hx hb dX2_dealLabels_68 (lv_at hl 4 rfl) ?_
        refine lv_iload hx hb dX2_dealLabels_70 (lv_at hl 5 rfl) ?_
        refine lv_iload hx hb dX2_dealLabels_72 (lv_at hl 6 rfl) ?_
        obtain ⟨z7, e8, h⟩ := bnd h
        refine k_X3_dealt_s_ F hw e8 ⟨Nat.le_of_ble_eq_true rfl, Nat.le_of_ble_eq_true rfl⟩ ⟨Nat.zero_le _, Nat.zero_le _⟩ hl.1 (Nat.le_of_ble_eq_true rfl) dX2_dealLabels_74 ?_
        obtain ⟨z9, e10, h⟩ := bnd h
        refine k_X2_setLabel_s_ F hw e10 ⟨Nat.le_of_ble_eq_true rfl, Nat.le_of_ble_eq_true rfl⟩ ⟨Nat.zero_le _, Nat.zero_le _⟩ hl.1 (Nat.le_of_ble_eq_true rfl) dX2_dealLabels_77 (fun H locs hw => ?_)
        refine lv_iinc (v := (x11 + 1)) (lv' := [(11, .int (x11 + 1)), (0, .ref (ad 0)), (1, .int x1), (3, .int x3), (4, .long x4), (6, .int x6), (7, .int x7), (8, .int x8), (9, .long x9)]) hx hb dX2_dealLabels_80 hl (k := 8) rfl rfl (by decide) rfl (fun ls hl => ?_)
        refine lv_goto (tgt := 11) hx hb dX2_dealLabels_83 rfl ?_
        exact ih _ _ _ _ _ _ _ _ _ _ _ _ hw (lv_sub hl [1, 2, 3, 4, 5, 6, 7, 8, 0] rfl) h
      · replace h := itF h c6
        refine lv_aload_n hx hb dX2_dealLabels_29 rfl (lv_at hl 0 rfl) ?_
        refine lv_iload hx hb dX2_dealLabels_30 (lv_at hl 8 rfl) ?_
        obtain ⟨z11, e12, h⟩ := bnd h
        refine k_X2_labelAt_s_ F hw e12 ⟨Nat.le_of_ble_eq_true rfl, Nat.le_of_ble_eq_true rfl⟩ ⟨Nat.zero_le _, Nat.zero_le _⟩ hl.1 (Nat.le_of_ble_eq_true rfl) dX2_dealLabels_32 ?_
        refine lv_lstore (lv' := [(9, .long z11), (0, .ref (ad 0)), (1, .int x1), (3, .int x3), (4, .long x4), (6, .int x6), (7, .int x7), (8, .int x8), (11, .int x11)]) hx hb dX2_dealLabels_35 hl (by decide) rfl (fun ls hl => ?_)
        refine lv_iinc (v := (x8 + 1)) (lv' := [(8, .int (x8 + 1)), (9, .long z11), (0, .ref (ad 0)), (1, .int x1), (3, .int x3), (4, .long x4), (6, .int x6), (7, .int x7), (11, .int x11)]) hx hb dX2_dealLabels_37 hl (k := 7) rfl rfl (by decide) rfl (fun ls hl => ?_)
        refine lv_aload_n hx hb dX2_dealLabels_40 rfl (lv_at hl 2 rfl) ?_
        refine lv_dup hx hb dX2_dealLabels_41 rfl ?_
        refine s_g0_7 F hw dX2_dealLabels_42 ?_
        refine lv_lload hx hb dX2_dealLabels_45 (lv_at hl 1 rfl) ?_
        refine lv_ldc2 (own := RX2) (v := (-1)) hx hb hown (F.tb (tw 236 (by decide +kernel) rfl)) dX2_dealLabels_47 ?_
        refine W.lcmp hx hb dX2_dealLabels_50 ?_
        refine lv_if_eq (tgt := 58) hx hb dX2_dealLabels_51 rfl (fun c13 => ?_) (fun c13 => ?_)
        · replace h := itT h c13
          refine lv_iconst (v := 0) hx hb dX2_dealLabels_58 rfl ?_
          refine lv_iadd hx hb dX2_dealLabels_59 ?_
          refine s_p0_7 F hw dX2_dealLabels_60 (fun H locs hw => ?_)
          refine lv_aload_n hx hb dX2_dealLabels_63 rfl (lv_at hl 2 rfl) ?_
          refine lv_iload hx hb dX2_dealLabels_64 (lv_at hl 8 rfl) ?_
          refine lv_lload hx hb dX2_dealLabels_66 (lv_at hl 5 rfl) ?_
          refine lv_iload hx hb dX2_dealLabels_68 (lv_at hl 6 rfl) ?_
          refine lv_iload hx hb dX2_dealLabels_70 (lv_at hl 7 rfl) ?_
          refine lv_iload hx hb dX2_dealLabels_72 (lv_at hl 0 rfl) ?_
          obtain ⟨z14, e15, h⟩ := bnd h
          refine k_X3_dealt_s_ F hw e15 ⟨Nat.le_of_ble_eq_true rfl, Nat.le_of_ble_eq_true rfl⟩ ⟨Nat.zero_le _, Nat.zero_le _⟩ hl.1 (Nat.le_of_ble_eq_true rfl) dX2_dealLabels_74 ?_
          obtain ⟨z16, e17, h⟩ := bnd h
          refine k_X2_setLabel_s_ F hw e17 ⟨Nat.le_of_ble_eq_true rfl, Nat.le_of_ble_eq_true rfl⟩ ⟨Nat.zero_le _, Nat.zero_le _⟩ hl.1 (Nat.le_of_ble_eq_true rfl) dX2_dealLabels_77 (fun H locs hw => ?_)
          refine lv_iinc (v := (x11 + 1)) (lv' := [(11, .int (x11 + 1)), (8, .int (x8 + 1)), (9, .long z11), (0, .ref (ad 0)), (1, .int x1), (3, .int x3), (4, .long x4), (6, .int x6), (7, .int x7)]) hx hb dX2_dealLabels_80 hl (k := 8) rfl rfl (by decide) rfl (fun ls hl => ?_)
          refine lv_goto (tgt := 11) hx hb dX2_dealLabels_83 rfl ?_
          exact ih _ _ _ _ _ _ _ _ _ _ _ _ hw (lv_sub hl [3, 4, 5, 6, 7, 8, 1, 2, 0] rfl) h
        · replace h := itF h c13
          refine lv_iconst (v := 1) hx hb dX2_dealLabels_54 rfl ?_
          refine lv_goto (tgt := 59) hx hb dX2_dealLabels_55 rfl ?_
          refine lv_iadd hx hb dX2_dealLabels_59 ?_
          refine s_p0_7 F hw dX2_dealLabels_60 (fun H locs hw => ?_)
          refine lv_aload_n hx hb dX2_dealLabels_63 rfl (lv_at hl 2 rfl) ?_
          refine lv_iload hx hb dX2_dealLabels_64 (lv_at hl 8 rfl) ?_
          refine lv_lload hx hb dX2_dealLabels_66 (lv_at hl 5 rfl) ?_
          refine lv_iload hx hb dX2_dealLabels_68 (lv_at hl 6 rfl) ?_
          refine lv_iload hx hb dX2_dealLabels_70 (lv_at hl 7 rfl) ?_
          refine lv_iload hx hb dX2_dealLabels_72 (lv_at hl 0 rfl) ?_
          obtain ⟨z18, e19, h⟩ := bnd h
          refine k_X3_dealt_s_ F hw e19 ⟨Nat.le_of_ble_eq_true rfl, Nat.le_of_ble_eq_true rfl⟩ ⟨Nat.zero_le _, Nat.zero_le _⟩ hl.1 (Nat.le_of_ble_eq_true rfl) dX2_dealLabels_74 ?_
          obtain ⟨z20, e21, h⟩ := bnd h
          refine k_X2_setLabel_s_ F hw e21 ⟨Nat.le_of_ble_eq_true rfl, Nat.le_of_ble_eq_true rfl⟩ ⟨Nat.zero_le _, Nat.zero_le _⟩ hl.1 (Nat.le_of_ble_eq_true rfl) dX2_dealLabels_77 (fun H locs hw => ?_)
          refine lv_iinc (v := (x11 + 1)) (lv' := [(11, .int (x11 + 1)), (8, .int (x8 + 1)), (9, .long z11), (0, .ref (ad 0)), (1, .int x1), (3, .int x3), (4, .long x4), (6, .int x6), (7, .int x7)]) hx hb dX2_dealLabels_80 hl (k := 8) rfl rfl (by decide) rfl (fun ls hl => ?_)
          refine lv_goto (tgt := 11) hx hb dX2_dealLabels_83 rfl ?_
          exact ih _ _ _ _ _ _ _ _ _ _ _ _ hw (lv_sub hl [3, 4, 5, 6, 7, 8, 1, 2, 0] rfl) h
set_option maxHeartbeats 4000000 in
set_option maxRecDepth 100000 in
theorem w_X2_dealLabels_0 (F : FX p m c cX2_dealLabels 12 s args yX2_dealLabels none RX2 meth) {z : SS} : ∀ (x1 : Int32) (x2 : Int32) (x3 : Int32) (x4 : Int64) (x6 : Int32) (x7 : Int32) (u : SS) (H : Heap) (locs : List Loc) (ls : Array Slot), WD G A s (sw G ad u) H locs → lv_has ls 12 [(0, .ref (ad 0)), (1, .int x1), (2, .int x2), (3, .int x3), (4, .long x4), (6, .int x6), (7, .int x7)] → f_X2_dealLabels x1 x2 x3 x4 x6 x7 u = some z → W p l e rmX2_dealLabels s m args below meth c H locs 0 0 (MQ below (QW G (sw G ad z) A none) args s 0 0 A) (F0 m 0 ls []) := by
  obtain ⟨⟨hx, hb, hml, hown, hts⟩, hr, hlocks⟩ := id F
  intro x1 x2 x3 x4 x6 x7 u H locs ls hw hl h
  unfold f_X2_dealLabels at h
  refine lv_iconst (v := (-1)) hx hb dX2_dealLabels_0 rfl ?_
  refine lv_istore (lv' := [(8, .int (-1)), (0, .ref (ad 0)), (1, .int x1), (2, .int x2), (3, .int x3), (4, .long x4), (6, .int x6), (7, .int x7)]) hx hb dX2_dealLabels_1 hl (by decide) rfl (fun ls hl => ?_)
  refine lv_ldc2 (own := RX2) (v := (-2)) hx hb hown (F.tb (tw 268 (by decide +kernel) rfl)) dX2_dealLabels_3 ?_
  refine lv_lstore (lv' := [(9, .long (-2)), (8, .int (-1)), (0, .ref (ad 0)), (1, .int x1), (2, .int x2), (3, .int x3), (4, .long x4), (6, .int x6), (7, .int x7)]) hx hb dX2_dealLabels_6 hl (by decide) rfl (fun ls hl => ?_)
  refine lv_iload_n hx hb dX2_dealLabels_8 rfl (lv_at hl 4 rfl) ?_
  refine lv_istore (lv' := [(11, .int x2), (9, .long (-2)), (8, .int (-1)), (0, .ref (ad 0)), (1, .int x1), (2, .int x2), (3, .int x3), (4, .long x4), (6, .int x6), (7, .int x7)]) hx hb dX2_dealLabels_9 hl (by decide) rfl (fun ls hl => ?_)
  exact w_X2_dealLabels_11 F NF _ _ _ _ _ _ _ _ _ _ _ _ hw (lv_sub hl [3, 4, 6, 7, 8, 9, 2, 1, 0] rfl) h
end
theorem c_X2_dealLabels {l : Launch} {G : GX} {ad : Nat → Nat} {x1 : Int32} {x2 : Int32} {x3 : Int32} {x4 : Int64} {x6 : Int32} {x7 : Int32} {u : SS} {z : SS} (h : f_X2_dealLabels x1 x2 x3 x4 x6 x7 u = some z) : MW l yX2_dealLabels cX2_dealLabels 12 none rmX2_dealLabels G (sw G ad u) (sw G ad z) [.ref (ad 0), .int x1, .int x2, .int x3, .long x4, .int x6, .int x7] none := MW.of (by decide) (Nat.le_of_ble_eq_true rfl) (fun p e s m below meth c ls F hw hl => w_X2_dealLabels_0 F _ _ _ _ _ _ _ _ _ _ hw hl h)
/-! ===== X2_spreadRuns ===== -/
theorem dX2_spreadRuns_0 : decode cX2_spreadRuns 0 = .ok (.aload_n 0, 1) := by decide +kernel
theorem dX2_spreadRuns_1 : decode cX2_spreadRuns 1 = .ok (.getfield 29, 3) := by decide +kernel
theorem dX2_spreadRuns_4 : decode cX2_spreadRuns 4 = .ok (.iload_n 1, 1) := by decide +kernel
theorem dX2_spreadRuns_5 : decode cX2_spreadRuns 5 = .ok (.iaload, 1) := by decide +kernel
theorem dX2_spreadRuns_6 : decode cX2_spreadRuns 6 = .ok (.istore 4, 2) := by decide +kernel
theorem dX2_spreadRuns_8 : decode cX2_spreadRuns 8 = .ok (.iload_n 2, 1) := by decide +kernel
theorem dX2_spreadRuns_9 : decode cX2_spreadRuns 9 = .ok (.aload_n 0, 1) := by decide +kernel
theorem dX2_spreadRuns_10 : decode cX2_spreadRuns 10 = .ok (.getfield 12, 3) := by decide +kernel
theorem dX2_spreadRuns_13 : decode cX2_spreadRuns 13 = .ok (.iload_n 1, 1) := by decide +kernel
theorem dX2_spreadRuns_14 : decode cX2_spreadRuns 14 = .ok (.invokevirtual 81, 3) := by decide +kernel
theorem dX2_spreadRuns_17 : decode cX2_spreadRuns 17 = .ok (.if_icmp .le 13, 3) := by decide +kernel
theorem dX2_spreadRuns_20 : decode cX2_spreadRuns 20 = .ok (.aload_n 0, 1) := by decide +kernel
theorem dX2_spreadRuns_21 : decode cX2_spreadRuns 21 = .ok (.iload_n 2, 1) := by decide +kernel
theorem dX2_spreadRuns_22 : decode cX2_spreadRuns 22 = .ok (.iconst 1, 1) := by decide +kernel
theorem dX2_spreadRuns_23 : decode cX2_spreadRuns 23 = .ok (.isub, 1) := by decide +kernel
theorem dX2_spreadRuns_24 : decode cX2_spreadRuns 24 = .ok (.invokevirtual 87, 3) := by decide +kernel
theorem dX2_spreadRuns_27 : decode cX2_spreadRuns 27 = .ok (.goto 8, 3) := by decide +kernel
theorem dX2_spreadRuns_30 : decode cX2_spreadRuns 30 = .ok (.aload_n 0, 1) := by decide +kernel
theorem dX2_spreadRuns_31 : decode cX2_spreadRuns 31 = .ok (.iload_n 3, 1) := by decide +kernel
theorem dX2_spreadRuns_32 : decode cX2_spreadRuns 32 = .ok (.invokevirtual 87, 3) := by decide +kernel
theorem dX2_spreadRuns_35 : decode cX2_spreadRuns 35 = .ok (.lstore 5, 2) := by decide +kernel
theorem dX2_spreadRuns_37 : decode cX2_spreadRuns 37 = .ok (.iload_n 2, 1) := by decide +kernel
theorem dX2_spreadRuns_38 : decode cX2_spreadRuns 38 = .ok (.istore 7, 2) := by decide +kernel
theorem dX2_spreadRuns_40 : decode cX2_spreadRuns 40 = .ok (.iload_n 3, 1) := by decide +kernel
theorem dX2_spreadRuns_41 : decode cX2_spreadRuns 41 = .ok (.istore 8, 2) := by decide +kernel
theorem dX2_spreadRuns_43 : decode cX2_spreadRuns 43 = .ok (.iconst 1, 1) := by decide +kernel
theorem dX2_spreadRuns_44 : decode cX2_spreadRuns 44 = .ok (.istore 9, 2) := by decide +kernel
theorem dX2_spreadRuns_46 : decode cX2_spreadRuns 46 = .ok (.iconst 1, 1) := by decide +kernel
theorem dX2_spreadRuns_47 : decode cX2_spreadRuns 47 = .ok (.istore 10, 2) := by decide +kernel
theorem dX2_spreadRuns_49 : decode cX2_spreadRuns 49 = .ok (.iload 10, 2) := by decide +kernel
theorem dX2_spreadRuns_51 : decode cX2_spreadRuns 51 = .ok (.iload 4, 2) := by decide +kernel
theorem dX2_spreadRuns_53 : decode cX2_spreadRuns 53 = .ok (.if_icmp .gt 193, 3) := by decide +kernel
theorem dX2_spreadRuns_56 : decode cX2_spreadRuns 56 = .ok (.lload 5, 2) := by decide +kernel
theorem dX2_spreadRuns_58 : decode cX2_spreadRuns 58 = .ok (.iload 10, 2) := by decide +kernel
theorem dX2_spreadRuns_60 : decode cX2_spreadRuns 60 = .ok (.lshr, 1) := by decide +kernel
theorem dX2_spreadRuns_61 : decode cX2_spreadRuns 61 = .ok (.iload 10, 2) := by decide +kernel
theorem dX2_spreadRuns_63 : decode cX2_spreadRuns 63 = .ok (.lshl, 1) := by decide +kernel
theorem dX2_spreadRuns_64 : decode cX2_spreadRuns 64 = .ok (.lstore 11, 2) := by decide +kernel
theorem dX2_spreadRuns_66 : decode cX2_spreadRuns 66 = .ok (.lload 11, 2) := by decide +kernel
theorem dX2_spreadRuns_68 : decode cX2_spreadRuns 68 = .ok (.lconst 1, 1) := by decide +kernel
theorem dX2_spreadRuns_69 : decode cX2_spreadRuns 69 = .ok (.iload 10, 2) := by decide +kernel
theorem dX2_spreadRuns_71 : decode cX2_spreadRuns 71 = .ok (.lshl, 1) := by decide +kernel
theorem dX2_spreadRuns_72 : decode cX2_spreadRuns 72 = .ok (.ladd, 1) := by decide +kernel
theorem dX2_spreadRuns_73 : decode cX2_spreadRuns 73 = .ok (.lstore 13, 2) := by decide +kernel
theorem dX2_spreadRuns_75 : decode cX2_spreadRuns 75 = .ok (.iload 7, 2) := by decide +kernel
theorem dX2_spreadRuns_77 : decode cX2_spreadRuns 77 = .ok (.aload_n 0, 1) := by decide +kernel
theorem dX2_spreadRuns_78 : decode cX2_spreadRuns 78 = .ok (.getfield 12, 3) := by decide +kernel
theorem dX2_spreadRuns_81 : decode cX2_spreadRuns 81 = .ok (.iload_n 1, 1) := by decide +kernel
theorem dX2_spreadRuns_82 : decode cX2_spreadRuns 82 = .ok (.invokevirtual 81, 3) := by decide +kernel
theorem dX2_spreadRuns_85 : decode cX2_spreadRuns 85 = .ok (.if_icmp .le 51, 3) := by decide +kernel
theorem dX2_spreadRuns_88 : decode cX2_spreadRuns 88 = .ok (.aload_n 0, 1) := by decide +kernel
theorem dX2_spreadRuns_89 : decode cX2_spreadRuns 89 = .ok (.iload 7, 2) := by decide +kernel
theorem dX2_spreadRuns_91 : decode cX2_spreadRuns 91 = .ok (.iconst 1, 1) := by decide +kernel
theorem dX2_spreadRuns_92 : decode cX2_spreadRuns 92 = .ok (.isub, 1) := by decide +kernel
theorem dX2_spreadRuns_93 : decode cX2_spreadRuns 93 = .ok (.invokevirtual 87, 3) := by decide +kernel
theorem dX2_spreadRuns_96 : decode cX2_spreadRuns 96 = .ok (.lload 11, 2) := by decide +kernel
theorem dX2_spreadRuns_98 : decode cX2_spreadRuns 98 = .ok (.lcmp, 1) := by decide +kernel
theorem dX2_spreadRuns_99 : decode cX2_spreadRuns 99 = .ok (.ifCond .lt 37, 3) := by decide +kernel
theorem dX2_spreadRuns_102 : decode cX2_spreadRuns 102 = .ok (.iinc 7 (-1), 3) := by decide +kernel
theorem dX2_spreadRuns_105 : decode cX2_spreadRuns 105 = .ok (.iload 9, 2) := by decide +kernel
theorem dX2_spreadRuns_107 : decode cX2_spreadRuns 107 = .ok (.aload_n 0, 1) := by decide +kernel
theorem dX2_spreadRuns_108 : decode cX2_spreadRuns 108 = .ok (.iload 7, 2) := by decide +kernel
theorem dX2_spreadRuns_110 : decode cX2_spreadRuns 110 = .ok (.invokevirtual 87, 3) := by decide +kernel
theorem dX2_spreadRuns_113 : decode cX2_spreadRuns 113 = .ok (.aload_n 0, 1) := by decide +kernel
theorem dX2_spreadRuns_114 : decode cX2_spreadRuns 114 = .ok (.iload 7, 2) := by decide +kernel
theorem dX2_spreadRuns_116 : decode cX2_spreadRuns 116 = .ok (.iconst 1, 1) := by decide +kernel
theorem dX2_spreadRuns_117 : decode cX2_spreadRuns 117 = .ok (.iadd, 1) := by decide +kernel
theorem dX2_spreadRuns_118 : decode cX2_spreadRuns 118 = .ok (.invokevirtual 87, 3) := by decide +kernel
theorem dX2_spreadRuns_121 : decode cX2_spreadRuns 121 = .ok (.lcmp, 1) := by decide +kernel
theorem dX2_spreadRuns_122 : decode cX2_spreadRuns 122 = .ok (.ifCond .eq 7, 3) := by decide +kernel
theorem dX2_spreadRuns_125 : decode cX2_spreadRuns 125 = .ok (.iconst 1, 1) := by decide +kernel
theorem dX2_spreadRuns_126 : decode cX2_spreadRuns 126 = .ok (.goto 4, 3) := by decide +kernel
theorem dX2_spreadRuns_129 : decode cX2_spreadRuns 129 = .ok (.iconst 0, 1) := by decide +kernel
theorem dX2_spreadRuns_130 : decode cX2_spreadRuns 130 = .ok (.iadd, 1) := by decide +kernel
theorem dX2_spreadRuns_131 : decode cX2_spreadRuns 131 = .ok (.istore 9, 2) := by decide +kernel
theorem dX2_spreadRuns_133 : decode cX2_spreadRuns 133 = .ok (.goto (-58), 3) := by decide +kernel
theorem dX2_spreadRuns_136 : decode cX2_spreadRuns 136 = .ok (.iload 8, 2) := by decide +kernel
theorem dX2_spreadRuns_138 : decode cX2_spreadRuns 138 = .ok (.aload_n 0, 1) := by decide +kernel
theorem dX2_spreadRuns_139 : decode cX2_spreadRuns 139 = .ok (.getfield 12, 3) := by decide +kernel
theorem dX2_spreadRuns_142 : decode cX2_spreadRuns 142 = .ok (.iload_n 1, 1) := by decide +kernel
theorem dX2_spreadRuns_143 : decode cX2_spreadRuns 143 = .ok (.invokevirtual 84, 3) := by decide +kernel
theorem dX2_spreadRuns_146 : decode cX2_spreadRuns 146 = .ok (.if_icmp .ge 49, 3) := by decide +kernel
theorem dX2_spreadRuns_149 : decode cX2_spreadRuns 149 = .ok (.aload_n 0, 1) := by decide +kernel
theorem dX2_spreadRuns_150 : decode cX2_spreadRuns 150 = .ok (.iload 8, 2) := by decide +kernel
theorem dX2_spreadRuns_152 : decode cX2_spreadRuns 152 = .ok (.invokevirtual 87, 3) := by decide +kernel
theorem dX2_spreadRuns_155 : decode cX2_spreadRuns 155 = .ok (.lload 13, 2) := by decide +kernel
theorem dX2_spreadRuns_157 : decode cX2_spreadRuns 157 = .ok (.lcmp, 1) := by decide +kernel
theorem dX2_spreadRuns_158 : decode cX2_spreadRuns 158 = .ok (.ifCond .ge 37, 3) := by decide +kernel
theorem dX2_spreadRuns_161 : decode cX2_spreadRuns 161 = .ok (.iload 9, 2) := by decide +kernel
theorem dX2_spreadRuns_163 : decode cX2_spreadRuns 163 = .ok (.aload_n 0, 1) := by decide +kernel
theorem dX2_spreadRuns_164 : decode cX2_spreadRuns 164 = .ok (.iload 8, 2) := by decide +kernel
theorem dX2_spreadRuns_166 : decode cX2_spreadRuns 166 = .ok (.invokevirtual 87, 3) := by decide +kernel
theorem dX2_spreadRuns_169 : decode cX2_spreadRuns 169 = .ok (.aload_n 0, 1) := by decide +kernel
theorem dX2_spreadRuns_170 : decode cX2_spreadRuns 170 = .ok (.iload 8, 2) := by decide +kernel
theorem dX2_spreadRuns_172 : decode cX2_spreadRuns 172 = .ok (.iconst 1, 1) := by decide +kernel
theorem dX2_spreadRuns_173 : decode cX2_spreadRuns 173 = .ok (.isub, 1) := by decide +kernel
theorem dX2_spreadRuns_174 : decode cX2_spreadRuns 174 = .ok (.invokevirtual 87, 3) := by decide +kernel
theorem dX2_spreadRuns_177 : decode cX2_spreadRuns 177 = .ok (.lcmp, 1) := by decide +kernel
theorem dX2_spreadRuns_178 : decode cX2_spreadRuns 178 = .ok (.ifCond .eq 7, 3) := by decide +kernel
theorem dX2_spreadRuns_181 : decode cX2_spreadRuns 181 = .ok (.iconst 1, 1) := by decide +kernel
theorem dX2_spreadRuns_182 : decode cX2_spreadRuns 182 = .ok (.goto 4, 3) := by decide +kernel
theorem dX2_spreadRuns_185 : decode cX2_spreadRuns 185 = .ok (.iconst 0, 1) := by decide +kernel
theorem dX2_spreadRuns_186 : decode cX2_spreadRuns 186 = .ok (.iadd, 1) := by decide +kernel
theorem dX2_spreadRuns_187 : decode cX2_spreadRuns 187 = .ok (.istore 9, 2) := by decide +kernel
theorem dX2_spreadRuns_189 : decode cX2_spreadRuns 189 = .ok (.iinc 8 1, 3) := by decide +kernel
theorem dX2_spreadRuns_192 : decode cX2_spreadRuns 192 = .ok (.goto (-56), 3) := by decide +kernel
theorem dX2_spreadRuns_195 : decode cX2_spreadRuns 195 = .ok (.iload 9, 2) := by decide +kernel
theorem dX2_spreadRuns_197 : decode cX2_spreadRuns 197 = .ok (.i2l, 1) := by decide +kernel
theorem dX2_spreadRuns_198 : decode cX2_spreadRuns 198 = .ok (.ldc2_w 183, 3) := by decide +kernel
theorem dX2_spreadRuns_201 : decode cX2_spreadRuns 201 = .ok (.lmul, 1) := by decide +kernel
theorem dX2_spreadRuns_202 : decode cX2_spreadRuns 202 = .ok (.iload 4, 2) := by decide +kernel
theorem dX2_spreadRuns_204 : decode cX2_spreadRuns 204 = .ok (.i2l, 1) := by decide +kernel
theorem dX2_spreadRuns_205 : decode cX2_spreadRuns 205 = .ok (.lmul, 1) := by decide +kernel
theorem dX2_spreadRuns_206 : decode cX2_spreadRuns 206 = .ok (.lconst 1, 1) := by decide +kernel
theorem dX2_spreadRuns_207 : decode cX2_spreadRuns 207 = .ok (.iload 10, 2) := by decide +kernel
theorem dX2_spreadRuns_209 : decode cX2_spreadRuns 209 = .ok (.lshl, 1) := by decide +kernel
theorem dX2_spreadRuns_210 : decode cX2_spreadRuns 210 = .ok (.iconst 2, 1) := by decide +kernel
theorem dX2_spreadRuns_211 : decode cX2_spreadRuns 211 = .ok (.iload 4, 2) := by decide +kernel
theorem dX2_spreadRuns_213 : decode cX2_spreadRuns 213 = .ok (.imul, 1) := by decide +kernel
theorem dX2_spreadRuns_214 : decode cX2_spreadRuns 214 = .ok (.iload 10, 2) := by decide +kernel
theorem dX2_spreadRuns_216 : decode cX2_spreadRuns 216 = .ok (.isub, 1) := by decide +kernel
theorem dX2_spreadRuns_217 : decode cX2_spreadRuns 217 = .ok (.i2l, 1) := by decide +kernel
theorem dX2_spreadRuns_218 : decode cX2_spreadRuns 218 = .ok (.lmul, 1) := by decide +kernel
theorem dX2_spreadRuns_219 : decode cX2_spreadRuns 219 = .ok (.lcmp, 1) := by decide +kernel
theorem dX2_spreadRuns_220 : decode cX2_spreadRuns 220 = .ok (.ifCond .gt 20, 3) := by decide +kernel
theorem dX2_spreadRuns_223 : decode cX2_spreadRuns 223 = .ok (.aload_n 0, 1) := by decide +kernel
theorem dX2_spreadRuns_224 : decode cX2_spreadRuns 224 = .ok (.iload_n 1, 1) := by decide +kernel
theorem dX2_spreadRuns_225 : decode cX2_spreadRuns 225 = .ok (.iload 7, 2) := by decide +kernel
theorem dX2_spreadRuns_227 : decode cX2_spreadRuns 227 = .ok (.iload 8, 2) := by decide +kernel
theorem dX2_spreadRuns_229 : decode cX2_spreadRuns 229 = .ok (.lload 11, 2) := by decide +kernel
theorem dX2_spreadRuns_231 : decode cX2_spreadRuns 231 = .ok (.iload 10, 2) := by decide +kernel
theorem dX2_spreadRuns_233 : decode cX2_spreadRuns 233 = .ok (.iload 9, 2) := by decide +kernel
theorem dX2_spreadRuns_235 : decode cX2_spreadRuns 235 = .ok (.invokevirtual 188, 3) := by decide +kernel
theorem dX2_spreadRuns_238 : decode cX2_spreadRuns 238 = .ok (.iconst 1, 1) := by decide +kernel
theorem dX2_spreadRuns_239 : decode cX2_spreadRuns 239 = .ok (.ireturn, 1) := by decide +kernel
theorem dX2_spreadRuns_240 : decode cX2_spreadRuns 240 = .ok (.iinc 10 1, 3) := by decide +kernel
theorem dX2_spreadRuns_243 : decode cX2_spreadRuns 243 = .ok (.goto (-194), 3) := by decide +kernel
theorem dX2_spreadRuns_246 : decode cX2_spreadRuns 246 = .ok (.iconst 0, 1) := by decide +kernel
theorem dX2_spreadRuns_247 : decode cX2_spreadRuns 247 = .ok (.ireturn, 1) := by decide +kernel
theorem s_g0_3 {p : Program} {l : Launch} {e : Env} {R : Room} {s : State} {m : MethodId} {args : Array Value} {below : List Frame} {meth : Method} {c : Code} {H : Heap} {locs : List Loc} {cells slots : Nat} {Q : State → Prop} {G : GX} {A : Nat → Prop} {ad : Nat → Nat} {u : SS} {cc : ByteArray} {nL pc : Nat} {y : MethodName} {ret : Option FieldType} {ls : Array Slot} {rest : List Value} (F : FX p m c cc nL s args y ret RX2 meth) (hw : WD G A s (sw G ad u) H locs) (hdg : decode cc pc = .ok (.getfield 29, 3)) (kk : W p l e R s m args below meth c H locs cells slots Q (F0 m (pc + 3) ls (.ref (ad 10) :: rest))) : W p l e R s m args below meth c H locs cells slots Q (F0 m pc ls (.ref (ad 0) :: rest)) := va_get (D := G.1) (ci := 2) (C := RX2) (T := TX2) (N := 8) (Ts := lw_gt) F.1.1 F.1.2.1 (fun _ h => F.tb h) inX2 F.1.2.2.2.1 hw.1.1 hw.2.1 0 rfl rfl 3 (by decide) (F.tb (tw 73 (by decide +kernel) rfl)) (fun _ h9 => h9) rfl hdg kk
theorem s_l10 {i : Int32} {p : Program} {l : Launch} {e : Env} {R : Room} {s : State} {m : MethodId} {args : Array Value} {below : List Frame} {meth : Method} {c : Code} {H : Heap} {locs : List Loc} {cells slots : Nat} {Q : State → Prop} {G : GX} {A : Nat → Prop} {ad : Nat → Nat} {u : SS} {cc : ByteArray} {nL pc : Nat} {y : MethodName} {ret : Option FieldType} {ls : Array Slot} {rest : List Value} (F : FX p m c cc nL s args y ret RX2 meth) (hw : WD G A s (sw G ad u) H locs) (hi : ix i 8 = true) (hdg : decode cc pc = .ok (.iaload, 1)) (kk : W p l e R s m args below meth c H locs cells slots Q (F0 m (pc + 1) ls (.int ((u.2.2.1 3) i.toNatClampNeg) :: rest))) : W p l e R s m args below meth c H locs cells slots Q (F0 m pc ls (.int i :: .ref (ad 10) :: rest)) := va_iald F.1.1 F.1.2.1 hw.1.1 hw.2.1 10 0 rfl rfl (ix_in hi) hdg kk
theorem yv_X2_dealLabels_X2 : YV RX2 188 yX2_dealLabels cX2_dealLabels 12 none 6 := ⟨(tw 267 (by decide +kernel) rfl), (tw 2 (by decide +kernel) rfl), (tw 264 (by decide +kernel) rfl), (tw 265 (by decide +kernel) rfl), (tw 266 (by decide +kernel) rfl), by decide +kernel⟩
theorem k_X2_dealLabels_s_ {p : Program} {l : Launch} {e : Env} {R : Room} {s : State} {m : MethodId} {args : Array Value} {below : List Frame} {meth : Method} {c : Code} {H : Heap} {locs : List Loc} {cells slots : Nat} {Q : State → Prop} {G : GX} {A : Nat → Prop} {ad : Nat → Nat} {u : SS} {cc : ByteArray} {nL pc : Nat} {y : MethodName} {ret : Option FieldType} {ls : Array Slot} {rest : List Value} {x1 : Int32} {x2 : Int32} {x3 : Int32} {x4 : Int64} {x6 : Int32} {x7 : Int32} {z : SS} (F : FX p m c cc nL s args y ret RX2 meth) (hw : WD G A s (sw G ad u) H locs) (h : f_X2_dealLabels x1 x2 x3 x4 x6 x7 u = some z) (hR : rmX2_dealLabels.frames + 1 ≤ R.frames ∧ 8 + (12 + 11) + rmX2_dealLabels.locals ≤ R.locals) (hcs : cells ≤ R.cells ∧ slots ≤ R.slots) (hsz : ls.size = nL) (hW : (rest.map fun v => v.category).sum ≤ 8) (hdg : decode cc pc = .ok (.invokevirtual 188, 3)) (kk : ∀ (H : Heap) (locs : List Loc), WD G A s (sw G ad z) H locs → W p l e R s m args below meth c H locs cells slots Q (F0 m (pc + 3) ls (rest))) : W p l e R s m args below meth c H locs cells slots Q (F0 m pc ls (.int x7 :: .int x6 :: .long x4 :: .int x3 :: .int x2 :: .int x1 :: .ref (ad 0) :: rest)) := callW (runV F yv_X2_dealLabels_X2 (c_X2_dealLabels h) hw.1 hw.2.1 hw.2.2.1 rfl rfl rfl ⟨rfl, rfl⟩ hR hcs rfl hsz rfl hW hdg) hw.2.2.2 hw.2.2.1.own_in (fun H1 l1 hP _ hS => kk H1 l1 ⟨hw.1, hP, hw.2.2.1.addr rfl, hS⟩)
def rmX2_spreadRuns : Room := { frames := 2, cells := 0, slots := 0, locals := 55 }
noncomputable def f_X2_spreadRuns_195 (k_49 : Int32 → Int32 → Int64 → Int32 → Int32 → Int32 → Int32 → SS → Option (Int32 × SS)) (x1 : Int32) (x4 : Int32) (x5 : Int64) (x7 : Int32) (x8 : Int32) (x9 : Int32) (x10 : Int32) (x11 : Int64) (u : SS) : Option (Int32 × SS) := (if 0 < (lg_cmp (((Int32.toInt64 x9) * 2) * (Int32.toInt64 x4)) (((1 : Int64) <<< (Int32.toInt64 x10 &&& 63)) * (Int32.toInt64 ((2 * x4) - x10)))) then k_49 x1 x4 x5 x7 x8 x9 (x10 + 1) u else (f_X2_dealLabels x1 x7 x8 x11 x10 x9 u).bind (fun z33 => some (1, z33)))
noncomputable def f_X2_spreadRuns_136 (k_49 : Int32 → Int32 → Int64 → Int32 → Int32 → Int32 → Int32 → SS → Option (Int32 × SS)) : Nat → Int32 → Int32 → Int64 → Int32 → Int32 → Int32 → Int32 → Int64 → Int64 → SS → Option (Int32 × SS)
  | 0, _, _, _, _, _, _, _, _, _, _ => none
  | n + 1, x1, x4, x5, x7, x8, x9, x10, x11, x13, u => (f_X1_end x1 u.1).bind (fun z21 => (if z21 ≤ x8 then f_X2_spreadRuns_195 k_49 x1 x4 x5 x7 x8 x9 x10 x11 u else (f_X2_labelAt x8 u).bind (fun z24 => (if 0 ≤ (lg_cmp z24 x13) then f_X2_spreadRuns_195 k_49 x1 x4 x5 x7 x8 x9 x10 x11 u else (f_X2_labelAt x8 u).bind (fun z27 => (f_X2_labelAt (x8 - 1) u).bind (fun z29 => (if (lg_cmp z27 z29) = 0 then f_X2_spreadRuns_136 k_49 n x1 x4 x5 x7 (x8 + 1) (x9 + 0) x10 x11 x13 u else f_X2_spreadRuns_136 k_49 n x1 x4 x5 x7 (x8 + 1) (x9 + 1) x10 x11 x13 u)))))))
noncomputable def f_X2_spreadRuns_75 (k_49 : Int32 → Int32 → Int64 → Int32 → Int32 → Int32 → Int32 → SS → Option (Int32 × SS)) : Nat → Int32 → Int32 → Int64 → Int32 → Int32 → Int32 → Int32 → Int64 → Int64 → SS → Option (Int32 × SS)
  | 0, _, _, _, _, _, _, _, _, _, _ => none
  | n + 1, x1, x4, x5, x7, x8, x9, x10, x11, x13, u => (f_X1_first x1 u.1).bind (fun z10 => (if x7 ≤ z10 then f_X2_spreadRuns_136 k_49 NF x1 x4 x5 x7 x8 x9 x10 x11 x13 u else (f_X2_labelAt (x7 - 1) u).bind (fun z13 => (if (lg_cmp z13 x11) < 0 then f_X2_spreadRuns_136 k_49 NF x1 x4 x5 x7 x8 x9 x10 x11 x13 u else (f_X2_labelAt (x7 + (-1)) u).bind (fun z16 => (f_X2_labelAt ((x7 + (-1)) + 1) u).bind (fun z18 => (if (lg_cmp z16 z18) = 0 then f_X2_spreadRuns_75 k_49 n x1 x4 x5 (x7 + (-1)) x8 (x9 + 0) x10 x11 x13 u else f_X2_spreadRuns_75 k_49 n x1 x4 x5 (x7 + (-1)) x8 (x9 + 1) x10 x11 x13 u)))))))
noncomputable def f_X2_spreadRuns_49 : Nat → Int32 → Int32 → Int64 → Int32 → Int32 → Int32 → Int32 → SS → Option (Int32 × SS)
  | 0, _, _, _, _, _, _, _, _ => none
  | n + 1, x1, x4, x5, x7, x8, x9, x10, u => (if x4 < x10 then some (0, u) else f_X2_spreadRuns_75 (f_X2_spreadRuns_49 n) NF x1 x4 x5 x7 x8 x9 x10 ((x5 >>> (Int32.toInt64 x10 &&& 63)) <<< (Int32.toInt64 x10 &&& 63)) (((x5 >>> (Int32.toInt64 x10 &&& 63)) <<< (Int32.toInt64 x10 &&& 63)) + ((1 : Int64) <<< (Int32.toInt64 x10 &&& 63))) u)
noncomputable def f_X2_spreadRuns (x1 : Int32) (x2 : Int32) (x3 : Int32) (u : SS) : Option (Int32 × SS) := (if ix x1 8 = true then (f_X1_first x1 u.1).bind (fun z2 => (if x2 ≤ z2 then (f_X2_labelAt x3 u).bind (fun z5 => f_X2_spreadRuns_49 NF x1 ((u.2.2.1 3) (Int32.toNatClampNeg x1)) z5 x2 x3 1 1 u) else (f_X2_labelAt (x2 - 1) u).bind (fun z7 => f_X2_spreadRuns_49 NF x1 ((u.2.2.1 3) (Int32.toNatClampNeg x1)) z7 x2 x3 1 1 u))) else none)
section
variable {p : Program} {l : Launch} {e : Env} {s : State} {m : MethodId} {args : Array Value} {below : List Frame} {meth : Method} {c : Code}
variable {G : GX} {A : Nat → Prop} {ad : Nat → Nat} 
set_option maxHeartbeats 4000000 in
set_option maxRecDepth 100000 in
theorem w_X2_spreadRuns_195 (F : FX p m c cX2_spreadRuns 15 s args yX2_spreadRuns (some .boolean) RX2 meth) {z : Int32 × SS} (k_49 : Int32 → Int32 → Int64 → Int32 → Int32 → Int32 → Int32 → SS → Option (Int32 × SS)) (hk_49 : ∀ (x1 : Int32) (x4 : Int32) (x5 : Int64) (x7 : Int32) (x8 : Int32) (x9 : Int32) (x10 : Int32) (u : SS) (H : Heap) (locs : List Loc) (ls : Array Slot), WD G A s (sw G ad u) H locs → lv_has ls 15 [(0, .ref (ad 0)), (1, .int x1), (4, .int x4), (5, .long x5), (7, .int x7), (8, .int x8), (9, .int x9), (10, .int x10)] → k_49 x1 x4 x5 x7 x8 x9 x10 u = some z → W p l e rmX2_spreadRuns s m args below meth c H locs 0 0 (MQ below (QW G (sw G ad z.2) A (some (.int z.1))) args s 0 0 A) (F0 m 49 ls [])) : ∀ (x1 : Int32) (x4 : Int32) (x5 : Int64) (x7 : Int32) (x8 : Int32) (x9 : Int32) (x10 : Int32) (x11 : Int64) (u : SS) (H : Heap) (locs : List Loc) (ls : Array Slot), WD G A s (sw G ad u) H locs → lv_has ls 15 [(0, .ref (ad 0)), (1, .int x1), (4, .int x4), (5, .long x5), (7, .int x7), (8, .int x8), (9, .int x9), (10, .int x10), (11, .long x11)] → f_X2_spreadRuns_195 k_49 x1 x4 x5 x7 x8 x9 x10 x11 u = some z → W p l e rmX2_spreadRuns s m args below meth c H locs 0 0 (MQ below (QW G (sw G ad z.2) A (some (.int z.1))) args s 0 0 A) (F0 m 195 ls []) := by
  obtain ⟨⟨hx, hb, hml, hown, hts⟩, hr, hlocks⟩ := id F
  intro x1 x4 x5 x7 x8 x9 x10 x11 u H locs ls hw hl h
  unfold f_X2_spreadRuns_195 at h
  refine lv_iload hx hb dX2_spreadRuns_195 (lv_at hl 6 rfl) ?_
  refine lv_i2l hx hb dX2_spreadRuns_197 rfl ?_
  refine lv_ldc2 (own := RX2) (v := 2) hx hb hown (F.tb (tw 255 (by decide +kernel) rfl)) dX2_spreadRuns_198 ?_
  refine lv_lmul hx hb dX2_spreadRuns_201 ?_
  refine lv_iload hx hb dX2_spreadRuns_202 (lv_at hl 2 rfl) ?_
  refine lv_i2l hx hb dX2_spreadRuns_204 rfl ?_
  refine lv_lmul hx hb dX2_spreadRuns_205 ?_
  refine lv_lconst (v := 1) hx hb dX2_spreadRuns_206 rfl ?_
  refine lv_iload hx hb dX2_spreadRuns_207 (lv_at hl 7 rfl) ?_
  refine lv_lshl hx hb dX2_spreadRuns_209 rfl ?_
  refine lv_iconst (v := 2) hx hb dX2_spreadRuns_210 rfl ?_
  refine lv_iload hx hb dX2_spreadRuns_211 (lv_at hl 2 rfl) ?_
  refine lv_imul hx hb dX2_spreadRuns_213 ?_
  refine lv_iload hx hb dX2_spreadRuns_214 (lv_at hl 7 rfl) ?_
  refine lv_isub hx hb dX2_spreadRuns_216 ?_
  refine lv_i2l hx hb dX2_spreadRuns_217 rfl ?_
  refine lv_lmul hx hb dX2_spreadRuns_218 ?_
  refine W.lcmp hx hb dX2_spreadRuns_219 ?_
  refine lv_if_gt (tgt := 240) hx hb dX2_spreadRuns_220 rfl (fun c32 => ?_) (fun c32 => ?_)
  · replace h := itT h c32
    refine lv_iinc (v := (x10 + 1)) (lv' := [(10, .int (x10 + 1)), (0, .ref (ad 0)), (1, .int x1), (4, .int x4), (5, .long x5), (7, .int x7), (8, .int x8), (9, .int x9), (11, .long x11)]) hx hb dX2_spreadRuns_240 hl (k := 7) rfl rfl (by decide) rfl (fun ls hl => ?_)
    refine lv_goto (tgt := 49) hx hb dX2_spreadRuns_243 rfl ?_
    exact hk_49 _ _ _ _ _ _ _ _ _ _ _ hw (lv_sub hl [1, 2, 3, 4, 5, 6, 7, 0] rfl) h
  · replace h := itF h c32
    refine lv_aload_n hx hb dX2_spreadRuns_223 rfl (lv_at hl 0 rfl) ?_
    refine lv_iload_n hx hb dX2_spreadRuns_224 rfl (lv_at hl 1 rfl) ?_
    refine lv_iload hx hb dX2_spreadRuns_225 (lv_at hl 4 rfl) ?_
    refine lv_iload hx hb dX2_spreadRuns_227 (lv_at hl 5 rfl) ?_
    refine lv_lload hx hb dX2_spreadRuns_229 (lv_at hl 8 rfl) ?_
    refine lv_iload hx hb dX2_spreadRuns_231 (lv_at hl 7 rfl) ?_
    refine lv_iload hx hb dX2_spreadRuns_233 (lv_at hl 6 rfl) ?_
    obtain ⟨z33, e34, h⟩ := bnd h
    refine k_X2_dealLabels_s_ F hw e34 ⟨Nat.le_of_ble_eq_true rfl, Nat.le_of_ble_eq_true rfl⟩ ⟨Nat.zero_le _, Nat.zero_le _⟩ hl.1 (Nat.le_of_ble_eq_true rfl) dX2_spreadRuns_235 (fun H locs hw => ?_)
    refine lv_iconst (v := 1) hx hb dX2_spreadRuns_238 rfl ?_
    cases h
    exact retW_z F hw narrow_b1 dX2_spreadRuns_239
set_option maxHeartbeats 4000000 in
set_option maxRecDepth 100000 in
theorem w_X2_spreadRuns_136 (F : FX p m c cX2_spreadRuns 15 s args yX2_spreadRuns (some .boolean) RX2 meth) {z : Int32 × SS} (k_49 : Int32 → Int32 → Int64 → Int32 → Int32 → Int32 → Int32 → SS → Option (Int32 × SS)) (hk_49 : ∀ (x1 : Int32) (x4 : Int32) (x5 : Int64) (x7 : Int32) (x8 : Int32) (x9 : Int32) (x10 : Int32) (u : SS) (H : Heap) (locs : List Loc) (ls : Array Slot), WD G A s (sw G ad u) H locs → lv_has ls 15 [(0, .ref (ad 0)), (1, .int x1), (4, .int x4), (5, .long x5), (7, .int x7), (8, .int x8), (9, .int x9), (10, .int x10)] → k_49 x1 x4 x5 x7 x8 x9 x10 u = some z → W p l e rmX2_spreadRuns s m args below meth c H locs 0 0 (MQ below (QW G (sw G ad z.2) A (some (.int z.1))) args s 0 0 A) (F0 m 49 ls [])) : ∀ (n : Nat) (x1 : Int32) (x4 : Int32) (x5 : Int64) (x7 : Int32) (x8 : Int32) (x9 : Int32) (x10 : Int32) (x11 : Int64) (x13 : Int64) (u : SS) (H : Heap) (locs : List Loc) (ls : Array Slot), WD G A s (sw G ad u) H locs → lv_has ls 15 [(0, .ref (ad 0)), (1, .int x1), (4, .int x4), (5, .long x5), (7, .int x7), (8, .int x8), (9, .int x9), (10, .int x10), (11, .long x11), (13, .long x13)] → f_X2_spreadRuns_136 k_49 n x1 x4 x5 x7 x8 x9 x10 x11 x13 u = some z → W p l e rmX2_spreadRuns s m args below meth c H locs 0 0 (MQ below (QW G (sw G ad z.2) A (some (.int z.1))) args s 0 0 A) (F0 m 136 ls []) := by
  obtain ⟨⟨hx, hb, hml, hown, hts⟩, hr, hlocks⟩ := id F
  intro n
  induction n with
  | zero =>
    intro x1 x4 x5 x7 x8 x9 x10 x11 x13 u H locs ls hw hl h
    rw [f_X2_spreadRuns_136] at h
    cases h
  | succ n ih =>
    intro x1 x4 x5 x7 x8 x9 x10 x11 x13 u H locs ls hw hl h
    rw [f_X2_spreadRuns_136] at h
    refine lv_iload hx hb dX2_spreadRuns_136 (lv_at hl 5 rfl) ?_
    refine lv_aload_n hx hb dX2_spreadRuns_138 rfl (lv_at hl 0 rfl) ?_
    refine s_g0_0 F hw dX2_spreadRuns_139 ?_
    refine lv_iload_n hx hb dX2_spreadRuns_142 rfl (lv_at hl 1 rfl) ?_
    obtain ⟨z21, e22, h⟩ := bnd h
    refine k_X1_end_s_ F hw e22 ⟨Nat.le_of_ble_eq_true rfl, Nat.le_of_ble_eq_true rfl⟩ ⟨Nat.zero_le _, Nat.zero_le _⟩ hl.1 (Nat.le_of_ble_eq_true rfl) dX2_spreadRuns_143 ?_
    refine lv_icmp_ge (tgt := 195) hx hb dX2_spreadRuns_146 rfl (fun c23 => ?_) (fun c23 => ?_)
    · replace h := itT h c23
      exact w_X2_spreadRuns_195 F k_49 hk_49 _ _ _ _ _ _ _ _ _ _ _ _ hw (lv_sub hl [0, 1, 2, 3, 4, 5, 6, 7, 8] rfl) h
    · replace h := itF h c23
      refine lv_aload_n hx hb dX2_spreadRuns_149 rfl (lv_at hl 0 rfl) ?_
      refine lv_iload hx hb dX2_spreadRuns_150 (lv_at hl 5 rfl) ?_
      obtain ⟨z24, e25, h⟩ := bnd h
      refine k_X2_labelAt_s_ F hw e25 ⟨Nat.le_of_ble_eq_true rfl, Nat.le_of_ble_eq_true rfl⟩ ⟨Nat.zero_le _, Nat.zero_le _⟩ hl.1 (Nat.le_of_ble_eq_true rfl) dX2_spreadRuns_152 ?_
      refine lv_lload hx hb dX2_spreadRuns_155 (lv_at hl 9 rfl) ?_
      refine W.lcmp hx hb dX2_spreadRuns_157 ?_
      refine lv_if_ge (tgt := 195) hx hb dX2_spreadRuns_158 rfl (fun c26 => ?_) (fun c26 => ?_)
      · replace h := itT h c26
        exact w_X2_spreadRuns_195 F k_49 hk_49 _ _ _ _ _ _ _ _ _ _ _ _ hw (lv_sub hl [0, 1, 2, 3, 4, 5, 6, 7, 8] rfl) h
      · replace h := itF h c26
        refine lv_iload hx hb dX2_spreadRuns_161 (lv_at hl 6 rfl) ?_
        refine lv_aload_n hx hb dX2_spreadRuns_163 rfl (lv_at hl 0 rfl) ?_
        refine lv_iload hx hb dX2_spreadRuns_164 (lv_at hl 5 rfl) ?_
        obtain ⟨z27, e28, h⟩ := bnd h
        refine k_X2_labelAt_s_ F hw e28 ⟨Nat.le_of_ble_eq_true rfl, Nat.le_of_ble_eq_true rfl⟩ ⟨Nat.zero_le _, Nat.zero_le _⟩ hl.1 (Nat.le_of_ble_eq_true rfl) dX2_spreadRuns_166 ?_
        refine lv_aload_n hx hb dX2_spreadRuns_169 rfl (lv_at hl 0 rfl) ?_
        refine lv_iload hx hb dX2_spreadRuns_170 (lv_at hl 5 rfl) ?_
        refine lv_iconst (v := 1) hx hb dX2_spreadRuns_172 rfl ?_
        refine lv_isub hx hb dX2_spreadRuns_173 ?_
        obtain ⟨z29, e30, h⟩ := bnd h
        refine k_X2_labelAt_s_ F hw e30 ⟨Nat.le_of_ble_eq_true rfl, Nat.le_of_ble_eq_true rfl⟩ ⟨Nat.zero_le _, Nat.zero_le _⟩ hl.1 (Nat.le_of_ble_eq_true rfl) dX2_spreadRuns_174 ?_
        refine W.lcmp hx hb dX2_spreadRuns_177 ?_
        refine lv_if_eq (tgt := 185) hx hb dX2_spreadRuns_178 rfl (fun c31 => ?_) (fun c31 => ?_)
        · replace h := itT h c31
          refine lv_iconst (v := 0) hx hb dX2_spreadRuns_185 rfl ?_
          refine lv_iadd hx hb dX2_spreadRuns_186 ?_
          refine lv_istore (lv' := [(9, .int (x9 + 0)), (0, .ref (ad 0)), (1, .int x1), (4, .int x4), (5, .long x5), (7, .int x7), (8, .int x8), (10, .int x10), (11, .long x11), (13, .long x13)]) hx hb dX2_spreadRuns_187 hl (by decide) rfl (fun ls hl => ?_)
          refine lv_iinc (v := (x8 + 1)) (lv' := [(8, .int (x8 + 1)), (9, .int (x9 + 0)), (0, .ref (ad 0)), (1, .int x1), (4, .int x4), (5, .long x5), (7, .int x7), (10, .int x10), (11, .long x11), (13, .long x13)]) hx hb dX2_spreadRuns_189 hl (k := 6) rfl rfl (by decide) rfl (fun ls hl => ?_)
          refine lv_goto (tgt := 136) hx hb dX2_spreadRuns_192 rfl ?_
          exact ih _ _ _ _ _ _ _ _ _ _ _ _ _ hw (lv_sub hl [2, 3, 4, 5, 6, 0, 1, 7, 8, 9] rfl) h
        · replace h := itF h c31
          refine lv_iconst (v := 1) hx hb dX2_spreadRuns_181 rfl ?_
          refine lv_goto (tgt := 186) hx hb dX2_spreadRuns_182 rfl ?_
          refine lv_iadd hx hb dX2_spreadRuns_186 ?_
          refine lv_istore (lv' := [(9, .int (x9 + 1)), (0, .ref (ad 0)), (1, .int x1), (4, .int x4), (5, .long x5), (7, .int x7), (8, .int x8), (10, .int x10), (11, .long x11), (13, .long x13)]) hx hb dX2_spreadRuns_187 hl (by decide) rfl (fun ls hl => ?_)
          refine lv_iinc (v := (x8 + 1)) (lv' := [(8, .int (x8 + 1)), (9, .int (x9 + 1)), (0, .ref (ad 0)), (1, .int x1), (4, .int x4), (5, .long x5), (7, .int x7), (10, .int x10), (11, .long x11), (13, .long x13)]) hx hb dX2_spreadRuns_189 hl (k := 6) rfl rfl (by decide) rfl (fun ls hl => ?_)
          refine lv_goto (tgt := 136) hx hb dX2_spreadRuns_192 rfl ?_
          exact ih _ _ _ _ _ _ _ _ _ _ _ _ _ hw (lv_sub hl [2, 3, 4, 5, 6, 0, 1, 7, 8, 9] rfl) h
set_option maxHeartbeats 4000000 in
set_option maxRecDepth 100000 in
theorem w_X2_spreadRuns_75 (F : FX p m c cX2_spreadRuns 15 s args yX2_spreadRuns (some .boolean) RX2 meth) {z : Int32 × SS} (k_49 : Int32 → Int32 → Int64 → Int32 → Int32 → Int32 → Int32 → SS → Option (Int32 × SS)) (hk_49 : ∀ (x1 : Int32) (x4 : Int32) (x5 : Int64) (x7 : Int32) (x8 : Int32) (x9 : Int32) (x10 : Int32) (u : SS) (H : Heap) (locs : List Loc) (ls : Array Slot), WD G A s (sw G ad u) H locs → lv_has ls 15 [(0, .ref (ad 0)), (1, .int x1), (4, .int x4), (5, .long x5), (7, .int x7), (8, .int x8), (9, .int x9), (10, .int x10)] → k_49 x1 x4 x5 x7 x8 x9 x10 u = some z → W p l e rmX2_spreadRuns s m args below meth c H locs 0 0 (MQ below (QW G (sw G ad z.2) A (some (.int z.1))) args s 0 0 A) (F0 m 49 ls [])) : ∀ (n : Nat) (x1 : Int32) (x4 : Int32) (x5 : Int64) (x7 : Int32) (x8 : Int32) (x9 : Int32) (x10 : Int32) (x11 : Int64) (x13 : Int64) (u : SS) (H : Heap) (locs : List Loc) (ls : Array Slot), WD G A s (sw G ad u) H locs → lv_has ls 15 [(0, .ref (ad 0)), (1, .int x1), (4, .int x4), (5, .long x5), (7, .int x7), (8, .int x8), (9, .int x9), (10, .int x10), (11, .long x11), (13, .long x13)] → f_X2_spreadRuns_75 k_49 n x1 x4 x5 x7 x8 x9 x10 x11 x13 u = some z → W p l e rmX2_spreadRuns s m args below meth c H locs 0 0 (MQ below (QW G (sw G ad z.2) A (some (.int z.1))) args s 0 0 A) (F0 m 75 ls []) := by
  obtain ⟨⟨hx, hb, hml, hown, hts⟩, hr, hlocks⟩ := id F
  intro n
  induction n with
  | zero =>
    intro x1 x4 x5 x7 x8 x9 x10 x11 x13 u H locs ls hw hl h
    rw [f_X2_spreadRuns_75] at h
    cases h
  | succ n ih =>
    intro x1 x4 x5 x7 x8 x9 x10 x11 x13 u H locs ls hw hl h
    rw [f_X2_spreadRuns_75] at h
    refine lv_iload hx hb dX2_spreadRuns_75 (lv_at hl 4 rfl) ?_
    refine lv_aload_n hx hb dX2_spreadRuns_77 rfl (lv_at hl 0 rfl) ?_
    refine s_g0_0 F hw dX2_spreadRuns_78 ?_
    refine lv_iload_n hx hb dX2_spreadRuns_81 rfl (lv_at hl 1 rfl) ?_
    obtain ⟨z10, e11, h⟩ := bnd h
    refine k_X1_first_s_ F hw e11 ⟨Nat.le_of_ble_eq_true rfl, Nat.le_of_ble_eq_true rfl⟩ ⟨Nat.zero_le _, Nat.zero_le _⟩ hl.1 (Nat.le_of_ble_eq_true rfl) dX2_spreadRuns_82 ?_
    refine lv_icmp_le (tgt := 136) hx hb dX2_spreadRuns_85 rfl (fun c12 => ?_) (fun c12 => ?_)
    · replace h := itT h c12
      exact w_X2_spreadRuns_136 F k_49 hk_49 NF _ _ _ _ _ _ _ _ _ _ _ _ _ hw (lv_sub hl [0, 1, 2, 3, 4, 5, 6, 7, 8, 9] rfl) h
    · replace h := itF h c12
      refine lv_aload_n hx hb dX2_spreadRuns_88 rfl (lv_at hl 0 rfl) ?_
      refine lv_iload hx hb dX2_spreadRuns_89 (lv_at hl 4 rfl) ?_
      refine lv_iconst (v := 1) hx hb dX2_spreadRuns_91 rfl ?_
      refine lv_isub hx hb dX2_spreadRuns_92 ?_
      obtain ⟨z13, e14, h⟩ := bnd h
      refine k_X2_labelAt_s_ F hw e14 ⟨Nat.le_of_ble_eq_true rfl, Nat.le_of_ble_eq_true rfl⟩ ⟨Nat.zero_le _, Nat.zero_le _⟩ hl.1 (Nat.le_of_ble_eq_true rfl) dX2_spreadRuns_93 ?_
      refine lv_lload hx hb dX2_spreadRuns_96 (lv_at hl 8 rfl) ?_
      refine W.lcmp hx hb dX2_spreadRuns_98 ?_
      refine lv_if_lt (tgt := 136) hx hb dX2_spreadRuns_99 rfl (fun c15 => ?_) (fun c15 => ?_)
      · replace h := itT h c15
        exact w_X2_spreadRuns_136 F k_49 hk_49 NF _ _ _ _ _ _ _ _ _ _ _ _ _ hw (lv_sub hl [0, 1, 2, 3, 4, 5, 6, 7, 8, 9] rfl) h
      · replace h := itF h c15
        refine lv_iinc (v := (x7 + (-1))) (lv' := [(7, .int (x7 + (-1))), (0, .ref (ad 0)), (1, .int x1), (4, .int x4), (5, .long x5), (8, .int x8), (9, .int x9), (10, .int x10), (11, .long x11), (13, .long x13)]) hx hb dX2_spreadRuns_102 hl (k := 4) rfl rfl (by decide) rfl (fun ls hl => ?_)
        refine lv_iload hx hb dX2_spreadRuns_105 (lv_at hl 6 rfl) ?_
        refine lv_aload_n hx hb dX2_spreadRuns_107 rfl (lv_at hl 1 rfl) ?_
        refine lv_iload hx hb dX2_spreadRuns_108 (lv_at hl 0 rfl) ?_
        obtain ⟨z16, e17, h⟩ := bnd h
        refine k_X2_labelAt_s_ F hw e17 ⟨Nat.le_of_ble_eq_true rfl, Nat.le_of_ble_eq_true rfl⟩ ⟨Nat.zero_le _, Nat.zero_le _⟩ hl.1 (Nat.le_of_ble_eq_true rfl) dX2_spreadRuns_110 ?_
        refine lv_aload_n hx hb dX2_spreadRuns_113 rfl (lv_at hl 1 rfl) ?_
        refine lv_iload hx hb dX2_spreadRuns_114 (lv_at hl 0 rfl) ?_
        refine lv_iconst (v := 1) hx hb dX2_spreadRuns_116 rfl ?_
        refine lv_iadd hx hb dX2_spreadRuns_117 ?_
        obtain ⟨z18, e19, h⟩ := bnd h
        refine k_X2_labelAt_s_ F hw e19 ⟨Nat.le_of_ble_eq_true rfl, Nat.le_of_ble_eq_true rfl⟩ ⟨Nat.zero_le _, Nat.zero_le _⟩ hl.1 (Nat.le_of_ble_eq_true rfl) dX2_spreadRuns_118 ?_
        refine W.lcmp hx hb dX2_spreadRuns_121 ?_
        refine lv_if_eq (tgt := 129) hx hb dX2_spreadRuns_122 rfl (fun c20 => ?_) (fun c20 => ?_)
        · replace h := itT h c20
          refine lv_iconst (v := 0) hx hb dX2_spreadRuns_129 rfl ?_
          refine lv_iadd hx hb dX2_spreadRuns_130 ?_
          refine lv_istore (lv' := [(9, .int (x9 + 0)), (7, .int (x7 + (-1))), (0, .ref (ad 0)), (1, .int x1), (4, .int x4), (5, .long x5), (8, .int x8), (10, .int x10), (11, .long x11), (13, .long x13)]) hx hb dX2_spreadRuns_131 hl (by decide) rfl (fun ls hl => ?_)
          refine lv_goto (tgt := 75) hx hb dX2_spreadRuns_133 rfl ?_
          exact ih _ _ _ _ _ _ _ _ _ _ _ _ _ hw (lv_sub hl [2, 3, 4, 5, 1, 6, 0, 7, 8, 9] rfl) h
        · replace h := itF h c20
          refine lv_iconst (v := 1) hx hb dX2_spreadRuns_125 rfl ?_
          refine lv_goto (tgt := 130) hx hb dX2_spreadRuns_126 rfl ?_
          refine lv_iadd hx hb dX2_spreadRuns_130 ?_
          refine lv_istore (lv' := [(9, .int (x9 + 1)), (7, .int (x7 + (-1))), (0, .ref (ad 0)), (1, .int x1), (4, .int x4), (5, .long x5), (8, .int x8), (10, .int x10), (11, .long x11), (13, .long x13)]) hx hb dX2_spreadRuns_131 hl (by decide) rfl (fun ls hl => ?_)
          refine lv_goto (tgt := 75) hx hb dX2_spreadRuns_133 rfl ?_
          exact ih _ _ _ _ _ _ _ _ _ _ _ _ _ hw (lv_sub hl [2, 3, 4, 5, 1, 6, 0, 7, 8, 9] rfl) h
set_option maxHeartbeats 4000000 in
set_option maxRecDepth 100000 in
theorem w_X2_spreadRuns_49 (F : FX p m c cX2_spreadRuns 15 s args yX2_spreadRuns (some .boolean) RX2 meth) {z : Int32 × SS} : ∀ (n : Nat) (x1 : Int32) (x4 : Int32) (x5 : Int64) (x7 : Int32) (x8 : Int32) (x9 : Int32) (x10 : Int32) (u : SS) (H : Heap) (locs : List Loc) (ls : Array Slot), WD G A s (sw G ad u) H locs → lv_has ls 15 [(0, .ref (ad 0)), (1, .int x1), (4, .int x4), (5, .long x5), (7, .int x7), (8, .int x8), (9, .int x9), (10, .int x10)] → f_X2_spreadRuns_49 n x1 x4 x5 x7 x8 x9 x10 u = some z → W p l e rmX2_spreadRuns s m args below meth c H locs 0 0 (MQ below (QW G (sw G ad z.2) A (some (.int z.1))) args s 0 0 A) (F0 m 49 ls []) := by
  obtain ⟨⟨hx, hb, hml, hown, hts⟩, hr, hlocks⟩ := id F
  intro n
  induction n with
  | zero =>
    intro x1 x4 x5 x7 x8 x9 x10 u H locs ls hw hl h
    rw [f_X2_spreadRuns_49] at h
    cases h
  | succ n ih =>
    intro x1 x4 x5 x7 x8 x9 x10 u H locs ls hw hl h
    rw [f_X2_spreadRuns_49] at h
    refine lv_iload hx hb dX2_spreadRuns_49 (lv_at hl 7 rfl) ?_
    refine lv_iload hx hb dX2_spreadRuns_51 (lv_at hl 2 rfl) ?_
    refine lv_icmp_gt (tgt := 246) hx hb dX2_spreadRuns_53 rfl (fun c9 => ?_) (fun c9 => ?_)
    · replace h := itT h c9
      refine lv_iconst (v := 0) hx hb dX2_spreadRuns_246 rfl ?_
      cases h
      exact retW_z F hw narrow_b0 dX2_spreadRuns_247
    · replace h := itF h c9
      refine lv_lload hx hb dX2_spreadRuns_56 (lv_at hl 3 rfl) ?_
      refine lv_iload hx hb dX2_spreadRuns_58 (lv_at hl 7 rfl) ?_
      refine lv_lshr hx hb dX2_spreadRuns_60 rfl ?_
      refine lv_iload hx hb dX2_spreadRuns_61 (lv_at hl 7 rfl) ?_
      refine lv_lshl hx hb dX2_spreadRuns_63 rfl ?_
      refine lv_lstore (lv' := [(11, .long ((x5 >>> (Int32.toInt64 x10 &&& 63)) <<< (Int32.toInt64 x10 &&& 63))), (0, .ref (ad 0)), (1, .int x1), (4, .int x4), (5, .long x5), (7, .int x7), (8, .int x8), (9, .int x9), (10, .int x10)]) hx hb dX2_spreadRuns_64 hl (by decide) rfl (fun ls hl => ?_)
      refine lv_lload hx hb dX2_spreadRuns_66 (lv_at hl 0 rfl) ?_
      refine lv_lconst (v := 1) hx hb dX2_spreadRuns_68 rfl ?_
      refine lv_iload hx hb dX2_spreadRuns_69 (lv_at hl 8 rfl) ?_
      refine lv_lshl hx hb dX2_spreadRuns_71 rfl ?_
      refine lv_ladd hx hb dX2_spreadRuns_72 ?_
      refine lv_lstore (lv' := [(13, .long (((x5 >>> (Int32.toInt64 x10 &&& 63)) <<< (Int32.toInt64 x10 &&& 63)) + ((1 : Int64) <<< (Int32.toInt64 x10 &&& 63)))), (11, .long ((x5 >>> (Int32.toInt64 x10 &&& 63)) <<< (Int32.toInt64 x10 &&& 63))), (0, .ref (ad 0)), (1, .int x1), (4, .int x4), (5, .long x5), (7, .int x7), (8, .int x8), (9, .int x9), (10, .int x10)]) hx hb dX2_spreadRuns_73 hl (by decide) rfl (fun ls hl => ?_)
      exact w_X2_spreadRuns_75 F (f_X2_spreadRuns_49 n) (fun x1 x4 x5 x7 x8 x9 x10 u H locs ls hw hl h => ih x1 x4 x5 x7 x8 x9 x10 u H locs ls hw hl h) NF _ _ _ _ _ _ _ _ _ _ _ _ _ hw (lv_sub hl [2, 3, 4, 5, 6, 7, 8, 9, 1, 0] rfl) h
set_option maxHeartbeats 4000000 in
set_option maxRecDepth 100000 in
theorem w_X2_spreadRuns_0 (F : FX p m c cX2_spreadRuns 15 s args yX2_spreadRuns (some .boolean) RX2 meth) {z : Int32 × SS} : ∀ (x1 : Int32) (x2 : Int32) (x3 : Int32) (u : SS) (H : Heap) (locs : List Loc) (ls : Array Slot), WD G A s (sw G ad u) H locs → lv_has ls 15 [(0, .ref (ad 0)), (1, .int x1), (2, .int x2), (3, .int x3)] → f_X2_spreadRuns x1 x2 x3 u = some z → W p l e rmX2_spreadRuns s m args below meth c H locs 0 0 (MQ below (QW G (sw G ad z.2) A (some (.int z.1))) args s 0 0 A) (F0 m 0 ls []) := by
  obtain ⟨⟨hx, hb, hml, hown, hts⟩, hr, hlocks⟩ := id F
  intro x1 x2 x3 u H locs ls hw hl h
  unfold f_X2_spreadRuns at h
  refine lv_aload_n hx hb dX2_spreadRuns_0 rfl (lv_at hl 0 rfl) ?_
  refine s_g0_3 F hw dX2_spreadRuns_1 ?_
  refine lv_iload_n hx hb dX2_spreadRuns_4 rfl (lv_at hl 1 rfl) ?_
  obtain ⟨g1, h⟩ := gd h
  refine s_l10 F hw g1 dX2_spreadRuns_5 ?_
  refine lv_istore (lv' := [(4, .int ((u.2.2.1 3) (Int32.toNatClampNeg x1))), (0, .ref (ad 0)), (1, .int x1), (2, .int x2), (3, .int x3)]) hx hb dX2_spreadRuns_6 hl (by decide) rfl (fun ls hl => ?_)
  refine lv_iload_n hx hb dX2_spreadRuns_8 rfl (lv_at hl 3 rfl) ?_
  refine lv_aload_n hx hb dX2_spreadRuns_9 rfl (lv_at hl 1 rfl) ?_
  refine s_g0_0 F hw dX2_spreadRuns_10 ?_
  refine lv_iload_n hx hb dX2_spreadRuns_13 rfl (lv_at hl 2 rfl) ?_
  obtain ⟨z2, e3, h⟩ := bnd h
  refine k_X1_first_s_ F hw e3 ⟨Nat.le_of_ble_eq_true rfl, Nat.le_of_ble_eq_true rfl⟩ ⟨Nat.zero_le _, Nat.zero_le _⟩ hl.1 (Nat.le_of_ble_eq_true rfl) dX2_spreadRuns_14 ?_
  refine lv_icmp_le (tgt := 30) hx hb dX2_spreadRuns_17 rfl (fun c4 => ?_) (fun c4 => ?_)
  · replace h := itT h c4
    refine lv_aload_n hx hb dX2_spreadRuns_30 rfl (lv_at hl 1 rfl) ?_
    refine lv_iload_n hx hb dX2_spreadRuns_31 rfl (lv_at hl 4 rfl) ?_
    obtain ⟨z5, e6, h⟩ := bnd h
    refine k_X2_labelAt_s_ F hw e6 ⟨Nat.le_of_ble_eq_true rfl, Nat.le_of_ble_eq_true rfl⟩ ⟨Nat.zero_le _, Nat.zero_le _⟩ hl.1 (Nat.le_of_ble_eq_true rfl) dX2_spreadRuns_32 ?_
    refine lv_lstore (lv' := [(5, .long z5), (4, .int ((u.2.2.1 3) (Int32.toNatClampNeg x1))), (0, .ref (ad 0)), (1, .int x1), (2, .int x2), (3, .int x3)]) hx hb dX2_spreadRuns_35 hl (by decide) rfl (fun ls hl => ?_)
    refine lv_iload_n hx hb dX2_spreadRuns_37 rfl (lv_at hl 4 rfl) ?_
    refine lv_istore (lv' := [(7, .int x2), (5, .long z5), (4, .int ((u.2.2.1 3) (Int32.toNatClampNeg x1))), (0, .ref (ad 0)), (1, .int x1), (2, .int x2), (3, .int x3)]) hx hb dX2_spreadRuns_38 hl (by decide) rfl (fun ls hl => ?_)
    refine lv_iload_n hx hb dX2_spreadRuns_40 rfl (lv_at hl 6 rfl) ?_
    refine lv_istore (lv' := [(8, .int x3), (7, .int x2), (5, .long z5), (4, .int ((u.2.2.1 3) (Int32.toNatClampNeg x1))), (0, .ref (ad 0)), (1, .int x1), (2, .int x2), (3, .int x3)]) hx hb dX2_spreadRuns_41 hl (by decide) rfl (fun ls hl => ?_)
    refine lv_iconst (v := 1) hx hb dX2_spreadRuns_43 rfl ?_
    refine lv_istore (lv' := [(9, .int 1), (8, .int x3), (7, .int x2), (5, .long z5), (4, .int ((u.2.2.1 3) (Int32.toNatClampNeg x1))), (0, .ref (ad 0)), (1, .int x1), (2, .int x2), (3, .int x3)]) hx hb dX2_spreadRuns_44 hl (by decide) rfl (fun ls hl => ?_)
    refine lv_iconst (v := 1) hx hb dX2_spreadRuns_46 rfl ?_
    refine lv_istore (lv' := [(10, .int 1), (9, .int 1), (8, .int x3), (7, .int x2), (5, .long z5), (4, .int ((u.2.2.1 3) (Int32.toNatClampNeg x1))), (0, .ref (ad 0)), (1, .int x1), (2, .int x2), (3, .int x3)]) hx hb dX2_spreadRuns_47 hl (by decide) rfl (fun ls hl => ?_)
    exact w_X2_spreadRuns_49 F NF _ _ _ _ _ _ _ _ _ _ _ hw (lv_sub hl [6, 7, 5, 4, 3, 2, 1, 0] rfl) h
  · replace h := itF h c4
    refine lv_aload_n hx hb dX2_spreadRuns_20 rfl (lv_at hl 1 rfl) ?_
    refine lv_iload_n hx hb dX2_spreadRuns_21 rfl (lv_at hl 3 rfl) ?_
    refine lv_iconst (v := 1) hx hb dX2_spreadRuns_22 rfl ?_
    refine lv_isub hx hb dX2_spreadRuns_23 ?_
    obtain ⟨z7, e8, h⟩ := bnd h
    refine k_X2_labelAt_s_ F hw e8 ⟨Nat.le_of_ble_eq_true rfl, Nat.le_of_ble_eq_true rfl⟩ ⟨Nat.zero_le _, Nat.zero_le _⟩ hl.1 (Nat.le_of_ble_eq_true rfl) dX2_spreadRuns_24 ?_
    refine lv_goto (tgt := 35) hx hb dX2_spreadRuns_27 rfl ?_
    refine lv_lstore (lv' := [(5, .long z7), (4, .int ((u.2.2.1 3) (Int32.toNatClampNeg x1))), (0, .ref (ad 0)), (1, .int x1), (2, .int x2), (3, .int x3)]) hx hb dX2_spreadRuns_35 hl (by decide) rfl (fun ls hl => ?_)
    refine lv_iload_n hx hb dX2_spreadRuns_37 rfl (lv_at hl 4 rfl) ?_
    refine lv_istore (lv' := [(7, .int x2), (5, .long z7), (4, .int ((u.2.2.1 3) (Int32.toNatClampNeg x1))), (0, .ref (ad 0)), (1, .int x1), (2, .int x2), (3, .int x3)]) hx hb dX2_spreadRuns_38 hl (by decide) rfl (fun ls hl => ?_)
    refine lv_iload_n hx hb dX2_spreadRuns_40 rfl (lv_at hl 6 rfl) ?_
    refine lv_istore (lv' := [(8, .int x3), (7, .int x2), (5, .long z7), (4, .int ((u.2.2.1 3) (Int32.toNatClampNeg x1))), (0, .ref (ad 0)), (1, .int x1), (2, .int x2), (3, .int x3)]) hx hb dX2_spreadRuns_41 hl (by decide) rfl (fun ls hl => ?_)
    refine lv_iconst (v := 1) hx hb dX2_spreadRuns_43 rfl ?_
    refine lv_istore (lv' := [(9, .int 1), (8, .int x3), (7, .int x2), (5, .long z7), (4, .int ((u.2.2.1 3) (Int32.toNatClampNeg x1))), (0, .ref (ad 0)), (1, .int x1), (2, .int x2), (3, .int x3)]) hx hb dX2_spreadRuns_44 hl (by decide) rfl (fun ls hl => ?_)
    refine lv_iconst (v := 1) hx hb dX2_spreadRuns_46 rfl ?_
    refine lv_istore (lv' := [(10, .int 1), (9, .int 1), (8, .int x3), (7, .int x2), (5, .long z7), (4, .int ((u.2.2.1 3) (Int32.toNatClampNeg x1))), (0, .ref (ad 0)), (1, .int x1), (2, .int x2), (3, .int x3)]) hx hb dX2_spreadRuns_47 hl (by decide) rfl (fun ls hl => ?_)
    exact w_X2_spreadRuns_49 F NF _ _ _ _ _ _ _ _ _ _ _ hw (lv_sub hl [6, 7, 5, 4, 3, 2, 1, 0] rfl) h
end
theorem c_X2_spreadRuns {l : Launch} {G : GX} {ad : Nat → Nat} {x1 : Int32} {x2 : Int32} {x3 : Int32} {u : SS} {z : Int32 × SS} (h : f_X2_spreadRuns x1 x2 x3 u = some z) : MW l yX2_spreadRuns cX2_spreadRuns 15 (some .boolean) rmX2_spreadRuns G (sw G ad u) (sw G ad z.2) [.ref (ad 0), .int x1, .int x2, .int x3] (some (.int z.1)) := MW.of (by decide) (Nat.le_of_ble_eq_true rfl) (fun p e s m below meth c ls F hw hl => w_X2_spreadRuns_0 F _ _ _ _ _ _ _ hw hl h)
/-! ===== X2_labelRun ===== -/
theorem dX2_labelRun_0 : decode cX2_labelRun 0 = .ok (.lconst 1, 1) := by decide +kernel
theorem dX2_labelRun_1 : decode cX2_labelRun 1 = .ok (.aload_n 0, 1) := by decide +kernel
theorem dX2_labelRun_2 : decode cX2_labelRun 2 = .ok (.getfield 29, 3) := by decide +kernel
theorem dX2_labelRun_5 : decode cX2_labelRun 5 = .ok (.iload_n 1, 1) := by decide +kernel
theorem dX2_labelRun_6 : decode cX2_labelRun 6 = .ok (.iaload, 1) := by decide +kernel
theorem dX2_labelRun_7 : decode cX2_labelRun 7 = .ok (.lshl, 1) := by decide +kernel
theorem dX2_labelRun_8 : decode cX2_labelRun 8 = .ok (.lstore 4, 2) := by decide +kernel
theorem dX2_labelRun_10 : decode cX2_labelRun 10 = .ok (.iload_n 2, 1) := by decide +kernel
theorem dX2_labelRun_11 : decode cX2_labelRun 11 = .ok (.aload_n 0, 1) := by decide +kernel
theorem dX2_labelRun_12 : decode cX2_labelRun 12 = .ok (.getfield 12, 3) := by decide +kernel
theorem dX2_labelRun_15 : decode cX2_labelRun 15 = .ok (.iload_n 1, 1) := by decide +kernel
theorem dX2_labelRun_16 : decode cX2_labelRun 16 = .ok (.invokevirtual 81, 3) := by decide +kernel
theorem dX2_labelRun_19 : decode cX2_labelRun 19 = .ok (.if_icmp .le 13, 3) := by decide +kernel
theorem dX2_labelRun_22 : decode cX2_labelRun 22 = .ok (.aload_n 0, 1) := by decide +kernel
theorem dX2_labelRun_23 : decode cX2_labelRun 23 = .ok (.iload_n 2, 1) := by decide +kernel
theorem dX2_labelRun_24 : decode cX2_labelRun 24 = .ok (.iconst 1, 1) := by decide +kernel
theorem dX2_labelRun_25 : decode cX2_labelRun 25 = .ok (.isub, 1) := by decide +kernel
theorem dX2_labelRun_26 : decode cX2_labelRun 26 = .ok (.invokevirtual 87, 3) := by decide +kernel
theorem dX2_labelRun_29 : decode cX2_labelRun 29 = .ok (.goto 6, 3) := by decide +kernel
theorem dX2_labelRun_32 : decode cX2_labelRun 32 = .ok (.ldc2_w 79, 3) := by decide +kernel
theorem dX2_labelRun_35 : decode cX2_labelRun 35 = .ok (.lstore 6, 2) := by decide +kernel
theorem dX2_labelRun_37 : decode cX2_labelRun 37 = .ok (.iload_n 3, 1) := by decide +kernel
theorem dX2_labelRun_38 : decode cX2_labelRun 38 = .ok (.aload_n 0, 1) := by decide +kernel
theorem dX2_labelRun_39 : decode cX2_labelRun 39 = .ok (.getfield 12, 3) := by decide +kernel
theorem dX2_labelRun_42 : decode cX2_labelRun 42 = .ok (.iload_n 1, 1) := by decide +kernel
theorem dX2_labelRun_43 : decode cX2_labelRun 43 = .ok (.invokevirtual 84, 3) := by decide +kernel
theorem dX2_labelRun_46 : decode cX2_labelRun 46 = .ok (.if_icmp .ge 11, 3) := by decide +kernel
theorem dX2_labelRun_49 : decode cX2_labelRun 49 = .ok (.aload_n 0, 1) := by decide +kernel
theorem dX2_labelRun_50 : decode cX2_labelRun 50 = .ok (.iload_n 3, 1) := by decide +kernel
theorem dX2_labelRun_51 : decode cX2_labelRun 51 = .ok (.invokevirtual 87, 3) := by decide +kernel
theorem dX2_labelRun_54 : decode cX2_labelRun 54 = .ok (.goto 5, 3) := by decide +kernel
theorem dX2_labelRun_57 : decode cX2_labelRun 57 = .ok (.lload 4, 2) := by decide +kernel
theorem dX2_labelRun_59 : decode cX2_labelRun 59 = .ok (.lstore 8, 2) := by decide +kernel
theorem dX2_labelRun_61 : decode cX2_labelRun 61 = .ok (.lload 8, 2) := by decide +kernel
theorem dX2_labelRun_63 : decode cX2_labelRun 63 = .ok (.lload 6, 2) := by decide +kernel
theorem dX2_labelRun_65 : decode cX2_labelRun 65 = .ok (.lsub, 1) := by decide +kernel
theorem dX2_labelRun_66 : decode cX2_labelRun 66 = .ok (.ldc2_w 183, 3) := by decide +kernel
theorem dX2_labelRun_69 : decode cX2_labelRun 69 = .ok (.lcmp, 1) := by decide +kernel
theorem dX2_labelRun_70 : decode cX2_labelRun 70 = .ok (.ifCond .lt 35, 3) := by decide +kernel
theorem dX2_labelRun_73 : decode cX2_labelRun 73 = .ok (.iload_n 2, 1) := by decide +kernel
theorem dX2_labelRun_74 : decode cX2_labelRun 74 = .ok (.istore 10, 2) := by decide +kernel
theorem dX2_labelRun_76 : decode cX2_labelRun 76 = .ok (.iload 10, 2) := by decide +kernel
theorem dX2_labelRun_78 : decode cX2_labelRun 78 = .ok (.iload_n 3, 1) := by decide +kernel
theorem dX2_labelRun_79 : decode cX2_labelRun 79 = .ok (.if_icmp .ge 24, 3) := by decide +kernel
theorem dX2_labelRun_82 : decode cX2_labelRun 82 = .ok (.aload_n 0, 1) := by decide +kernel
theorem dX2_labelRun_83 : decode cX2_labelRun 83 = .ok (.iload 10, 2) := by decide +kernel
theorem dX2_labelRun_85 : decode cX2_labelRun 85 = .ok (.lload 6, 2) := by decide +kernel
theorem dX2_labelRun_87 : decode cX2_labelRun 87 = .ok (.lload 8, 2) := by decide +kernel
theorem dX2_labelRun_89 : decode cX2_labelRun 89 = .ok (.ladd, 1) := by decide +kernel
theorem dX2_labelRun_90 : decode cX2_labelRun 90 = .ok (.ldc2_w 183, 3) := by decide +kernel
theorem dX2_labelRun_93 : decode cX2_labelRun 93 = .ok (.ldiv, 1) := by decide +kernel
theorem dX2_labelRun_94 : decode cX2_labelRun 94 = .ok (.invokevirtual 170, 3) := by decide +kernel
theorem dX2_labelRun_97 : decode cX2_labelRun 97 = .ok (.iinc 10 1, 3) := by decide +kernel
theorem dX2_labelRun_100 : decode cX2_labelRun 100 = .ok (.goto (-24), 3) := by decide +kernel
theorem dX2_labelRun_103 : decode cX2_labelRun 103 = .ok (.iconst 1, 1) := by decide +kernel
theorem dX2_labelRun_104 : decode cX2_labelRun 104 = .ok (.ireturn, 1) := by decide +kernel
theorem dX2_labelRun_105 : decode cX2_labelRun 105 = .ok (.aload_n 0, 1) := by decide +kernel
theorem dX2_labelRun_106 : decode cX2_labelRun 106 = .ok (.getfield 25, 3) := by decide +kernel
theorem dX2_labelRun_109 : decode cX2_labelRun 109 = .ok (.iload_n 1, 1) := by decide +kernel
theorem dX2_labelRun_110 : decode cX2_labelRun 110 = .ok (.iaload, 1) := by decide +kernel
theorem dX2_labelRun_111 : decode cX2_labelRun 111 = .ok (.ifCond .eq 11, 3) := by decide +kernel
theorem dX2_labelRun_114 : decode cX2_labelRun 114 = .ok (.aload_n 0, 1) := by decide +kernel
theorem dX2_labelRun_115 : decode cX2_labelRun 115 = .ok (.iload_n 1, 1) := by decide +kernel
theorem dX2_labelRun_116 : decode cX2_labelRun 116 = .ok (.iload_n 2, 1) := by decide +kernel
theorem dX2_labelRun_117 : decode cX2_labelRun 117 = .ok (.iload_n 3, 1) := by decide +kernel
theorem dX2_labelRun_118 : decode cX2_labelRun 118 = .ok (.invokevirtual 185, 3) := by decide +kernel
theorem dX2_labelRun_121 : decode cX2_labelRun 121 = .ok (.ireturn, 1) := by decide +kernel
theorem dX2_labelRun_122 : decode cX2_labelRun 122 = .ok (.aload_n 0, 1) := by decide +kernel
theorem dX2_labelRun_123 : decode cX2_labelRun 123 = .ok (.getfield 12, 3) := by decide +kernel
theorem dX2_labelRun_126 : decode cX2_labelRun 126 = .ok (.iload_n 1, 1) := by decide +kernel
theorem dX2_labelRun_127 : decode cX2_labelRun 127 = .ok (.invokevirtual 69, 3) := by decide +kernel
theorem dX2_labelRun_130 : decode cX2_labelRun 130 = .ok (.i2l, 1) := by decide +kernel
theorem dX2_labelRun_131 : decode cX2_labelRun 131 = .ok (.lload 4, 2) := by decide +kernel
theorem dX2_labelRun_133 : decode cX2_labelRun 133 = .ok (.lcmp, 1) := by decide +kernel
theorem dX2_labelRun_134 : decode cX2_labelRun 134 = .ok (.ifCond .le 5, 3) := by decide +kernel
theorem dX2_labelRun_137 : decode cX2_labelRun 137 = .ok (.iconst 0, 1) := by decide +kernel
theorem dX2_labelRun_138 : decode cX2_labelRun 138 = .ok (.ireturn, 1) := by decide +kernel
theorem dX2_labelRun_139 : decode cX2_labelRun 139 = .ok (.aload_n 0, 1) := by decide +kernel
theorem dX2_labelRun_140 : decode cX2_labelRun 140 = .ok (.iload_n 1, 1) := by decide +kernel
theorem dX2_labelRun_141 : decode cX2_labelRun 141 = .ok (.aload_n 0, 1) := by decide +kernel
theorem dX2_labelRun_142 : decode cX2_labelRun 142 = .ok (.getfield 12, 3) := by decide +kernel
theorem dX2_labelRun_145 : decode cX2_labelRun 145 = .ok (.iload_n 1, 1) := by decide +kernel
theorem dX2_labelRun_146 : decode cX2_labelRun 146 = .ok (.invokevirtual 81, 3) := by decide +kernel
theorem dX2_labelRun_149 : decode cX2_labelRun 149 = .ok (.aload_n 0, 1) := by decide +kernel
theorem dX2_labelRun_150 : decode cX2_labelRun 150 = .ok (.getfield 12, 3) := by decide +kernel
theorem dX2_labelRun_153 : decode cX2_labelRun 153 = .ok (.iload_n 1, 1) := by decide +kernel
theorem dX2_labelRun_154 : decode cX2_labelRun 154 = .ok (.invokevirtual 84, 3) := by decide +kernel
theorem dX2_labelRun_157 : decode cX2_labelRun 157 = .ok (.lconst 0, 1) := by decide +kernel
theorem dX2_labelRun_158 : decode cX2_labelRun 158 = .ok (.aload_n 0, 1) := by decide +kernel
theorem dX2_labelRun_159 : decode cX2_labelRun 159 = .ok (.getfield 29, 3) := by decide +kernel
theorem dX2_labelRun_162 : decode cX2_labelRun 162 = .ok (.iload_n 1, 1) := by decide +kernel
theorem dX2_labelRun_163 : decode cX2_labelRun 163 = .ok (.iaload, 1) := by decide +kernel
theorem dX2_labelRun_164 : decode cX2_labelRun 164 = .ok (.aload_n 0, 1) := by decide +kernel
theorem dX2_labelRun_165 : decode cX2_labelRun 165 = .ok (.getfield 12, 3) := by decide +kernel
theorem dX2_labelRun_168 : decode cX2_labelRun 168 = .ok (.iload_n 1, 1) := by decide +kernel
theorem dX2_labelRun_169 : decode cX2_labelRun 169 = .ok (.invokevirtual 69, 3) := by decide +kernel
theorem dX2_labelRun_172 : decode cX2_labelRun 172 = .ok (.invokevirtual 188, 3) := by decide +kernel
theorem dX2_labelRun_175 : decode cX2_labelRun 175 = .ok (.iconst 1, 1) := by decide +kernel
theorem dX2_labelRun_176 : decode cX2_labelRun 176 = .ok (.ireturn, 1) := by decide +kernel
theorem yv_X2_spreadRuns_X2 : YV RX2 185 yX2_spreadRuns cX2_spreadRuns 15 (some .boolean) 3 := ⟨(tw 263 (by decide +kernel) rfl), (tw 2 (by decide +kernel) rfl), (tw 260 (by decide +kernel) rfl), (tw 261 (by decide +kernel) rfl), (tw 262 (by decide +kernel) rfl), by decide +kernel⟩
theorem k_X2_spreadRuns_s_ {p : Program} {l : Launch} {e : Env} {R : Room} {s : State} {m : MethodId} {args : Array Value} {below : List Frame} {meth : Method} {c : Code} {H : Heap} {locs : List Loc} {cells slots : Nat} {Q : State → Prop} {G : GX} {A : Nat → Prop} {ad : Nat → Nat} {u : SS} {cc : ByteArray} {nL pc : Nat} {y : MethodName} {ret : Option FieldType} {ls : Array Slot} {rest : List Value} {x1 : Int32} {x2 : Int32} {x3 : Int32} {z : Int32 × SS} (F : FX p m c cc nL s args y ret RX2 meth) (hw : WD G A s (sw G ad u) H locs) (h : f_X2_spreadRuns x1 x2 x3 u = some z) (hR : rmX2_spreadRuns.frames + 1 ≤ R.frames ∧ 8 + (15 + 11) + rmX2_spreadRuns.locals ≤ R.locals) (hcs : cells ≤ R.cells ∧ slots ≤ R.slots) (hsz : ls.size = nL) (hW : (rest.map fun v => v.category).sum ≤ 8) (hdg : decode cc pc = .ok (.invokevirtual 185, 3)) (kk : ∀ (H : Heap) (locs : List Loc), WD G A s (sw G ad z.2) H locs → W p l e R s m args below meth c H locs cells slots Q (F0 m (pc + 3) ls (.int z.1 :: rest))) : W p l e R s m args below meth c H locs cells slots Q (F0 m pc ls (.int x3 :: .int x2 :: .int x1 :: .ref (ad 0) :: rest)) := callW (runV F yv_X2_spreadRuns_X2 (c_X2_spreadRuns h) hw.1 hw.2.1 hw.2.2.1 rfl rfl rfl ⟨rfl, rfl⟩ hR hcs rfl hsz rfl hW hdg) hw.2.2.2 hw.2.2.1.own_in (fun H1 l1 hP _ hS => kk H1 l1 ⟨hw.1, hP, hw.2.2.1.addr rfl, hS⟩)
def rmX2_labelRun : Room := { frames := 3, cells := 0, slots := 0, locals := 89 }
noncomputable def f_X2_labelRun_76 : Nat → Int32 → Int64 → Int64 → Int32 → SS → Option (Int32 × SS)
  | 0, _, _, _, _, _ => none
  | n + 1, x3, x6, x8, x10, u => (if x3 ≤ x10 then some (1, u) else (f_X2_setLabel x10 ((x6 + x8) / 2) u).bind (fun z36 => f_X2_labelRun_76 n x3 x6 x8 (x10 + 1) z36))
noncomputable def f_X2_labelRun_59 (x1 : Int32) (x2 : Int32) (x3 : Int32) (x4 : Int64) (x6 : Int64) (t0 : Int64) (u : SS) : Option (Int32 × SS) := (if (lg_cmp (t0 - x6) 2) < 0 then (if ix x1 8 = true then (if ((u.2.2.1 2) (Int32.toNatClampNeg x1)) = 0 then (f_X1_length x1 u.1).bind (fun z20 => (if (lg_cmp (Int32.toInt64 z20) x4) ≤ 0 then (f_X1_first x1 u.1).bind (fun z23 => (f_X1_end x1 u.1).bind (fun z25 => (if ix x1 8 = true then (f_X1_length x1 u.1).bind (fun z28 => (f_X2_dealLabels x1 z23 z25 0 ((u.2.2.1 3) (Int32.toNatClampNeg x1)) z28 u).bind (fun z30 => some (1, z30))) else none))) else some (0, u))) else (f_X2_spreadRuns x1 x2 x3 u).bind (fun z32 => (if zb z32.1 = true then some (z32.1, z32.2) else none))) else none) else f_X2_labelRun_76 NF x3 x6 t0 x2 u)
noncomputable def f_X2_labelRun (x1 : Int32) (x2 : Int32) (x3 : Int32) (u : SS) : Option (Int32 × SS) := (if ix x1 8 = true then (f_X1_first x1 u.1).bind (fun z2 => (if x2 ≤ z2 then (f_X1_end x1 u.1).bind (fun z5 => (if z5 ≤ x3 then f_X2_labelRun_59 x1 x2 x3 ((1 : Int64) <<< (Int32.toInt64 ((u.2.2.1 3) (Int32.toNatClampNeg x1)) &&& 63)) (-1) ((1 : Int64) <<< (Int32.toInt64 ((u.2.2.1 3) (Int32.toNatClampNeg x1)) &&& 63)) u else (f_X2_labelAt x3 u).bind (fun z8 => f_X2_labelRun_59 x1 x2 x3 ((1 : Int64) <<< (Int32.toInt64 ((u.2.2.1 3) (Int32.toNatClampNeg x1)) &&& 63)) (-1) z8 u))) else (f_X2_labelAt (x2 - 1) u).bind (fun z10 => (f_X1_end x1 u.1).bind (fun z12 => (if z12 ≤ x3 then f_X2_labelRun_59 x1 x2 x3 ((1 : Int64) <<< (Int32.toInt64 ((u.2.2.1 3) (Int32.toNatClampNeg x1)) &&& 63)) z10 ((1 : Int64) <<< (Int32.toInt64 ((u.2.2.1 3) (Int32.toNatClampNeg x1)) &&& 63)) u else (f_X2_labelAt x3 u).bind (fun z15 => f_X2_labelRun_59 x1 x2 x3 ((1 : Int64) <<< (Int32.toInt64 ((u.2.2.1 3) (Int32.toNatClampNeg x1)) &&& 63)) z10 z15 u)))))) else none)
section
variable {p : Program} {l : Launch} {e : Env} {s : State} {m : MethodId} {args : Array Value} {below : List Frame} {meth : Method} {c : Code}
variable {G : GX} {A : Nat → Prop} {ad : Nat → Nat} 
set_option maxHeartbeats 4000000 in
set_option maxRecDepth 100000 in
theorem w_X2_labelRun_76 (F : FX p m c cX2_labelRun 11 s args yX2_labelRun (some .boolean) RX2 meth) {z : Int32 × SS} : ∀ (n : Nat) (x3 : Int32) (x6 : Int64) (x8 : Int64) (x10 : Int32) (u : SS) (H : Heap) (locs : List Loc) (ls : Array Slot), WD G A s (sw G ad u) H locs → lv_has ls 11 [(0, .ref (ad 0)), (3, .int x3), (6, .long x6), (8, .long x8), (10, .int x10)] → f_X2_labelRun_76 n x3 x6 x8 x10 u = some z → W p l e rmX2_labelRun s m args below meth c H locs 0 0 (MQ below (QW G (sw G ad z.2) A (some (.int z.1))) args s 0 0 A) (F0 m 76 ls []) := by
  obtain ⟨⟨hx, hb, hml, hown, hts⟩, hr, hlocks⟩ := id F
  intro n
  induction n with
  | zero =>
    intro x3 x6 x8 x10 u H locs ls hw hl h
    rw [f_X2_labelRun_76] at h
    cases h
  | succ n ih =>
    intro x3 x6 x8 x10 u H locs ls hw hl h
    rw [f_X2_labelRun_76] at h
    refine lv_iload hx hb dX2_labelRun_76 (lv_at hl 4 rfl) ?_
    refine lv_iload_n hx hb dX2_labelRun_78 rfl (lv_at hl 1 rfl) ?_
    refine lv_icmp_ge (tgt := 103) hx hb dX2_labelRun_79 rfl (fun c35 => ?_) (fun c35 => ?_)
    · replace h := itT h c35
      refine lv_iconst (v := 1) hx hb dX2_labelRun_103 rfl ?_
      cases h
      exact retW_z F hw narrow_b1 dX2_labelRun_104
    · replace h := itF h c35
      refine lv_aload_n hx hb dX2_labelRun_82 rfl (lv_at hl 0 rfl) ?_
      refine lv_iload hx hb dX2_labelRun_83 (lv_at hl 4 rfl) ?_
      refine lv_lload hx hb dX2_labelRun_85 (lv_at hl 2 rfl) ?_
      refine lv_lload hx hb dX2_labelRun_87 (lv_at hl 3 rfl) ?_
      refine lv_ladd hx hb dX2_labelRun_89 ?_
      refine lv_ldc2 (own := RX2) (v := 2) hx hb hown (F.tb (tw 255 (by decide +kernel) rfl)) dX2_labelRun_90 ?_
      refine lv_ldiv hx hb dX2_labelRun_93 (by decide) ?_
      obtain ⟨z36, e37, h⟩ := bnd h
      refine k_X2_setLabel_s_ F hw e37 ⟨Nat.le_of_ble_eq_true rfl, Nat.le_of_ble_eq_true rfl⟩ ⟨Nat.zero_le _, Nat.zero_le _⟩ hl.1 (Nat.le_of_ble_eq_true rfl) dX2_labelRun_94 (fun H locs hw => ?_)
      refine lv_iinc (v := (x10 + 1)) (lv' := [(10, .int (x10 + 1)), (0, .ref (ad 0)), (3, .int x3), (6, .long x6), (8, .long x8)]) hx hb dX2_labelRun_97 hl (k := 4) rfl rfl (by decide) rfl (fun ls hl => ?_)
      refine lv_goto (tgt := 76) hx hb dX2_labelRun_100 rfl ?_
      exact ih _ _ _ _ _ _ _ _ hw (lv_sub hl [1, 2, 3, 4, 0] rfl) h
set_option maxHeartbeats 4000000 in
set_option maxRecDepth 100000 in
theorem w_X2_labelRun_59 (F : FX p m c cX2_labelRun 11 s args yX2_labelRun (some .boolean) RX2 meth) {z : Int32 × SS} : ∀ (x1 : Int32) (x2 : Int32) (x3 : Int32) (x4 : Int64) (x6 : Int64) (t0 : Int64) (u : SS) (H : Heap) (locs : List Loc) (ls : Array Slot), WD G A s (sw G ad u) H locs → lv_has ls 11 [(0, .ref (ad 0)), (1, .int x1), (2, .int x2), (3, .int x3), (4, .long x4), (6, .long x6)] → f_X2_labelRun_59 x1 x2 x3 x4 x6 t0 u = some z → W p l e rmX2_labelRun s m args below meth c H locs 0 0 (MQ below (QW G (sw G ad z.2) A (some (.int z.1))) args s 0 0 A) (F0 m 59 ls [.long t0]) := by
  obtain ⟨⟨hx, hb, hml, hown, hts⟩, hr, hlocks⟩ := id F
  intro x1 x2 x3 x4 x6 t0 u H locs ls hw hl h
  unfold f_X2_labelRun_59 at h
  refine lv_lstore (lv' := [(8, .long t0), (0, .ref (ad 0)), (1, .int x1), (2, .int x2), (3, .int x3), (4, .long x4), (6, .long x6)]) hx hb dX2_labelRun_59 hl (by decide) rfl (fun ls hl => ?_)
  refine lv_lload hx hb dX2_labelRun_61 (lv_at hl 0 rfl) ?_
  refine lv_lload hx hb dX2_labelRun_63 (lv_at hl 6 rfl) ?_
  refine lv_lsub hx hb dX2_labelRun_65 ?_
  refine lv_ldc2 (own := RX2) (v := 2) hx hb hown (F.tb (tw 255 (by decide +kernel) rfl)) dX2_labelRun_66 ?_
  refine W.lcmp hx hb dX2_labelRun_69 ?_
  refine lv_if_lt (tgt := 105) hx hb dX2_labelRun_70 rfl (fun c17 => ?_) (fun c17 => ?_)
  · replace h := itT h c17
    refine lv_aload_n hx hb dX2_labelRun_105 rfl (lv_at hl 1 rfl) ?_
    refine s_g0_2 F hw dX2_labelRun_106 ?_
    refine lv_iload_n hx hb dX2_labelRun_109 rfl (lv_at hl 2 rfl) ?_
    obtain ⟨g18, h⟩ := gd h
    refine s_l9 F hw g18 dX2_labelRun_110 ?_
    refine lv_if_eq (tgt := 122) hx hb dX2_labelRun_111 rfl (fun c19 => ?_) (fun c19 => ?_)
    · replace h := itT h c19
      refine lv_aload_n hx hb dX2_labelRun_122 rfl (lv_at hl 1 rfl) ?_
      refine s_g0_0 F hw dX2_labelRun_123 ?_
      refine lv_iload_n hx hb dX2_labelRun_126 rfl (lv_at hl 2 rfl) ?_
      obtain ⟨z20, e21, h⟩ := bnd h
      refine k_X1_length_s_ F hw e21 ⟨Nat.le_of_ble_eq_true rfl, Nat.le_of_ble_eq_true rfl⟩ ⟨Nat.zero_le _, Nat.zero_le _⟩ hl.1 (Nat.le_of_ble_eq_true rfl) dX2_labelRun_127 ?_
      refine lv_i2l hx hb dX2_labelRun_130 rfl ?_
      refine lv_lload hx hb dX2_labelRun_131 (lv_at hl 5 rfl) ?_
      refine W.lcmp hx hb dX2_labelRun_133 ?_
      refine lv_if_le (tgt := 139) hx hb dX2_labelRun_134 rfl (fun c22 => ?_) (fun c22 => ?_)
      · replace h := itT h c22
        refine lv_aload_n hx hb dX2_labelRun_139 rfl (lv_at hl 1 rfl) ?_
        refine lv_iload_n hx hb dX2_labelRun_140 rfl (lv_at hl 2 rfl) ?_
        refine lv_aload_n hx hb dX2_labelRun_141 rfl (lv_at hl 1 rfl) ?_
        refine s_g0_0 F hw dX2_labelRun_142 ?_
        refine lv_iload_n hx hb dX2_labelRun_145 rfl (lv_at hl 2 rfl) ?_
        obtain ⟨z23, e24, h⟩ := bnd h
        refine k_X1_first_s_ F hw e24 ⟨Nat.le_of_ble_eq_true rfl, Nat.le_of_ble_eq_true rfl⟩ ⟨Nat.zero_le _, Nat.zero_le _⟩ hl.1 (Nat.le_of_ble_eq_true rfl) dX2_labelRun_146 ?_
        refine lv_aload_n hx hb dX2_labelRun_149 rfl (lv_at hl 1 rfl) ?_
        refine s_g0_0 F hw dX2_labelRun_150 ?_
        refine lv_iload_n hx hb dX2_labelRun_153 rfl (lv_at hl 2 rfl) ?_
        obtain ⟨z25, e26, h⟩ := bnd h
        refine k_X1_end_s_ F hw e26 ⟨Nat.le_of_ble_eq_true rfl, Nat.le_of_ble_eq_true rfl⟩ ⟨Nat.zero_le _, Nat.zero_le _⟩ hl.1 (Nat.le_of_ble_eq_true rfl) dX2_labelRun_154 ?_
        refine lv_lconst (v := 0) hx hb dX2_labelRun_157 rfl ?_
        refine lv_aload_n hx hb dX2_labelRun_158 rfl (lv_at hl 1 rfl) ?_
        refine s_g0_3 F hw dX2_labelRun_159 ?_
        refine lv_iload_n hx hb dX2_labelRun_162 rfl (lv_at hl 2 rfl) ?_
        obtain ⟨g27, h⟩ := gd h
        refine s_l10 F hw g27 dX2_labelRun_163 ?_
        refine lv_aload_n hx hb dX2_labelRun_164 rfl (lv_at hl 1 rfl) ?_
        refine s_g0_0 F hw dX2_labelRun_165 ?_
        refine lv_iload_n hx hb dX2_labelRun_168 rfl (lv_at hl 2 rfl) ?_
        obtain ⟨z28, e29, h⟩ := bnd h
        refine k_X1_length_s_ F hw e29 ⟨Nat.le_of_ble_eq_true rfl, Nat.le_of_ble_eq_true rfl⟩ ⟨Nat.zero_le _, Nat.zero_le _⟩ hl.1 (Nat.le_of_ble_eq_true rfl) dX2_labelRun_169 ?_
        obtain ⟨z30, e31, h⟩ := bnd h
        refine k_X2_dealLabels_s_ F hw e31 ⟨Nat.le_of_ble_eq_true rfl, Nat.le_of_ble_eq_true rfl⟩ ⟨Nat.zero_le _, Nat.zero_le _⟩ hl.1 (Nat.le_of_ble_eq_true rfl) dX2_labelRun_172 (fun H locs hw => ?_)
        refine lv_iconst (v := 1) hx hb dX2_labelRun_175 rfl ?_
        cases h
        exact retW_z F hw narrow_b1 dX2_labelRun_176
      · replace h := itF h c22
        refine lv_iconst (v := 0) hx hb dX2_labelRun_137 rfl ?_
        cases h
        exact retW_z F hw narrow_b0 dX2_labelRun_138
    · replace h := itF h c19
      refine lv_aload_n hx hb dX2_labelRun_114 rfl (lv_at hl 1 rfl) ?_
      refine lv_iload_n hx hb dX2_labelRun_115 rfl (lv_at hl 2 rfl) ?_
      refine lv_iload_n hx hb dX2_labelRun_116 rfl (lv_at hl 3 rfl) ?_
      refine lv_iload_n hx hb dX2_labelRun_117 rfl (lv_at hl 4 rfl) ?_
      obtain ⟨z32, e33, h⟩ := bnd h
      refine k_X2_spreadRuns_s_ F hw e33 ⟨Nat.le_of_ble_eq_true rfl, Nat.le_of_ble_eq_true rfl⟩ ⟨Nat.zero_le _, Nat.zero_le _⟩ hl.1 (Nat.le_of_ble_eq_true rfl) dX2_labelRun_118 (fun H locs hw => ?_)
      obtain ⟨g34, h⟩ := gd h
      cases h
      exact retW_z F hw (zb_ok g34) dX2_labelRun_121
  · replace h := itF h c17
    refine lv_iload_n hx hb dX2_labelRun_73 rfl (lv_at hl 3 rfl) ?_
    refine lv_istore (lv' := [(10, .int x2), (8, .long t0), (0, .ref (ad 0)), (1, .int x1), (2, .int x2), (3, .int x3), (4, .long x4), (6, .long x6)]) hx hb dX2_labelRun_74 hl (by decide) rfl (fun ls hl => ?_)
    exact w_X2_labelRun_76 F NF _ _ _ _ _ _ _ _ hw (lv_sub hl [2, 5, 7, 1, 0] rfl) h
set_option maxHeartbeats 4000000 in
set_option maxRecDepth 100000 in
theorem w_X2_labelRun_0 (F : FX p m c cX2_labelRun 11 s args yX2_labelRun (some .boolean) RX2 meth) {z : Int32 × SS} : ∀ (x1 : Int32) (x2 : Int32) (x3 : Int32) (u : SS) (H : Heap) (locs : List Loc) (ls : Array Slot), WD G A s (sw G ad u) H locs → lv_has ls 11 [(0, .ref (ad 0)), (1, .int x1), (2, .int x2), (3, .int x3)] → f_X2_labelRun x1 x2 x3 u = some z → W p l e rmX2_labelRun s m args below meth c H locs 0 0 (MQ below (QW G (sw G ad z.2) A (some (.int z.1))) args s 0 0 A) (F0 m 0 ls []) := by
  obtain ⟨⟨hx, hb, hml, hown, hts⟩, hr, hlocks⟩ := id F
  intro x1 x2 x3 u H locs ls hw hl h
  unfold f_X2_labelRun at h
  refine lv_lconst (v := 1) hx hb dX2_labelRun_0 rfl ?_
  refine lv_aload_n hx hb dX2_labelRun_1 rfl (lv_at hl 0 rfl) ?_
  refine s_g0_3 F hw dX2_labelRun_2 ?_
  refine lv_iload_n hx hb dX2_labelRun_5 rfl (lv_at hl 1 rfl) ?_
  obtain ⟨g1, h⟩ := gd h
  refine s_l10 F hw g1 dX2_labelRun_6 ?_
  refine lv_lshl hx hb dX2_labelRun_7 rfl ?_
  refine lv_lstore (lv' := [(4, .long ((1 : Int64) <<< (Int32.toInt64 ((u.2.2.1 3) (Int32.toNatClampNeg x1)) &&& 63))), (0, .ref (ad 0)), (1, .int x1), (2, .int x2), (3, .int x3)]) hx hb dX2_labelRun_8 hl (by decide) rfl (fun ls hl => ?_)
  refine lv_iload_n hx hb dX2_labelRun_10 rfl (lv_at hl 3 rfl) ?_
  refine lv_aload_n hx hb dX2_labelRun_11 rfl (lv_at hl 1 rfl) ?_
  refine s_g0_0 F hw dX2_labelRun_12 ?_
  refine lv_iload_n hx hb dX2_labelRun_15 rfl (lv_at hl 2 rfl) ?_
  obtain ⟨z2, e3, h⟩ := bnd h
  refine k_X1_first_s_ F hw e3 ⟨Nat.le_of_ble_eq_true rfl, Nat.le_of_ble_eq_true rfl⟩ ⟨Nat.zero_le _, Nat.zero_le _⟩ hl.1 (Nat.le_of_ble_eq_true rfl) dX2_labelRun_16 ?_
  refine lv_icmp_le (tgt := 32) hx hb dX2_labelRun_19 rfl (fun c4 => ?_) (fun c4 => ?_)
  · replace h := itT h c4
    refine lv_ldc2 (own := RX2) (v := (-1)) hx hb hown (F.tb (tw 236 (by decide +kernel) rfl)) dX2_labelRun_32 ?_
    refine lv_lstore (lv' := [(6, .long (-1)), (4, .long ((1 : Int64) <<< (Int32.toInt64 ((u.2.2.1 3) (Int32.toNatClampNeg x1)) &&& 63))), (0, .ref (ad 0)), (1, .int x1), (2, .int x2), (3, .int x3)]) hx hb dX2_labelRun_35 hl (by decide) rfl (fun ls hl => ?_)
    refine lv_iload_n hx hb dX2_labelRun_37 rfl (lv_at hl 5 rfl) ?_
    refine lv_aload_n hx hb dX2_labelRun_38 rfl (lv_at hl 2 rfl) ?_
    refine s_g0_0 F hw dX2_labelRun_39 ?_
    refine lv_iload_n hx hb dX2_labelRun_42 rfl (lv_at hl 3 rfl) ?_
    obtain ⟨z5, e6, h⟩ := bnd h
    refine k_X1_end_s_ F hw e6 ⟨Nat.le_of_ble_eq_true rfl, Nat.le_of_ble_eq_true rfl⟩ ⟨Nat.zero_le _, Nat.zero_le _⟩ hl.1 (Nat.le_of_ble_eq_true rfl) dX2_labelRun_43 ?_
    refine lv_icmp_ge (tgt := 57) hx hb dX2_labelRun_46 rfl (fun c7 => ?_) (fun c7 => ?_)
    · replace h := itT h c7
      refine lv_lload hx hb dX2_labelRun_57 (lv_at hl 1 rfl) ?_
      exact w_X2_labelRun_59 F _ _ _ _ _ _ _ _ _ _ hw (lv_sub hl [2, 3, 4, 5, 1, 0] rfl) h
    · replace h := itF h c7
      refine lv_aload_n hx hb dX2_labelRun_49 rfl (lv_at hl 2 rfl) ?_
      refine lv_iload_n hx hb dX2_labelRun_50 rfl (lv_at hl 5 rfl) ?_
      obtain ⟨z8, e9, h⟩ := bnd h
      refine k_X2_labelAt_s_ F hw e9 ⟨Nat.le_of_ble_eq_true rfl, Nat.le_of_ble_eq_true rfl⟩ ⟨Nat.zero_le _, Nat.zero_le _⟩ hl.1 (Nat.le_of_ble_eq_true rfl) dX2_labelRun_51 ?_
      refine lv_goto (tgt := 59) hx hb dX2_labelRun_54 rfl ?_
      exact w_X2_labelRun_59 F _ _ _ _ _ _ _ _ _ _ hw (lv_sub hl [2, 3, 4, 5, 1, 0] rfl) h
  · replace h := itF h c4
    refine lv_aload_n hx hb dX2_labelRun_22 rfl (lv_at hl 1 rfl) ?_
    refine lv_iload_n hx hb dX2_labelRun_23 rfl (lv_at hl 3 rfl) ?_
    refine lv_iconst (v := 1) hx hb dX2_labelRun_24 rfl ?_
    refine lv_isub hx hb dX2_labelRun_25 ?_
    obtain ⟨z10, e11, h⟩ := bnd h
    refine k_X2_labelAt_s_ F hw e11 ⟨Nat.le_of_ble_eq_true rfl, Nat.le_of_ble_eq_true rfl⟩ ⟨Nat.zero_le _, Nat.zero_le _⟩ hl.1 (Nat.le_of_ble_eq_true rfl) dX2_labelRun_26 ?_
    refine lv_goto (tgt := 35) hx hb dX2_labelRun_29 rfl ?_
    refine lv_lstore (lv' := [(6, .long z10), (4, .long ((1 : Int64) <<< (Int32.toInt64 ((u.2.2.1 3) (Int32.toNatClampNeg x1)) &&& 63))), (0, .ref (ad 0)), (1, .int x1), (2, .int x2), (3, .int x3)]) hx hb dX2_labelRun_35 hl (by decide) rfl (fun ls hl => ?_)
    refine lv_iload_n hx hb dX2_labelRun_37 rfl (lv_at hl 5 rfl) ?_
    refine lv_aload_n hx hb dX2_labelRun_38 rfl (lv_at hl 2 rfl) ?_
    refine s_g0_0 F hw dX2_labelRun_39 ?_
    refine lv_iload_n hx hb dX2_labelRun_42 rfl (lv_at hl 3 rfl) ?_
    obtain ⟨z12, e13, h⟩ := bnd h
    refine k_X1_end_s_ F hw e13 ⟨Nat.le_of_ble_eq_true rfl, Nat.le_of_ble_eq_true rfl⟩ ⟨Nat.zero_le _, Nat.zero_le _⟩ hl.1 (Nat.le_of_ble_eq_true rfl) dX2_labelRun_43 ?_
    refine lv_icmp_ge (tgt := 57) hx hb dX2_labelRun_46 rfl (fun c14 => ?_) (fun c14 => ?_)
    · replace h := itT h c14
      refine lv_lload hx hb dX2_labelRun_57 (lv_at hl 1 rfl) ?_
      exact w_X2_labelRun_59 F _ _ _ _ _ _ _ _ _ _ hw (lv_sub hl [2, 3, 4, 5, 1, 0] rfl) h
    · replace h := itF h c14
      refine lv_aload_n hx hb dX2_labelRun_49 rfl (lv_at hl 2 rfl) ?_
      refine lv_iload_n hx hb dX2_labelRun_50 rfl (lv_at hl 5 rfl) ?_
      obtain ⟨z15, e16, h⟩ := bnd h
      refine k_X2_labelAt_s_ F hw e16 ⟨Nat.le_of_ble_eq_true rfl, Nat.le_of_ble_eq_true rfl⟩ ⟨Nat.zero_le _, Nat.zero_le _⟩ hl.1 (Nat.le_of_ble_eq_true rfl) dX2_labelRun_51 ?_
      refine lv_goto (tgt := 59) hx hb dX2_labelRun_54 rfl ?_
      exact w_X2_labelRun_59 F _ _ _ _ _ _ _ _ _ _ hw (lv_sub hl [2, 3, 4, 5, 1, 0] rfl) h
end
theorem c_X2_labelRun {l : Launch} {G : GX} {ad : Nat → Nat} {x1 : Int32} {x2 : Int32} {x3 : Int32} {u : SS} {z : Int32 × SS} (h : f_X2_labelRun x1 x2 x3 u = some z) : MW l yX2_labelRun cX2_labelRun 11 (some .boolean) rmX2_labelRun G (sw G ad u) (sw G ad z.2) [.ref (ad 0), .int x1, .int x2, .int x3] (some (.int z.1)) := MW.of (by decide) (Nat.le_of_ble_eq_true rfl) (fun p e s m below meth c ls F hw hl => w_X2_labelRun_0 F _ _ _ _ _ _ _ hw hl h)
/-! ===== X2_dealInners ===== -/
theorem dX2_dealInners_0 : decode cX2_dealInners 0 = .ok (.iload_n 2, 1) := by decide +kernel
theorem dX2_dealInners_1 : decode cX2_dealInners 1 = .ok (.istore 4, 2) := by decide +kernel
theorem dX2_dealInners_3 : decode cX2_dealInners 3 = .ok (.iload 4, 2) := by decide +kernel
theorem dX2_dealInners_5 : decode cX2_dealInners 5 = .ok (.iload_n 3, 1) := by decide +kernel
theorem dX2_dealInners_6 : decode cX2_dealInners 6 = .ok (.if_icmp .ge 29, 3) := by decide +kernel
theorem dX2_dealInners_9 : decode cX2_dealInners 9 = .ok (.aload_n 0, 1) := by decide +kernel
theorem dX2_dealInners_10 : decode cX2_dealInners 10 = .ok (.iload 4, 2) := by decide +kernel
theorem dX2_dealInners_12 : decode cX2_dealInners 12 = .ok (.lconst 0, 1) := by decide +kernel
theorem dX2_dealInners_13 : decode cX2_dealInners 13 = .ok (.bipush 8, 2) := by decide +kernel
theorem dX2_dealInners_15 : decode cX2_dealInners 15 = .ok (.iload_n 3, 1) := by decide +kernel
theorem dX2_dealInners_16 : decode cX2_dealInners 16 = .ok (.iload_n 2, 1) := by decide +kernel
theorem dX2_dealInners_17 : decode cX2_dealInners 17 = .ok (.isub, 1) := by decide +kernel
theorem dX2_dealInners_18 : decode cX2_dealInners 18 = .ok (.iload 4, 2) := by decide +kernel
theorem dX2_dealInners_20 : decode cX2_dealInners 20 = .ok (.iload_n 2, 1) := by decide +kernel
theorem dX2_dealInners_21 : decode cX2_dealInners 21 = .ok (.isub, 1) := by decide +kernel
theorem dX2_dealInners_22 : decode cX2_dealInners 22 = .ok (.invokestatic 174, 3) := by decide +kernel
theorem dX2_dealInners_25 : decode cX2_dealInners 25 = .ok (.l2i, 1) := by decide +kernel
theorem dX2_dealInners_26 : decode cX2_dealInners 26 = .ok (.invokevirtual 163, 3) := by decide +kernel
theorem dX2_dealInners_29 : decode cX2_dealInners 29 = .ok (.iinc 4 1, 3) := by decide +kernel
theorem dX2_dealInners_32 : decode cX2_dealInners 32 = .ok (.goto (-29), 3) := by decide +kernel
theorem dX2_dealInners_35 : decode cX2_dealInners 35 = .ok (.aload_n 0, 1) := by decide +kernel
theorem dX2_dealInners_36 : decode cX2_dealInners 36 = .ok (.getfield 32, 3) := by decide +kernel
theorem dX2_dealInners_39 : decode cX2_dealInners 39 = .ok (.iload_n 1, 1) := by decide +kernel
theorem dX2_dealInners_40 : decode cX2_dealInners 40 = .ok (.aload_n 0, 1) := by decide +kernel
theorem dX2_dealInners_41 : decode cX2_dealInners 41 = .ok (.getfield 32, 3) := by decide +kernel
theorem dX2_dealInners_44 : decode cX2_dealInners 44 = .ok (.iload_n 1, 1) := by decide +kernel
theorem dX2_dealInners_45 : decode cX2_dealInners 45 = .ok (.iaload, 1) := by decide +kernel
theorem dX2_dealInners_46 : decode cX2_dealInners 46 = .ok (.iload_n 3, 1) := by decide +kernel
theorem dX2_dealInners_47 : decode cX2_dealInners 47 = .ok (.iload_n 2, 1) := by decide +kernel
theorem dX2_dealInners_48 : decode cX2_dealInners 48 = .ok (.isub, 1) := by decide +kernel
theorem dX2_dealInners_49 : decode cX2_dealInners 49 = .ok (.invokestatic 178, 3) := by decide +kernel
theorem dX2_dealInners_52 : decode cX2_dealInners 52 = .ok (.iastore, 1) := by decide +kernel
theorem dX2_dealInners_53 : decode cX2_dealInners 53 = .ok (.return_, 1) := by decide +kernel
theorem yv_X2_setInner_X2 : YV RX2 163 yX2_setInner cX2_setInner 3 none 2 := ⟨(tw 287 (by decide +kernel) rfl), (tw 2 (by decide +kernel) rfl), (tw 284 (by decide +kernel) rfl), (tw 285 (by decide +kernel) rfl), (tw 286 (by decide +kernel) rfl), by decide +kernel⟩
theorem k_X2_setInner_s_ {p : Program} {l : Launch} {e : Env} {R : Room} {s : State} {m : MethodId} {args : Array Value} {below : List Frame} {meth : Method} {c : Code} {H : Heap} {locs : List Loc} {cells slots : Nat} {Q : State → Prop} {G : GX} {A : Nat → Prop} {ad : Nat → Nat} {u : SS} {cc : ByteArray} {nL pc : Nat} {y : MethodName} {ret : Option FieldType} {ls : Array Slot} {rest : List Value} {x1 : Int32} {x2 : Int32} {z : SS} (F : FX p m c cc nL s args y ret RX2 meth) (hw : WD G A s (sw G ad u) H locs) (h : f_X2_setInner x1 x2 u = some z) (hR : rmX2_setInner.frames + 1 ≤ R.frames ∧ 8 + (3 + 11) + rmX2_setInner.locals ≤ R.locals) (hcs : cells ≤ R.cells ∧ slots ≤ R.slots) (hsz : ls.size = nL) (hW : (rest.map fun v => v.category).sum ≤ 8) (hdg : decode cc pc = .ok (.invokevirtual 163, 3)) (kk : ∀ (H : Heap) (locs : List Loc), WD G A s (sw G ad z) H locs → W p l e R s m args below meth c H locs cells slots Q (F0 m (pc + 3) ls (rest))) : W p l e R s m args below meth c H locs cells slots Q (F0 m pc ls (.int x2 :: .int x1 :: .ref (ad 0) :: rest)) := callW (runV F yv_X2_setInner_X2 (c_X2_setInner h) hw.1 hw.2.1 hw.2.2.1 rfl rfl rfl ⟨rfl, rfl⟩ hR hcs rfl hsz rfl hW hdg) hw.2.2.2 hw.2.2.1.own_in (fun H1 l1 hP _ hS => kk H1 l1 ⟨hw.1, hP, hw.2.2.1.addr rfl, hS⟩)
def rmX2_dealInners : Room := { frames := 1, cells := 0, slots := 0, locals := 24 }
noncomputable def f_X2_dealInners_3 : Nat → Int32 → Int32 → Int32 → Int32 → SS → Option (SS)
  | 0, _, _, _, _, _ => none
  | n + 1, x1, x2, x3, x4, u => (if x3 ≤ x4 then (if ix x1 8 = true then (if ix x1 8 = true then some (sA u 4 (Int32.toNatClampNeg x1) (if ((u.2.2.1 4) (Int32.toNatClampNeg x1)) < (x3 - x2) then (x3 - x2) else ((u.2.2.1 4) (Int32.toNatClampNeg x1)))) else none) else none) else (f_X3_dealt 0 8 (x3 - x2) (x4 - x2)).bind (fun z4 => (f_X2_setInner x4 (Int64.toInt32 z4) u).bind (fun z6 => f_X2_dealInners_3 n x1 x2 x3 (x4 + 1) z6)))
noncomputable def f_X2_dealInners (x1 : Int32) (x2 : Int32) (x3 : Int32) (u : SS) : Option (SS) := f_X2_dealInners_3 NF x1 x2 x3 x2 u
section
variable {p : Program} {l : Launch} {e : Env} {s : State} {m : MethodId} {args : Array Value} {below : List Frame} {meth : Method} {c : Code}
variable {G : GX} {A : Nat → Prop} {ad : Nat → Nat} 
set_option maxHeartbeats 4000000 in
set_option maxRecDepth 100000 in
theorem w_X2_dealInners_3 (F : FX p m c cX2_dealInners 5 s args yX2_dealInners none RX2 meth) {z : SS} : ∀ (n : Nat) (x1 : Int32) (x2 : Int32) (x3 : Int32) (x4 : Int32) (u : SS) (H : Heap) (locs : List Loc) (ls : Array Slot), WD G A s (sw G ad u) H locs → lv_has ls 5 [(0, .ref (ad 0)), (1, .int x1), (2, .int x2), (3, .int x3), (4, .int x4)] → f_X2_dealInners_3 n x1 x2 x3 x4 u = some z → W p l e rmX2_dealInners s m args below meth c H locs 0 0 (MQ below (QW G (sw G ad z) A none) args s 0 0 A) (F0 m 3 ls []) := by
  obtain ⟨⟨hx, hb, hml, hown, hts⟩, hr, hlocks⟩ := id F
  intro n
  induction n with
  | zero =>
    intro x1 x2 x3 x4 u H locs ls hw hl h
    rw [f_X2_dealInners_3] at h
    cases h
  | succ n ih =>
    intro x1 x2 x3 x4 u H locs ls hw hl h
    rw [f_X2_dealInners_3] at h
    refine lv_iload hx hb dX2_dealInners_3 (lv_at hl 4 rfl) ?_
    refine lv_iload_n hx hb dX2_dealInners_5 rfl (lv_at hl 3 rfl) ?_
    refine lv_icmp_ge (tgt := 35) hx hb dX2_dealInners_6 rfl (fun c1 => ?_) (fun c1 => ?_)
    · replace h := itT h c1
      refine lv_aload_n hx hb dX2_dealInners_35 rfl (lv_at hl 0 rfl) ?_
      refine s_g0_4 F hw dX2_dealInners_36 ?_
      refine lv_iload_n hx hb dX2_dealInners_39 rfl (lv_at hl 1 rfl) ?_
      refine lv_aload_n hx hb dX2_dealInners_40 rfl (lv_at hl 0 rfl) ?_
      refine s_g0_4 F hw dX2_dealInners_41 ?_
      refine lv_iload_n hx hb dX2_dealInners_44 rfl (lv_at hl 1 rfl) ?_
      obtain ⟨g2, h⟩ := gd h
      refine s_l11 F hw g2 dX2_dealInners_45 ?_
      refine lv_iload_n hx hb dX2_dealInners_46 rfl (lv_at hl 3 rfl) ?_
      refine lv_iload_n hx hb dX2_dealInners_47 rfl (lv_at hl 2 rfl) ?_
      refine lv_isub hx hb dX2_dealInners_48 ?_
      refine va_mmax hx hb (hml.trans hl.1.symm) hown (F.tb (tw 273 (by decide +kernel) rfl)) (F.tb (tw 274 (by decide +kernel) rfl)) (F.tb (tw 8 (by decide +kernel) rfl)) (F.tb (tw 275 (by decide +kernel) rfl)) (Nat.le_of_ble_eq_true rfl) (Nat.le_of_ble_eq_true rfl) (Nat.zero_le _) (Nat.zero_le _) dX2_dealInners_49 ?_
      obtain ⟨g3, h⟩ := gd h
      refine s_s11 F hw g3 dX2_dealInners_52 (fun H locs hw => ?_)
      cases h
      exact retW_v F hw dX2_dealInners_53
    · replace h := itF h c1
      refine lv_aload_n hx hb dX2_dealInners_9 rfl (lv_at hl 0 rfl) ?_
      refine lv_iload hx hb dX2_dealInners_10 (lv_at hl 4 rfl) ?_
      refine lv_lconst (v := 0) hx hb dX2_dealInners_12 rfl ?_
      refine lv_bipush (v := 8) hx hb dX2_dealInners_13 rfl ?_
      refine lv_iload_n hx hb dX2_dealInners_15 rfl (lv_at hl 3 rfl) ?_
      refine lv_iload_n hx hb dX2_dealInners_16 rfl (lv_at hl 2 rfl) ?_
      refine lv_isub hx hb dX2_dealInners_17 ?_
      refine lv_iload hx hb dX2_dealInners_18 (lv_at hl 4 rfl) ?_
      refine lv_iload_n hx hb dX2_dealInners_20 rfl (lv_at hl 2 rfl) ?_
      refine lv_isub hx hb dX2_dealInners_21 ?_
      obtain ⟨z4, e5, h⟩ := bnd h
      refine k_X3_dealt_s_ F hw e5 ⟨Nat.le_of_ble_eq_true rfl, Nat.le_of_ble_eq_true rfl⟩ ⟨Nat.zero_le _, Nat.zero_le _⟩ hl.1 (Nat.le_of_ble_eq_true rfl) dX2_dealInners_22 ?_
      refine lv_l2i hx hb dX2_dealInners_25 rfl ?_
      obtain ⟨z6, e7, h⟩ := bnd h
      refine k_X2_setInner_s_ F hw e7 ⟨Nat.le_of_ble_eq_true rfl, Nat.le_of_ble_eq_true rfl⟩ ⟨Nat.zero_le _, Nat.zero_le _⟩ hl.1 (Nat.le_of_ble_eq_true rfl) dX2_dealInners_26 (fun H locs hw => ?_)
      refine lv_iinc (v := (x4 + 1)) (lv' := [(4, .int (x4 + 1)), (0, .ref (ad 0)), (1, .int x1), (2, .int x2), (3, .int x3)]) hx hb dX2_dealInners_29 hl (k := 4) rfl rfl (by decide) rfl (fun ls hl => ?_)
      refine lv_goto (tgt := 3) hx hb dX2_dealInners_32 rfl ?_
      exact ih _ _ _ _ _ _ _ _ hw (lv_sub hl [1, 2, 3, 4, 0] rfl) h
set_option maxHeartbeats 4000000 in
set_option maxRecDepth 100000 in
theorem w_X2_dealInners_0 (F : FX p m c cX2_dealInners 5 s args yX2_dealInners none RX2 meth) {z : SS} : ∀ (x1 : Int32) (x2 : Int32) (x3 : Int32) (u : SS) (H : Heap) (locs : List Loc) (ls : Array Slot), WD G A s (sw G ad u) H locs → lv_has ls 5 [(0, .ref (ad 0)), (1, .int x1), (2, .int x2), (3, .int x3)] → f_X2_dealInners x1 x2 x3 u = some z → W p l e rmX2_dealInners s m args below meth c H locs 0 0 (MQ below (QW G (sw G ad z) A none) args s 0 0 A) (F0 m 0 ls []) := by
  obtain ⟨⟨hx, hb, hml, hown, hts⟩, hr, hlocks⟩ := id F
  intro x1 x2 x3 u H locs ls hw hl h
  unfold f_X2_dealInners at h
  refine lv_iload_n hx hb dX2_dealInners_0 rfl (lv_at hl 2 rfl) ?_
  refine lv_istore (lv' := [(4, .int x2), (0, .ref (ad 0)), (1, .int x1), (2, .int x2), (3, .int x3)]) hx hb dX2_dealInners_1 hl (by decide) rfl (fun ls hl => ?_)
  exact w_X2_dealInners_3 F NF _ _ _ _ _ _ _ _ hw (lv_sub hl [1, 2, 3, 4, 0] rfl) h
end
theorem c_X2_dealInners {l : Launch} {G : GX} {ad : Nat → Nat} {x1 : Int32} {x2 : Int32} {x3 : Int32} {u : SS} {z : SS} (h : f_X2_dealInners x1 x2 x3 u = some z) : MW l yX2_dealInners cX2_dealInners 5 none rmX2_dealInners G (sw G ad u) (sw G ad z) [.ref (ad 0), .int x1, .int x2, .int x3] none := MW.of (by decide) (Nat.le_of_ble_eq_true rfl) (fun p e s m below meth c ls F hw hl => w_X2_dealInners_0 F _ _ _ _ _ _ _ hw hl h)
/-! ===== X2_labelWithin ===== -/
theorem dX2_labelWithin_0 : decode cX2_labelWithin 0 = .ok (.iload_n 2, 1) := by decide +kernel
theorem dX2_labelWithin_1 : decode cX2_labelWithin 1 = .ok (.iload_n 3, 1) := by decide +kernel
theorem dX2_labelWithin_2 : decode cX2_labelWithin 2 = .ok (.if_icmp .le 13, 3) := by decide +kernel
theorem dX2_labelWithin_5 : decode cX2_labelWithin 5 = .ok (.aload_n 0, 1) := by decide +kernel
theorem dX2_labelWithin_6 : decode cX2_labelWithin 6 = .ok (.iload_n 2, 1) := by decide +kernel
theorem dX2_labelWithin_7 : decode cX2_labelWithin 7 = .ok (.iconst 1, 1) := by decide +kernel
theorem dX2_labelWithin_8 : decode cX2_labelWithin 8 = .ok (.isub, 1) := by decide +kernel
theorem dX2_labelWithin_9 : decode cX2_labelWithin 9 = .ok (.invokevirtual 160, 3) := by decide +kernel
theorem dX2_labelWithin_12 : decode cX2_labelWithin 12 = .ok (.goto 4, 3) := by decide +kernel
theorem dX2_labelWithin_15 : decode cX2_labelWithin 15 = .ok (.iconst (-1), 1) := by decide +kernel
theorem dX2_labelWithin_16 : decode cX2_labelWithin 16 = .ok (.istore 5, 2) := by decide +kernel
theorem dX2_labelWithin_18 : decode cX2_labelWithin 18 = .ok (.iload_n 2, 1) := by decide +kernel
theorem dX2_labelWithin_19 : decode cX2_labelWithin 19 = .ok (.iconst 1, 1) := by decide +kernel
theorem dX2_labelWithin_20 : decode cX2_labelWithin 20 = .ok (.iadd, 1) := by decide +kernel
theorem dX2_labelWithin_21 : decode cX2_labelWithin 21 = .ok (.iload 4, 2) := by decide +kernel
theorem dX2_labelWithin_23 : decode cX2_labelWithin 23 = .ok (.if_icmp .ge 13, 3) := by decide +kernel
theorem dX2_labelWithin_26 : decode cX2_labelWithin 26 = .ok (.aload_n 0, 1) := by decide +kernel
theorem dX2_labelWithin_27 : decode cX2_labelWithin 27 = .ok (.iload_n 2, 1) := by decide +kernel
theorem dX2_labelWithin_28 : decode cX2_labelWithin 28 = .ok (.iconst 1, 1) := by decide +kernel
theorem dX2_labelWithin_29 : decode cX2_labelWithin 29 = .ok (.iadd, 1) := by decide +kernel
theorem dX2_labelWithin_30 : decode cX2_labelWithin 30 = .ok (.invokevirtual 160, 3) := by decide +kernel
theorem dX2_labelWithin_33 : decode cX2_labelWithin 33 = .ok (.goto 6, 3) := by decide +kernel
theorem dX2_labelWithin_36 : decode cX2_labelWithin 36 = .ok (.sipush 256, 3) := by decide +kernel
theorem dX2_labelWithin_39 : decode cX2_labelWithin 39 = .ok (.istore 6, 2) := by decide +kernel
theorem dX2_labelWithin_41 : decode cX2_labelWithin 41 = .ok (.iload 6, 2) := by decide +kernel
theorem dX2_labelWithin_43 : decode cX2_labelWithin 43 = .ok (.iload 5, 2) := by decide +kernel
theorem dX2_labelWithin_45 : decode cX2_labelWithin 45 = .ok (.isub, 1) := by decide +kernel
theorem dX2_labelWithin_46 : decode cX2_labelWithin 46 = .ok (.iconst 2, 1) := by decide +kernel
theorem dX2_labelWithin_47 : decode cX2_labelWithin 47 = .ok (.if_icmp .lt 18, 3) := by decide +kernel
theorem dX2_labelWithin_50 : decode cX2_labelWithin 50 = .ok (.aload_n 0, 1) := by decide +kernel
theorem dX2_labelWithin_51 : decode cX2_labelWithin 51 = .ok (.iload_n 2, 1) := by decide +kernel
theorem dX2_labelWithin_52 : decode cX2_labelWithin 52 = .ok (.iload 5, 2) := by decide +kernel
theorem dX2_labelWithin_54 : decode cX2_labelWithin 54 = .ok (.iload 6, 2) := by decide +kernel
theorem dX2_labelWithin_56 : decode cX2_labelWithin 56 = .ok (.iadd, 1) := by decide +kernel
theorem dX2_labelWithin_57 : decode cX2_labelWithin 57 = .ok (.iconst 2, 1) := by decide +kernel
theorem dX2_labelWithin_58 : decode cX2_labelWithin 58 = .ok (.idiv, 1) := by decide +kernel
theorem dX2_labelWithin_59 : decode cX2_labelWithin 59 = .ok (.invokevirtual 163, 3) := by decide +kernel
theorem dX2_labelWithin_62 : decode cX2_labelWithin 62 = .ok (.goto 26, 3) := by decide +kernel
theorem dX2_labelWithin_65 : decode cX2_labelWithin 65 = .ok (.aload_n 0, 1) := by decide +kernel
theorem dX2_labelWithin_66 : decode cX2_labelWithin 66 = .ok (.iload_n 1, 1) := by decide +kernel
theorem dX2_labelWithin_67 : decode cX2_labelWithin 67 = .ok (.iload_n 3, 1) := by decide +kernel
theorem dX2_labelWithin_68 : decode cX2_labelWithin 68 = .ok (.iload 4, 2) := by decide +kernel
theorem dX2_labelWithin_70 : decode cX2_labelWithin 70 = .ok (.invokevirtual 167, 3) := by decide +kernel
theorem dX2_labelWithin_73 : decode cX2_labelWithin 73 = .ok (.aload_n 0, 1) := by decide +kernel
theorem dX2_labelWithin_74 : decode cX2_labelWithin 74 = .ok (.dup, 1) := by decide +kernel
theorem dX2_labelWithin_75 : decode cX2_labelWithin 75 = .ok (.getfield 42, 3) := by decide +kernel
theorem dX2_labelWithin_78 : decode cX2_labelWithin 78 = .ok (.iload 4, 2) := by decide +kernel
theorem dX2_labelWithin_80 : decode cX2_labelWithin 80 = .ok (.iload_n 3, 1) := by decide +kernel
theorem dX2_labelWithin_81 : decode cX2_labelWithin 81 = .ok (.isub, 1) := by decide +kernel
theorem dX2_labelWithin_82 : decode cX2_labelWithin 82 = .ok (.iconst 1, 1) := by decide +kernel
theorem dX2_labelWithin_83 : decode cX2_labelWithin 83 = .ok (.isub, 1) := by decide +kernel
theorem dX2_labelWithin_84 : decode cX2_labelWithin 84 = .ok (.iadd, 1) := by decide +kernel
theorem dX2_labelWithin_85 : decode cX2_labelWithin 85 = .ok (.putfield 42, 3) := by decide +kernel
theorem dX2_labelWithin_88 : decode cX2_labelWithin 88 = .ok (.return_, 1) := by decide +kernel
theorem yv_X2_innerAt_X2 : YV RX2 160 yX2_innerAt cX2_innerAt 2 (some .int) 1 := ⟨(tw 283 (by decide +kernel) rfl), (tw 2 (by decide +kernel) rfl), (tw 280 (by decide +kernel) rfl), (tw 281 (by decide +kernel) rfl), (tw 282 (by decide +kernel) rfl), by decide +kernel⟩
theorem k_X2_innerAt_s_ {p : Program} {l : Launch} {e : Env} {R : Room} {s : State} {m : MethodId} {args : Array Value} {below : List Frame} {meth : Method} {c : Code} {H : Heap} {locs : List Loc} {cells slots : Nat} {Q : State → Prop} {G : GX} {A : Nat → Prop} {ad : Nat → Nat} {u : SS} {cc : ByteArray} {nL pc : Nat} {y : MethodName} {ret : Option FieldType} {ls : Array Slot} {rest : List Value} {x1 : Int32} {z : Int32} (F : FX p m c cc nL s args y ret RX2 meth) (hw : WD G A s (sw G ad u) H locs) (h : f_X2_innerAt x1 u = some z) (hR : rmX2_innerAt.frames + 1 ≤ R.frames ∧ 8 + (2 + 11) + rmX2_innerAt.locals ≤ R.locals) (hcs : cells ≤ R.cells ∧ slots ≤ R.slots) (hsz : ls.size = nL) (hW : (rest.map fun v => v.category).sum ≤ 8) (hdg : decode cc pc = .ok (.invokevirtual 160, 3)) (kk : W p l e R s m args below meth c H locs cells slots Q (F0 m (pc + 3) ls (.int z :: rest))) : W p l e R s m args below meth c H locs cells slots Q (F0 m pc ls (.int x1 :: .ref (ad 0) :: rest)) := callO (runV F yv_X2_innerAt_X2 (c_X2_innerAt h) hw.1 hw.2.1 hw.2.2.1 rfl rfl rfl ⟨rfl, rfl⟩ hR hcs rfl hsz rfl hW hdg) kk
theorem yv_X2_dealInners_X2 : YV RX2 167 yX2_dealInners cX2_dealInners 5 none 3 := ⟨(tw 291 (by decide +kernel) rfl), (tw 2 (by decide +kernel) rfl), (tw 288 (by decide +kernel) rfl), (tw 289 (by decide +kernel) rfl), (tw 290 (by decide +kernel) rfl), by decide +kernel⟩
theorem k_X2_dealInners_s_ {p : Program} {l : Launch} {e : Env} {R : Room} {s : State} {m : MethodId} {args : Array Value} {below : List Frame} {meth : Method} {c : Code} {H : Heap} {locs : List Loc} {cells slots : Nat} {Q : State → Prop} {G : GX} {A : Nat → Prop} {ad : Nat → Nat} {u : SS} {cc : ByteArray} {nL pc : Nat} {y : MethodName} {ret : Option FieldType} {ls : Array Slot} {rest : List Value} {x1 : Int32} {x2 : Int32} {x3 : Int32} {z : SS} (F : FX p m c cc nL s args y ret RX2 meth) (hw : WD G A s (sw G ad u) H locs) (h : f_X2_dealInners x1 x2 x3 u = some z) (hR : rmX2_dealInners.frames + 1 ≤ R.frames ∧ 8 + (5 + 11) + rmX2_dealInners.locals ≤ R.locals) (hcs : cells ≤ R.cells ∧ slots ≤ R.slots) (hsz : ls.size = nL) (hW : (rest.map fun v => v.category).sum ≤ 8) (hdg : decode cc pc = .ok (.invokevirtual 167, 3)) (kk : ∀ (H : Heap) (locs : List Loc), WD G A s (sw G ad z) H locs → W p l e R s m args below meth c H locs cells slots Q (F0 m (pc + 3) ls (rest))) : W p l e R s m args below meth c H locs cells slots Q (F0 m pc ls (.int x3 :: .int x2 :: .int x1 :: .ref (ad 0) :: rest)) := callW (runV F yv_X2_dealInners_X2 (c_X2_dealInners h) hw.1 hw.2.1 hw.2.2.1 rfl rfl rfl ⟨rfl, rfl⟩ hR hcs rfl hsz rfl hW hdg) hw.2.2.2 hw.2.2.1.own_in (fun H1 l1 hP _ hS => kk H1 l1 ⟨hw.1, hP, hw.2.2.1.addr rfl, hS⟩)
def rmX2_labelWithin : Room := { frames := 2, cells := 0, slots := 0, locals := 48 }
noncomputable def f_X2_labelWithin_39 (x1 : Int32) (x2 : Int32) (x3 : Int32) (x4 : Int32) (x5 : Int32) (t0 : Int32) (u : SS) : Option (SS) := (if (t0 - x5) < (2 : Int32) then (f_X2_dealInners x1 x3 x4 u).bind (fun z11 => some (sR z11 (z11.2.2.2.2 + ((x4 - x3) - 1)))) else (f_X2_setInner x2 ((x5 + t0) / 2) u).bind (fun z13 => some z13))
noncomputable def f_X2_labelWithin (x1 : Int32) (x2 : Int32) (x3 : Int32) (x4 : Int32) (u : SS) : Option (SS) := (if x2 ≤ x3 then (if x4 ≤ (x2 + 1) then f_X2_labelWithin_39 x1 x2 x3 x4 (-1) 256 u else (f_X2_innerAt (x2 + 1) u).bind (fun z3 => f_X2_labelWithin_39 x1 x2 x3 x4 (-1) z3 u)) else (f_X2_innerAt (x2 - 1) u).bind (fun z5 => (if x4 ≤ (x2 + 1) then f_X2_labelWithin_39 x1 x2 x3 x4 z5 256 u else (f_X2_innerAt (x2 + 1) u).bind (fun z8 => f_X2_labelWithin_39 x1 x2 x3 x4 z5 z8 u))))
section
variable {p : Program} {l : Launch} {e : Env} {s : State} {m : MethodId} {args : Array Value} {below : List Frame} {meth : Method} {c : Code}
variable {G : GX} {A : Nat → Prop} {ad : Nat → Nat} 
set_option maxHeartbeats 4000000 in
set_option maxRecDepth 100000 in
theorem w_X2_labelWithin_39 (F : FX p m c cX2_labelWithin 7 s args yX2_labelWithin none RX2 meth) {z : SS} : ∀ (x1 : Int32) (x2 : Int32) (x3 : Int32) (x4 : Int32) (x5 : Int32) (t0 : Int32) (u : SS) (H : Heap) (locs : List Loc) (ls : Array Slot), WD G A s (sw G ad u) H locs → lv_has ls 7 [(0, .ref (ad 0)), (1, .int x1), (2, .int x2), (3, .int x3), (4, .int x4), (5, .int x5)] → f_X2_labelWithin_39 x1 x2 x3 x4 x5 t0 u = some z → W p l e rmX2_labelWithin s m args below meth c H locs 0 0 (MQ below (QW G (sw G ad z) A none) args s 0 0 A) (F0 m 39 ls [.int t0]) := by
  obtain ⟨⟨hx, hb, hml, hown, hts⟩, hr, hlocks⟩ := id F
  intro x1 x2 x3 x4 x5 t0 u H locs ls hw hl h
  unfold f_X2_labelWithin_39 at h
  refine lv_istore (lv' := [(6, .int t0), (0, .ref (ad 0)), (1, .int x1), (2, .int x2), (3, .int x3), (4, .int x4), (5, .int x5)]) hx hb dX2_labelWithin_39 hl (by decide) rfl (fun ls hl => ?_)
  refine lv_iload hx hb dX2_labelWithin_41 (lv_at hl 0 rfl) ?_
  refine lv_iload hx hb dX2_labelWithin_43 (lv_at hl 6 rfl) ?_
  refine lv_isub hx hb dX2_labelWithin_45 ?_
  refine lv_iconst (v := 2) hx hb dX2_labelWithin_46 rfl ?_
  refine lv_icmp_lt (tgt := 65) hx hb dX2_labelWithin_47 rfl (fun c10 => ?_) (fun c10 => ?_)
  · replace h := itT h c10
    refine lv_aload_n hx hb dX2_labelWithin_65 rfl (lv_at hl 1 rfl) ?_
    refine lv_iload_n hx hb dX2_labelWithin_66 rfl (lv_at hl 2 rfl) ?_
    refine lv_iload_n hx hb dX2_labelWithin_67 rfl (lv_at hl 4 rfl) ?_
    refine lv_iload hx hb dX2_labelWithin_68 (lv_at hl 5 rfl) ?_
    obtain ⟨z11, e12, h⟩ := bnd h
    refine k_X2_dealInners_s_ F hw e12 ⟨Nat.le_of_ble_eq_true rfl, Nat.le_of_ble_eq_true rfl⟩ ⟨Nat.zero_le _, Nat.zero_le _⟩ hl.1 (Nat.le_of_ble_eq_true rfl) dX2_labelWithin_70 (fun H locs hw => ?_)
    refine lv_aload_n hx hb dX2_labelWithin_73 rfl (lv_at hl 1 rfl) ?_
    refine lv_dup hx hb dX2_labelWithin_74 rfl ?_
    refine s_g0_7 F hw dX2_labelWithin_75 ?_
    refine lv_iload hx hb dX2_labelWithin_78 (lv_at hl 5 rfl) ?_
    refine lv_iload_n hx hb dX2_labelWithin_80 rfl (lv_at hl 4 rfl) ?_
    refine lv_isub hx hb dX2_labelWithin_81 ?_
    refine lv_iconst (v := 1) hx hb dX2_labelWithin_82 rfl ?_
    refine lv_isub hx hb dX2_labelWithin_83 ?_
    refine lv_iadd hx hb dX2_labelWithin_84 ?_
    refine s_p0_7 F hw dX2_labelWithin_85 (fun H locs hw => ?_)
    cases h
    exact retW_v F hw dX2_labelWithin_88
  · replace h := itF h c10
    refine lv_aload_n hx hb dX2_labelWithin_50 rfl (lv_at hl 1 rfl) ?_
    refine lv_iload_n hx hb dX2_labelWithin_51 rfl (lv_at hl 3 rfl) ?_
    refine lv_iload hx hb dX2_labelWithin_52 (lv_at hl 6 rfl) ?_
    refine lv_iload hx hb dX2_labelWithin_54 (lv_at hl 0 rfl) ?_
    refine lv_iadd hx hb dX2_labelWithin_56 ?_
    refine lv_iconst (v := 2) hx hb dX2_labelWithin_57 rfl ?_
    refine lv_idiv hx hb dX2_labelWithin_58 (by decide) ?_
    obtain ⟨z13, e14, h⟩ := bnd h
    refine k_X2_setInner_s_ F hw e14 ⟨Nat.le_of_ble_eq_true rfl, Nat.le_of_ble_eq_true rfl⟩ ⟨Nat.zero_le _, Nat.zero_le _⟩ hl.1 (Nat.le_of_ble_eq_true rfl) dX2_labelWithin_59 (fun H locs hw => ?_)
    refine lv_goto (tgt := 88) hx hb dX2_labelWithin_62 rfl ?_
    cases h
    exact retW_v F hw dX2_labelWithin_88
set_option maxHeartbeats 4000000 in
set_option maxRecDepth 100000 in
theorem w_X2_labelWithin_0 (F : FX p m c cX2_labelWithin 7 s args yX2_labelWithin none RX2 meth) {z : SS} : ∀ (x1 : Int32) (x2 : Int32) (x3 : Int32) (x4 : Int32) (u : SS) (H : Heap) (locs : List Loc) (ls : Array Slot), WD G A s (sw G ad u) H locs → lv_has ls 7 [(0, .ref (ad 0)), (1, .int x1), (2, .int x2), (3, .int x3), (4, .int x4)] → f_X2_labelWithin x1 x2 x3 x4 u = some z → W p l e rmX2_labelWithin s m args below meth c H locs 0 0 (MQ below (QW G (sw G ad z) A none) args s 0 0 A) (F0 m 0 ls []) := by
  obtain ⟨⟨hx, hb, hml, hown, hts⟩, hr, hlocks⟩ := id F
  intro x1 x2 x3 x4 u H locs ls hw hl h
  unfold f_X2_labelWithin at h
  refine lv_iload_n hx hb dX2_labelWithin_0 rfl (lv_at hl 2 rfl) ?_
  refine lv_iload_n hx hb dX2_labelWithin_1 rfl (lv_at hl 3 rfl) ?_
  refine lv_icmp_le (tgt := 15) hx hb dX2_labelWithin_2 rfl (fun c1 => ?_) (fun c1 => ?_)
  · replace h := itT h c1
    refine lv_iconst (v := (-1)) hx hb dX2_labelWithin_15 rfl ?_
    refine lv_istore (lv' := [(5, .int (-1)), (0, .ref (ad 0)), (1, .int x1), (2, .int x2), (3, .int x3), (4, .int x4)]) hx hb dX2_labelWithin_16 hl (by decide) rfl (fun ls hl => ?_)
    refine lv_iload_n hx hb dX2_labelWithin_18 rfl (lv_at hl 3 rfl) ?_
    refine lv_iconst (v := 1) hx hb dX2_labelWithin_19 rfl ?_
    refine lv_iadd hx hb dX2_labelWithin_20 ?_
    refine lv_iload hx hb dX2_labelWithin_21 (lv_at hl 5 rfl) ?_
    refine lv_icmp_ge (tgt := 36) hx hb dX2_labelWithin_23 rfl (fun c2 => ?_) (fun c2 => ?_)
    · replace h := itT h c2
      refine lv_sipush (v := 256) hx hb dX2_labelWithin_36 rfl ?_
      exact w_X2_labelWithin_39 F _ _ _ _ _ _ _ _ _ _ hw (lv_sub hl [1, 2, 3, 4, 5, 0] rfl) h
    · replace h := itF h c2
      refine lv_aload_n hx hb dX2_labelWithin_26 rfl (lv_at hl 1 rfl) ?_
      refine lv_iload_n hx hb dX2_labelWithin_27 rfl (lv_at hl 3 rfl) ?_
      refine lv_iconst (v := 1) hx hb dX2_labelWithin_28 rfl ?_
      refine lv_iadd hx hb dX2_labelWithin_29 ?_
      obtain ⟨z3, e4, h⟩ := bnd h
      refine k_X2_innerAt_s_ F hw e4 ⟨Nat.le_of_ble_eq_true rfl, Nat.le_of_ble_eq_true rfl⟩ ⟨Nat.zero_le _, Nat.zero_le _⟩ hl.1 (Nat.le_of_ble_eq_true rfl) dX2_labelWithin_30 ?_
      refine lv_goto (tgt := 39) hx hb dX2_labelWithin_33 rfl ?_
      exact w_X2_labelWithin_39 F _ _ _ _ _ _ _ _ _ _ hw (lv_sub hl [1, 2, 3, 4, 5, 0] rfl) h
  · replace h := itF h c1
    refine lv_aload_n hx hb dX2_labelWithin_5 rfl (lv_at hl 0 rfl) ?_
    refine lv_iload_n hx hb dX2_labelWithin_6 rfl (lv_at hl 2 rfl) ?_
    refine lv_iconst (v := 1) hx hb dX2_labelWithin_7 rfl ?_
    refine lv_isub hx hb dX2_labelWithin_8 ?_
    obtain ⟨z5, e6, h⟩ := bnd h
    refine k_X2_innerAt_s_ F hw e6 ⟨Nat.le_of_ble_eq_true rfl, Nat.le_of_ble_eq_true rfl⟩ ⟨Nat.zero_le _, Nat.zero_le _⟩ hl.1 (Nat.le_of_ble_eq_true rfl) dX2_labelWithin_9 ?_
    refine lv_goto (tgt := 16) hx hb dX2_labelWithin_12 rfl ?_
    refine lv_istore (lv' := [(5, .int z5), (0, .ref (ad 0)), (1, .int x1), (2, .int x2), (3, .int x3), (4, .int x4)]) hx hb dX2_labelWithin_16 hl (by decide) rfl (fun ls hl => ?_)
    refine lv_iload_n hx hb dX2_labelWithin_18 rfl (lv_at hl 3 rfl) ?_
    refine lv_iconst (v := 1) hx hb dX2_labelWithin_19 rfl ?_
    refine lv_iadd hx hb dX2_labelWithin_20 ?_
    refine lv_iload hx hb dX2_labelWithin_21 (lv_at hl 5 rfl) ?_
    refine lv_icmp_ge (tgt := 36) hx hb dX2_labelWithin_23 rfl (fun c7 => ?_) (fun c7 => ?_)
    · replace h := itT h c7
      refine lv_sipush (v := 256) hx hb dX2_labelWithin_36 rfl ?_
      exact w_X2_labelWithin_39 F _ _ _ _ _ _ _ _ _ _ hw (lv_sub hl [1, 2, 3, 4, 5, 0] rfl) h
    · replace h := itF h c7
      refine lv_aload_n hx hb dX2_labelWithin_26 rfl (lv_at hl 1 rfl) ?_
      refine lv_iload_n hx hb dX2_labelWithin_27 rfl (lv_at hl 3 rfl) ?_
      refine lv_iconst (v := 1) hx hb dX2_labelWithin_28 rfl ?_
      refine lv_iadd hx hb dX2_labelWithin_29 ?_
      obtain ⟨z8, e9, h⟩ := bnd h
      refine k_X2_innerAt_s_ F hw e9 ⟨Nat.le_of_ble_eq_true rfl, Nat.le_of_ble_eq_true rfl⟩ ⟨Nat.zero_le _, Nat.zero_le _⟩ hl.1 (Nat.le_of_ble_eq_true rfl) dX2_labelWithin_30 ?_
      refine lv_goto (tgt := 39) hx hb dX2_labelWithin_33 rfl ?_
      exact w_X2_labelWithin_39 F _ _ _ _ _ _ _ _ _ _ hw (lv_sub hl [1, 2, 3, 4, 5, 0] rfl) h
end
theorem c_X2_labelWithin {l : Launch} {G : GX} {ad : Nat → Nat} {x1 : Int32} {x2 : Int32} {x3 : Int32} {x4 : Int32} {u : SS} {z : SS} (h : f_X2_labelWithin x1 x2 x3 x4 u = some z) : MW l yX2_labelWithin cX2_labelWithin 7 none rmX2_labelWithin G (sw G ad u) (sw G ad z) [.ref (ad 0), .int x1, .int x2, .int x3, .int x4] none := MW.of (by decide) (Nat.le_of_ble_eq_true rfl) (fun p e s m below meth c ls F hw hl => w_X2_labelWithin_0 F _ _ _ _ _ _ _ _ hw hl h)
/-! ===== X2_partBlock ===== -/
theorem dX2_partBlock_0 : decode cX2_partBlock 0 = .ok (.iload_n 2, 1) := by decide +kernel
theorem dX2_partBlock_1 : decode cX2_partBlock 1 = .ok (.iconst 5, 1) := by decide +kernel
theorem dX2_partBlock_2 : decode cX2_partBlock 2 = .ok (.iadd, 1) := by decide +kernel
theorem dX2_partBlock_3 : decode cX2_partBlock 3 = .ok (.istore 4, 2) := by decide +kernel
theorem dX2_partBlock_5 : decode cX2_partBlock 5 = .ok (.iload 4, 2) := by decide +kernel
theorem dX2_partBlock_7 : decode cX2_partBlock 7 = .ok (.istore 5, 2) := by decide +kernel
theorem dX2_partBlock_9 : decode cX2_partBlock 9 = .ok (.iload 5, 2) := by decide +kernel
theorem dX2_partBlock_11 : decode cX2_partBlock 11 = .ok (.iload_n 3, 1) := by decide +kernel
theorem dX2_partBlock_12 : decode cX2_partBlock 12 = .ok (.if_icmp .ge 18, 3) := by decide +kernel
theorem dX2_partBlock_15 : decode cX2_partBlock 15 = .ok (.aload_n 0, 1) := by decide +kernel
theorem dX2_partBlock_16 : decode cX2_partBlock 16 = .ok (.iload 5, 2) := by decide +kernel
theorem dX2_partBlock_18 : decode cX2_partBlock 18 = .ok (.ldc2_w 79, 3) := by decide +kernel
theorem dX2_partBlock_21 : decode cX2_partBlock 21 = .ok (.invokevirtual 170, 3) := by decide +kernel
theorem dX2_partBlock_24 : decode cX2_partBlock 24 = .ok (.iinc 5 1, 3) := by decide +kernel
theorem dX2_partBlock_27 : decode cX2_partBlock 27 = .ok (.goto (-18), 3) := by decide +kernel
theorem dX2_partBlock_30 : decode cX2_partBlock 30 = .ok (.aload_n 0, 1) := by decide +kernel
theorem dX2_partBlock_31 : decode cX2_partBlock 31 = .ok (.iload_n 1, 1) := by decide +kernel
theorem dX2_partBlock_32 : decode cX2_partBlock 32 = .ok (.iload 4, 2) := by decide +kernel
theorem dX2_partBlock_34 : decode cX2_partBlock 34 = .ok (.iload_n 3, 1) := by decide +kernel
theorem dX2_partBlock_35 : decode cX2_partBlock 35 = .ok (.invokevirtual 149, 3) := by decide +kernel
theorem dX2_partBlock_38 : decode cX2_partBlock 38 = .ok (.ifCond .ne 5, 3) := by decide +kernel
theorem dX2_partBlock_41 : decode cX2_partBlock 41 = .ok (.iconst 0, 1) := by decide +kernel
theorem dX2_partBlock_42 : decode cX2_partBlock 42 = .ok (.ireturn, 1) := by decide +kernel
theorem dX2_partBlock_43 : decode cX2_partBlock 43 = .ok (.aload_n 0, 1) := by decide +kernel
theorem dX2_partBlock_44 : decode cX2_partBlock 44 = .ok (.iload_n 1, 1) := by decide +kernel
theorem dX2_partBlock_45 : decode cX2_partBlock 45 = .ok (.iload_n 2, 1) := by decide +kernel
theorem dX2_partBlock_46 : decode cX2_partBlock 46 = .ok (.iload 4, 2) := by decide +kernel
theorem dX2_partBlock_48 : decode cX2_partBlock 48 = .ok (.invokevirtual 167, 3) := by decide +kernel
theorem dX2_partBlock_51 : decode cX2_partBlock 51 = .ok (.aload_n 0, 1) := by decide +kernel
theorem dX2_partBlock_52 : decode cX2_partBlock 52 = .ok (.iload_n 1, 1) := by decide +kernel
theorem dX2_partBlock_53 : decode cX2_partBlock 53 = .ok (.iload 4, 2) := by decide +kernel
theorem dX2_partBlock_55 : decode cX2_partBlock 55 = .ok (.iload_n 3, 1) := by decide +kernel
theorem dX2_partBlock_56 : decode cX2_partBlock 56 = .ok (.invokevirtual 167, 3) := by decide +kernel
theorem dX2_partBlock_59 : decode cX2_partBlock 59 = .ok (.aload_n 0, 1) := by decide +kernel
theorem dX2_partBlock_60 : decode cX2_partBlock 60 = .ok (.dup, 1) := by decide +kernel
theorem dX2_partBlock_61 : decode cX2_partBlock 61 = .ok (.getfield 42, 3) := by decide +kernel
theorem dX2_partBlock_64 : decode cX2_partBlock 64 = .ok (.iload_n 3, 1) := by decide +kernel
theorem dX2_partBlock_65 : decode cX2_partBlock 65 = .ok (.iload_n 2, 1) := by decide +kernel
theorem dX2_partBlock_66 : decode cX2_partBlock 66 = .ok (.isub, 1) := by decide +kernel
theorem dX2_partBlock_67 : decode cX2_partBlock 67 = .ok (.iadd, 1) := by decide +kernel
theorem dX2_partBlock_68 : decode cX2_partBlock 68 = .ok (.putfield 42, 3) := by decide +kernel
theorem dX2_partBlock_71 : decode cX2_partBlock 71 = .ok (.iconst 1, 1) := by decide +kernel
theorem dX2_partBlock_72 : decode cX2_partBlock 72 = .ok (.ireturn, 1) := by decide +kernel
theorem yv_X2_labelRun_X2 : YV RX2 149 yX2_labelRun cX2_labelRun 11 (some .boolean) 3 := ⟨(tw 249 (by decide +kernel) rfl), (tw 2 (by decide +kernel) rfl), (tw 246 (by decide +kernel) rfl), (tw 247 (by decide +kernel) rfl), (tw 248 (by decide +kernel) rfl), by decide +kernel⟩
theorem k_X2_labelRun_s_ {p : Program} {l : Launch} {e : Env} {R : Room} {s : State} {m : MethodId} {args : Array Value} {below : List Frame} {meth : Method} {c : Code} {H : Heap} {locs : List Loc} {cells slots : Nat} {Q : State → Prop} {G : GX} {A : Nat → Prop} {ad : Nat → Nat} {u : SS} {cc : ByteArray} {nL pc : Nat} {y : MethodName} {ret : Option FieldType} {ls : Array Slot} {rest : List Value} {x1 : Int32} {x2 : Int32} {x3 : Int32} {z : Int32 × SS} (F : FX p m c cc nL s args y ret RX2 meth) (hw : WD G A s (sw G ad u) H locs) (h : f_X2_labelRun x1 x2 x3 u = some z) (hR : rmX2_labelRun.frames + 1 ≤ R.frames ∧ 8 + (11 + 11) + rmX2_labelRun.locals ≤ R.locals) (hcs : cells ≤ R.cells ∧ slots ≤ R.slots) (hsz : ls.size = nL) (hW : (rest.map fun v => v.category).sum ≤ 8) (hdg : decode cc pc = .ok (.invokevirtual 149, 3)) (kk : ∀ (H : Heap) (locs : List Loc), WD G A s (sw G ad z.2) H locs → W p l e R s m args below meth c H locs cells slots Q (F0 m (pc + 3) ls (.int z.1 :: rest))) : W p l e R s m args below meth c H locs cells slots Q (F0 m pc ls (.int x3 :: .int x2 :: .int x1 :: .ref (ad 0) :: rest)) := callW (runV F yv_X2_labelRun_X2 (c_X2_labelRun h) hw.1 hw.2.1 hw.2.2.1 rfl rfl rfl ⟨rfl, rfl⟩ hR hcs rfl hsz rfl hW hdg) hw.2.2.2 hw.2.2.1.own_in (fun H1 l1 hP _ hS => kk H1 l1 ⟨hw.1, hP, hw.2.2.1.addr rfl, hS⟩)
def rmX2_partBlock : Room := { frames := 4, cells := 0, slots := 0, locals := 119 }
noncomputable def f_X2_partBlock_9 : Nat → Int32 → Int32 → Int32 → Int32 → Int32 → SS → Option (Int32 × SS)
  | 0, _, _, _, _, _, _ => none
  | n + 1, x1, x2, x3, x4, x5, u => (if x3 ≤ x5 then (f_X2_labelRun x1 x4 x3 u).bind (fun z2 => (if z2.1 = 0 then some (0, z2.2) else (f_X2_dealInners x1 x2 x4 z2.2).bind (fun z5 => (f_X2_dealInners x1 x4 x3 z5).bind (fun z7 => some (1, (sR z7 (z7.2.2.2.2 + (x3 - x2)))))))) else (f_X2_setLabel x5 (-1) u).bind (fun z9 => f_X2_partBlock_9 n x1 x2 x3 x4 (x5 + 1) z9))
noncomputable def f_X2_partBlock (x1 : Int32) (x2 : Int32) (x3 : Int32) (u : SS) : Option (Int32 × SS) := f_X2_partBlock_9 NF x1 x2 x3 (x2 + 5) (x2 + 5) u
section
variable {p : Program} {l : Launch} {e : Env} {s : State} {m : MethodId} {args : Array Value} {below : List Frame} {meth : Method} {c : Code}
variable {G : GX} {A : Nat → Prop} {ad : Nat → Nat} 
set_option maxHeartbeats 4000000 in
set_option maxRecDepth 100000 in
theorem w_X2_partBlock_9 (F : FX p m c cX2_partBlock 6 s args yX2_partBlock (some .boolean) RX2 meth) {z : Int32 × SS} : ∀ (n : Nat) (x1 : Int32) (x2 : Int32) (x3 : Int32) (x4 : Int32) (x5 : Int32) (u : SS) (H : Heap) (locs : List Loc) (ls : Array Slot), WD G A s (sw G ad u) H locs → lv_has ls 6 [(0, .ref (ad 0)), (1, .int x1), (2, .int x2), (3, .int x3), (4, .int x4), (5, .int x5)] → f_X2_partBlock_9 n x1 x2 x3 x4 x5 u = some z → W p l e rmX2_partBlock s m args below meth c H locs 0 0 (MQ below (QW G (sw G ad z.2) A (some (.int z.1))) args s 0 0 A) (F0 m 9 ls []) := by
  obtain ⟨⟨hx, hb, hml, hown, hts⟩, hr, hlocks⟩ := id F
  intro n
  induction n with
  | zero =>
    intro x1 x2 x3 x4 x5 u H locs ls hw hl h
    rw [f_X2_partBlock_9] at h
    cases h
  | succ n ih =>
    intro x1 x2 x3 x4 x5 u H locs ls hw hl h
    rw [f_X2_partBlock_9] at h
    refine lv_iload hx hb dX2_partBlock_9 (lv_at hl 5 rfl) ?_
    refine lv_iload_n hx hb dX2_partBlock_11 rfl (lv_at hl 3 rfl) ?_
    refine lv_icmp_ge (tgt := 30) hx hb dX2_partBlock_12 rfl (fun c1 => ?_) (fun c1 => ?_)
    · replace h := itT h c1
      refine lv_aload_n hx hb dX2_partBlock_30 rfl (lv_at hl 0 rfl) ?_
      refine lv_iload_n hx hb dX2_partBlock_31 rfl (lv_at hl 1 rfl) ?_
      refine lv_iload hx hb dX2_partBlock_32 (lv_at hl 4 rfl) ?_
      refine lv_iload_n hx hb dX2_partBlock_34 rfl (lv_at hl 3 rfl) ?_
      obtain ⟨z2, e3, h⟩ := bnd h
      refine k_X2_labelRun_s_ F hw e3 ⟨Nat.le_of_ble_eq_true rfl, Nat.le_of_ble_eq_true rfl⟩ ⟨Nat.zero_le _, Nat.zero_le _⟩ hl.1 (Nat.le_of_ble_eq_true rfl) dX2_partBlock_35 (fun H locs hw => ?_)
      refine lv_if_ne (tgt := 43) hx hb dX2_partBlock_38 rfl (fun c4 => ?_) (fun c4 => ?_)
      · replace h := itF h c4
        refine lv_aload_n hx hb dX2_partBlock_43 rfl (lv_at hl 0 rfl) ?_
        refine lv_iload_n hx hb dX2_partBlock_44 rfl (lv_at hl 1 rfl) ?_
        refine lv_iload_n hx hb dX2_partBlock_45 rfl (lv_at hl 2 rfl) ?_
        refine lv_iload hx hb dX2_partBlock_46 (lv_at hl 4 rfl) ?_
        obtain ⟨z5, e6, h⟩ := bnd h
        refine k_X2_dealInners_s_ F hw e6 ⟨Nat.le_of_ble_eq_true rfl, Nat.le_of_ble_eq_true rfl⟩ ⟨Nat.zero_le _, Nat.zero_le _⟩ hl.1 (Nat.le_of_ble_eq_true rfl) dX2_partBlock_48 (fun H locs hw => ?_)
        refine lv_aload_n hx hb dX2_partBlock_51 rfl (lv_at hl 0 rfl) ?_
        refine lv_iload_n hx hb dX2_partBlock_52 rfl (lv_at hl 1 rfl) ?_
        refine lv_iload hx hb dX2_partBlock_53 (lv_at hl 4 rfl) ?_
        refine lv_iload_n hx hb dX2_partBlock_55 rfl (lv_at hl 3 rfl) ?_
        obtain ⟨z7, e8, h⟩ := bnd h
        refine k_X2_dealInners_s_ F hw e8 ⟨Nat.le_of_ble_eq_true rfl, Nat.le_of_ble_eq_true rfl⟩ ⟨Nat.zero_le _, Nat.zero_le _⟩ hl.1 (Nat.le_of_ble_eq_true rfl) dX2_partBlock_56 (fun H locs hw => ?_)
        refine lv_aload_n hx hb dX2_partBlock_59 rfl (lv_at hl 0 rfl) ?_
        refine lv_dup hx hb dX2_partBlock_60 rfl ?_
        refine s_g0_7 F hw dX2_partBlock_61 ?_
        refine lv_iload_n hx hb dX2_partBlock_64 rfl (lv_at hl 3 rfl) ?_
        refine lv_iload_n hx hb dX2_partBlock_65 rfl (lv_at hl 2 rfl) ?_
        refine lv_isub hx hb dX2_partBlock_66 ?_
        refine lv_iadd hx hb dX2_partBlock_67 ?_
        refine s_p0_7 F hw dX2_partBlock_68 (fun H locs hw => ?_)
        refine lv_iconst (v := 1) hx hb dX2_partBlock_71 rfl ?_
        cases h
        exact retW_z F hw narrow_b1 dX2_partBlock_72
      · replace h := itT h c4
        refine lv_iconst (v := 0) hx hb dX2_partBlock_41 rfl ?_
        cases h
        exact retW_z F hw narrow_b0 dX2_partBlock_42
    · replace h := itF h c1
      refine lv_aload_n hx hb dX2_partBlock_15 rfl (lv_at hl 0 rfl) ?_
      refine lv_iload hx hb dX2_partBlock_16 (lv_at hl 5 rfl) ?_
      refine lv_ldc2 (own := RX2) (v := (-1)) hx hb hown (F.tb (tw 236 (by decide +kernel) rfl)) dX2_partBlock_18 ?_
      obtain ⟨z9, e10, h⟩ := bnd h
      refine k_X2_setLabel_s_ F hw e10 ⟨Nat.le_of_ble_eq_true rfl, Nat.le_of_ble_eq_true rfl⟩ ⟨Nat.zero_le _, Nat.zero_le _⟩ hl.1 (Nat.le_of_ble_eq_true rfl) dX2_partBlock_21 (fun H locs hw => ?_)
      refine lv_iinc (v := (x5 + 1)) (lv' := [(5, .int (x5 + 1)), (0, .ref (ad 0)), (1, .int x1), (2, .int x2), (3, .int x3), (4, .int x4)]) hx hb dX2_partBlock_24 hl (k := 5) rfl rfl (by decide) rfl (fun ls hl => ?_)
      refine lv_goto (tgt := 9) hx hb dX2_partBlock_27 rfl ?_
      exact ih _ _ _ _ _ _ _ _ _ hw (lv_sub hl [1, 2, 3, 4, 5, 0] rfl) h
set_option maxHeartbeats 4000000 in
set_option maxRecDepth 100000 in
theorem w_X2_partBlock_0 (F : FX p m c cX2_partBlock 6 s args yX2_partBlock (some .boolean) RX2 meth) {z : Int32 × SS} : ∀ (x1 : Int32) (x2 : Int32) (x3 : Int32) (u : SS) (H : Heap) (locs : List Loc) (ls : Array Slot), WD G A s (sw G ad u) H locs → lv_has ls 6 [(0, .ref (ad 0)), (1, .int x1), (2, .int x2), (3, .int x3)] → f_X2_partBlock x1 x2 x3 u = some z → W p l e rmX2_partBlock s m args below meth c H locs 0 0 (MQ below (QW G (sw G ad z.2) A (some (.int z.1))) args s 0 0 A) (F0 m 0 ls []) := by
  obtain ⟨⟨hx, hb, hml, hown, hts⟩, hr, hlocks⟩ := id F
  intro x1 x2 x3 u H locs ls hw hl h
  unfold f_X2_partBlock at h
  refine lv_iload_n hx hb dX2_partBlock_0 rfl (lv_at hl 2 rfl) ?_
  refine lv_iconst (v := 5) hx hb dX2_partBlock_1 rfl ?_
  refine lv_iadd hx hb dX2_partBlock_2 ?_
  refine lv_istore (lv' := [(4, .int (x2 + 5)), (0, .ref (ad 0)), (1, .int x1), (2, .int x2), (3, .int x3)]) hx hb dX2_partBlock_3 hl (by decide) rfl (fun ls hl => ?_)
  refine lv_iload hx hb dX2_partBlock_5 (lv_at hl 0 rfl) ?_
  refine lv_istore (lv' := [(5, .int (x2 + 5)), (4, .int (x2 + 5)), (0, .ref (ad 0)), (1, .int x1), (2, .int x2), (3, .int x3)]) hx hb dX2_partBlock_7 hl (by decide) rfl (fun ls hl => ?_)
  exact w_X2_partBlock_9 F NF _ _ _ _ _ _ _ _ _ hw (lv_sub hl [2, 3, 4, 5, 1, 0] rfl) h
end
theorem c_X2_partBlock {l : Launch} {G : GX} {ad : Nat → Nat} {x1 : Int32} {x2 : Int32} {x3 : Int32} {u : SS} {z : Int32 × SS} (h : f_X2_partBlock x1 x2 x3 u = some z) : MW l yX2_partBlock cX2_partBlock 6 (some .boolean) rmX2_partBlock G (sw G ad u) (sw G ad z.2) [.ref (ad 0), .int x1, .int x2, .int x3] (some (.int z.1)) := MW.of (by decide) (Nat.le_of_ble_eq_true rfl) (fun p e s m below meth c ls F hw hl => w_X2_partBlock_0 F _ _ _ _ _ _ _ hw hl h)
/-! ===== X2_bring ===== -/
theorem dX2_bring_0 : decode cX2_bring 0 = .ok (.iload_n 2, 1) := by decide +kernel
theorem dX2_bring_1 : decode cX2_bring 1 = .ok (.aload_n 0, 1) := by decide +kernel
theorem dX2_bring_2 : decode cX2_bring 2 = .ok (.getfield 12, 3) := by decide +kernel
theorem dX2_bring_5 : decode cX2_bring 5 = .ok (.iload_n 1, 1) := by decide +kernel
theorem dX2_bring_6 : decode cX2_bring 6 = .ok (.invokevirtual 81, 3) := by decide +kernel
theorem dX2_bring_9 : decode cX2_bring 9 = .ok (.if_icmp .le 16, 3) := by decide +kernel
theorem dX2_bring_12 : decode cX2_bring 12 = .ok (.aload_n 0, 1) := by decide +kernel
theorem dX2_bring_13 : decode cX2_bring 13 = .ok (.getfield 12, 3) := by decide +kernel
theorem dX2_bring_16 : decode cX2_bring 16 = .ok (.iload_n 2, 1) := by decide +kernel
theorem dX2_bring_17 : decode cX2_bring 17 = .ok (.iconst 1, 1) := by decide +kernel
theorem dX2_bring_18 : decode cX2_bring 18 = .ok (.isub, 1) := by decide +kernel
theorem dX2_bring_19 : decode cX2_bring 19 = .ok (.invokevirtual 117, 3) := by decide +kernel
theorem dX2_bring_22 : decode cX2_bring 22 = .ok (.goto 4, 3) := by decide +kernel
theorem dX2_bring_25 : decode cX2_bring 25 = .ok (.iconst (-1), 1) := by decide +kernel
theorem dX2_bring_26 : decode cX2_bring 26 = .ok (.istore 4, 2) := by decide +kernel
theorem dX2_bring_28 : decode cX2_bring 28 = .ok (.aload_n 0, 1) := by decide +kernel
theorem dX2_bring_29 : decode cX2_bring 29 = .ok (.getfield 12, 3) := by decide +kernel
theorem dX2_bring_32 : decode cX2_bring 32 = .ok (.iload_n 1, 1) := by decide +kernel
theorem dX2_bring_33 : decode cX2_bring 33 = .ok (.iload_n 2, 1) := by decide +kernel
theorem dX2_bring_34 : decode cX2_bring 34 = .ok (.iload_n 3, 1) := by decide +kernel
theorem dX2_bring_35 : decode cX2_bring 35 = .ok (.invokevirtual 143, 3) := by decide +kernel
theorem dX2_bring_38 : decode cX2_bring 38 = .ok (.aload_n 0, 1) := by decide +kernel
theorem dX2_bring_39 : decode cX2_bring 39 = .ok (.getfield 21, 3) := by decide +kernel
theorem dX2_bring_42 : decode cX2_bring 42 = .ok (.iload_n 1, 1) := by decide +kernel
theorem dX2_bring_43 : decode cX2_bring 43 = .ok (.iload 4, 2) := by decide +kernel
theorem dX2_bring_45 : decode cX2_bring 45 = .ok (.iload_n 3, 1) := by decide +kernel
theorem dX2_bring_46 : decode cX2_bring 46 = .ok (.invokevirtual 146, 3) := by decide +kernel
theorem dX2_bring_49 : decode cX2_bring 49 = .ok (.aload_n 0, 1) := by decide +kernel
theorem dX2_bring_50 : decode cX2_bring 50 = .ok (.getfield 35, 3) := by decide +kernel
theorem dX2_bring_53 : decode cX2_bring 53 = .ok (.iload_n 3, 1) := by decide +kernel
theorem dX2_bring_54 : decode cX2_bring 54 = .ok (.ldc2_w 79, 3) := by decide +kernel
theorem dX2_bring_57 : decode cX2_bring 57 = .ok (.lastore, 1) := by decide +kernel
theorem dX2_bring_58 : decode cX2_bring 58 = .ok (.aload_n 0, 1) := by decide +kernel
theorem dX2_bring_59 : decode cX2_bring 59 = .ok (.getfield 39, 3) := by decide +kernel
theorem dX2_bring_62 : decode cX2_bring 62 = .ok (.iload_n 3, 1) := by decide +kernel
theorem dX2_bring_63 : decode cX2_bring 63 = .ok (.sipush 128, 3) := by decide +kernel
theorem dX2_bring_66 : decode cX2_bring 66 = .ok (.iastore, 1) := by decide +kernel
theorem dX2_bring_67 : decode cX2_bring 67 = .ok (.aload_n 0, 1) := by decide +kernel
theorem dX2_bring_68 : decode cX2_bring 68 = .ok (.iload_n 1, 1) := by decide +kernel
theorem dX2_bring_69 : decode cX2_bring 69 = .ok (.invokevirtual 76, 3) := by decide +kernel
theorem dX2_bring_72 : decode cX2_bring 72 = .ok (.ifCond .eq 15, 3) := by decide +kernel
theorem dX2_bring_75 : decode cX2_bring 75 = .ok (.aload_n 0, 1) := by decide +kernel
theorem dX2_bring_76 : decode cX2_bring 76 = .ok (.getfield 12, 3) := by decide +kernel
theorem dX2_bring_79 : decode cX2_bring 79 = .ok (.iload_n 1, 1) := by decide +kernel
theorem dX2_bring_80 : decode cX2_bring 80 = .ok (.invokevirtual 69, 3) := by decide +kernel
theorem dX2_bring_83 : decode cX2_bring 83 = .ok (.iconst 1, 1) := by decide +kernel
theorem dX2_bring_84 : decode cX2_bring 84 = .ok (.if_icmp .ne 13, 3) := by decide +kernel
theorem dX2_bring_87 : decode cX2_bring 87 = .ok (.aload_n 0, 1) := by decide +kernel
theorem dX2_bring_88 : decode cX2_bring 88 = .ok (.iload_n 1, 1) := by decide +kernel
theorem dX2_bring_89 : decode cX2_bring 89 = .ok (.iload_n 2, 1) := by decide +kernel
theorem dX2_bring_90 : decode cX2_bring 90 = .ok (.iload_n 2, 1) := by decide +kernel
theorem dX2_bring_91 : decode cX2_bring 91 = .ok (.iconst 1, 1) := by decide +kernel
theorem dX2_bring_92 : decode cX2_bring 92 = .ok (.iadd, 1) := by decide +kernel
theorem dX2_bring_93 : decode cX2_bring 93 = .ok (.invokevirtual 149, 3) := by decide +kernel
theorem dX2_bring_96 : decode cX2_bring 96 = .ok (.ireturn, 1) := by decide +kernel
theorem dX2_bring_97 : decode cX2_bring 97 = .ok (.iload_n 2, 1) := by decide +kernel
theorem dX2_bring_98 : decode cX2_bring 98 = .ok (.aload_n 0, 1) := by decide +kernel
theorem dX2_bring_99 : decode cX2_bring 99 = .ok (.getfield 12, 3) := by decide +kernel
theorem dX2_bring_102 : decode cX2_bring 102 = .ok (.iload_n 1, 1) := by decide +kernel
theorem dX2_bring_103 : decode cX2_bring 103 = .ok (.invokevirtual 81, 3) := by decide +kernel
theorem dX2_bring_106 : decode cX2_bring 106 = .ok (.if_icmp .le 13, 3) := by decide +kernel
theorem dX2_bring_109 : decode cX2_bring 109 = .ok (.aload_n 0, 1) := by decide +kernel
theorem dX2_bring_110 : decode cX2_bring 110 = .ok (.iload_n 2, 1) := by decide +kernel
theorem dX2_bring_111 : decode cX2_bring 111 = .ok (.iconst 1, 1) := by decide +kernel
theorem dX2_bring_112 : decode cX2_bring 112 = .ok (.isub, 1) := by decide +kernel
theorem dX2_bring_113 : decode cX2_bring 113 = .ok (.invokevirtual 87, 3) := by decide +kernel
theorem dX2_bring_116 : decode cX2_bring 116 = .ok (.goto 10, 3) := by decide +kernel
theorem dX2_bring_119 : decode cX2_bring 119 = .ok (.aload_n 0, 1) := by decide +kernel
theorem dX2_bring_120 : decode cX2_bring 120 = .ok (.iload_n 2, 1) := by decide +kernel
theorem dX2_bring_121 : decode cX2_bring 121 = .ok (.iconst 1, 1) := by decide +kernel
theorem dX2_bring_122 : decode cX2_bring 122 = .ok (.iadd, 1) := by decide +kernel
theorem dX2_bring_123 : decode cX2_bring 123 = .ok (.invokevirtual 87, 3) := by decide +kernel
theorem dX2_bring_126 : decode cX2_bring 126 = .ok (.lstore 5, 2) := by decide +kernel
theorem dX2_bring_128 : decode cX2_bring 128 = .ok (.aload_n 0, 1) := by decide +kernel
theorem dX2_bring_129 : decode cX2_bring 129 = .ok (.getfield 35, 3) := by decide +kernel
theorem dX2_bring_132 : decode cX2_bring 132 = .ok (.iload_n 3, 1) := by decide +kernel
theorem dX2_bring_133 : decode cX2_bring 133 = .ok (.lload 5, 2) := by decide +kernel
theorem dX2_bring_135 : decode cX2_bring 135 = .ok (.lastore, 1) := by decide +kernel
theorem dX2_bring_136 : decode cX2_bring 136 = .ok (.iload_n 2, 1) := by decide +kernel
theorem dX2_bring_137 : decode cX2_bring 137 = .ok (.istore 7, 2) := by decide +kernel
theorem dX2_bring_139 : decode cX2_bring 139 = .ok (.iload 7, 2) := by decide +kernel
theorem dX2_bring_141 : decode cX2_bring 141 = .ok (.aload_n 0, 1) := by decide +kernel
theorem dX2_bring_142 : decode cX2_bring 142 = .ok (.getfield 12, 3) := by decide +kernel
theorem dX2_bring_145 : decode cX2_bring 145 = .ok (.iload_n 1, 1) := by decide +kernel
theorem dX2_bring_146 : decode cX2_bring 146 = .ok (.invokevirtual 81, 3) := by decide +kernel
theorem dX2_bring_149 : decode cX2_bring 149 = .ok (.if_icmp .le 23, 3) := by decide +kernel
theorem dX2_bring_152 : decode cX2_bring 152 = .ok (.aload_n 0, 1) := by decide +kernel
theorem dX2_bring_153 : decode cX2_bring 153 = .ok (.iload 7, 2) := by decide +kernel
theorem dX2_bring_155 : decode cX2_bring 155 = .ok (.iconst 1, 1) := by decide +kernel
theorem dX2_bring_156 : decode cX2_bring 156 = .ok (.isub, 1) := by decide +kernel
theorem dX2_bring_157 : decode cX2_bring 157 = .ok (.invokevirtual 87, 3) := by decide +kernel
theorem dX2_bring_160 : decode cX2_bring 160 = .ok (.lload 5, 2) := by decide +kernel
theorem dX2_bring_162 : decode cX2_bring 162 = .ok (.lcmp, 1) := by decide +kernel
theorem dX2_bring_163 : decode cX2_bring 163 = .ok (.ifCond .ne 9, 3) := by decide +kernel
theorem dX2_bring_166 : decode cX2_bring 166 = .ok (.iinc 7 (-1), 3) := by decide +kernel
theorem dX2_bring_169 : decode cX2_bring 169 = .ok (.goto (-30), 3) := by decide +kernel
theorem dX2_bring_172 : decode cX2_bring 172 = .ok (.iload_n 2, 1) := by decide +kernel
theorem dX2_bring_173 : decode cX2_bring 173 = .ok (.iconst 1, 1) := by decide +kernel
theorem dX2_bring_174 : decode cX2_bring 174 = .ok (.iadd, 1) := by decide +kernel
theorem dX2_bring_175 : decode cX2_bring 175 = .ok (.istore 8, 2) := by decide +kernel
theorem dX2_bring_177 : decode cX2_bring 177 = .ok (.iload 8, 2) := by decide +kernel
theorem dX2_bring_179 : decode cX2_bring 179 = .ok (.aload_n 0, 1) := by decide +kernel
theorem dX2_bring_180 : decode cX2_bring 180 = .ok (.getfield 12, 3) := by decide +kernel
theorem dX2_bring_183 : decode cX2_bring 183 = .ok (.iload_n 1, 1) := by decide +kernel
theorem dX2_bring_184 : decode cX2_bring 184 = .ok (.invokevirtual 84, 3) := by decide +kernel
theorem dX2_bring_187 : decode cX2_bring 187 = .ok (.if_icmp .ge 21, 3) := by decide +kernel
theorem dX2_bring_190 : decode cX2_bring 190 = .ok (.aload_n 0, 1) := by decide +kernel
theorem dX2_bring_191 : decode cX2_bring 191 = .ok (.iload 8, 2) := by decide +kernel
theorem dX2_bring_193 : decode cX2_bring 193 = .ok (.invokevirtual 87, 3) := by decide +kernel
theorem dX2_bring_196 : decode cX2_bring 196 = .ok (.lload 5, 2) := by decide +kernel
theorem dX2_bring_198 : decode cX2_bring 198 = .ok (.lcmp, 1) := by decide +kernel
theorem dX2_bring_199 : decode cX2_bring 199 = .ok (.ifCond .ne 9, 3) := by decide +kernel
theorem dX2_bring_202 : decode cX2_bring 202 = .ok (.iinc 8 1, 3) := by decide +kernel
theorem dX2_bring_205 : decode cX2_bring 205 = .ok (.goto (-28), 3) := by decide +kernel
theorem dX2_bring_208 : decode cX2_bring 208 = .ok (.aload_n 0, 1) := by decide +kernel
theorem dX2_bring_209 : decode cX2_bring 209 = .ok (.iload_n 1, 1) := by decide +kernel
theorem dX2_bring_210 : decode cX2_bring 210 = .ok (.iload_n 2, 1) := by decide +kernel
theorem dX2_bring_211 : decode cX2_bring 211 = .ok (.iload 7, 2) := by decide +kernel
theorem dX2_bring_213 : decode cX2_bring 213 = .ok (.iload 8, 2) := by decide +kernel
theorem dX2_bring_215 : decode cX2_bring 215 = .ok (.invokevirtual 153, 3) := by decide +kernel
theorem dX2_bring_218 : decode cX2_bring 218 = .ok (.iload 8, 2) := by decide +kernel
theorem dX2_bring_220 : decode cX2_bring 220 = .ok (.iload 7, 2) := by decide +kernel
theorem dX2_bring_222 : decode cX2_bring 222 = .ok (.isub, 1) := by decide +kernel
theorem dX2_bring_223 : decode cX2_bring 223 = .ok (.bipush 8, 2) := by decide +kernel
theorem dX2_bring_225 : decode cX2_bring 225 = .ok (.if_icmp .le 15, 3) := by decide +kernel
theorem dX2_bring_228 : decode cX2_bring 228 = .ok (.aload_n 0, 1) := by decide +kernel
theorem dX2_bring_229 : decode cX2_bring 229 = .ok (.iload_n 1, 1) := by decide +kernel
theorem dX2_bring_230 : decode cX2_bring 230 = .ok (.iload 7, 2) := by decide +kernel
theorem dX2_bring_232 : decode cX2_bring 232 = .ok (.iload 8, 2) := by decide +kernel
theorem dX2_bring_234 : decode cX2_bring 234 = .ok (.invokevirtual 157, 3) := by decide +kernel
theorem dX2_bring_237 : decode cX2_bring 237 = .ok (.ifCond .eq 7, 3) := by decide +kernel
theorem dX2_bring_240 : decode cX2_bring 240 = .ok (.iconst 1, 1) := by decide +kernel
theorem dX2_bring_241 : decode cX2_bring 241 = .ok (.goto 4, 3) := by decide +kernel
theorem dX2_bring_244 : decode cX2_bring 244 = .ok (.iconst 0, 1) := by decide +kernel
theorem dX2_bring_245 : decode cX2_bring 245 = .ok (.ireturn, 1) := by decide +kernel
theorem yv_X1_insert_X2 : YV RX2 143 yX1_insert cX1_insert 6 none 3 := ⟨(tw 231 (by decide +kernel) rfl), (tw 3 (by decide +kernel) rfl), (tw 228 (by decide +kernel) rfl), (tw 229 (by decide +kernel) rfl), (tw 230 (by decide +kernel) rfl), by decide +kernel⟩
theorem k_X1_insert_s_ {p : Program} {l : Launch} {e : Env} {R : Room} {s : State} {m : MethodId} {args : Array Value} {below : List Frame} {meth : Method} {c : Code} {H : Heap} {locs : List Loc} {cells slots : Nat} {Q : State → Prop} {G : GX} {A : Nat → Prop} {ad : Nat → Nat} {u : SS} {cc : ByteArray} {nL pc : Nat} {y : MethodName} {ret : Option FieldType} {ls : Array Slot} {rest : List Value} {x1 : Int32} {x2 : Int32} {x3 : Int32} {z : OS} (F : FX p m c cc nL s args y ret RX2 meth) (hw : WD G A s (sw G ad u) H locs) (h : f_X1_insert x1 x2 x3 u.1 = some z) (hR : rmX1_insert.frames + 1 ≤ R.frames ∧ 8 + (6 + 11) + rmX1_insert.locals ≤ R.locals) (hcs : cells ≤ R.cells ∧ slots ≤ R.slots) (hsz : ls.size = nL) (hW : (rest.map fun v => v.category).sum ≤ 8) (hdg : decode cc pc = .ok (.invokevirtual 143, 3)) (kk : ∀ (H : Heap) (locs : List Loc), WD G A s (sw G ad (sO u z)) H locs → W p l e R s m args below meth c H locs cells slots Q (F0 m (pc + 3) ls (rest))) : W p l e R s m args below meth c H locs cells slots Q (F0 m pc ls (.int x3 :: .int x2 :: .int x1 :: .ref (ad 1) :: rest)) := callW (runV F yv_X1_insert_X2 (c_X1_insert h (ad := (fun k => ad (k + 1)))) hw.1 (hw.2.1.sub [1, 2, 3, 4] rfl) (hw.2.2.1.sub [1, 2, 3, 4] (by decide) rfl) rfl rfl rfl ⟨rfl, rfl⟩ hR hcs rfl hsz rfl hW hdg) hw.2.2.2 (hw.2.2.1.sub [1, 2, 3, 4] (by decide) rfl).own_in (fun H1 l1 hP hk hS => kk H1 l1 ⟨hw.1, (joinW hw.2.1 hw.2.2.1 [1, 2, 3, 4] [0, 5, 6, 7, 8, 9, 10, 11, 12, 13] rfl (by decide) hk hP).sub [0, 10, 11, 12, 13, 1, 2, 3, 4, 5, 6, 7, 8, 9] rfl, hw.2.2.1.addr rfl, hS⟩)
theorem s_g0_1 {p : Program} {l : Launch} {e : Env} {R : Room} {s : State} {m : MethodId} {args : Array Value} {below : List Frame} {meth : Method} {c : Code} {H : Heap} {locs : List Loc} {cells slots : Nat} {Q : State → Prop} {G : GX} {A : Nat → Prop} {ad : Nat → Nat} {u : SS} {cc : ByteArray} {nL pc : Nat} {y : MethodName} {ret : Option FieldType} {ls : Array Slot} {rest : List Value} (F : FX p m c cc nL s args y ret RX2 meth) (hw : WD G A s (sw G ad u) H locs) (hdg : decode cc pc = .ok (.getfield 21, 3)) (kk : W p l e R s m args below meth c H locs cells slots Q (F0 m (pc + 3) ls (.ref (ad 5) :: rest))) : W p l e R s m args below meth c H locs cells slots Q (F0 m pc ls (.ref (ad 0) :: rest)) := va_get (D := G.1) (ci := 2) (C := RX2) (T := TX2) (N := 8) (Ts := lw_gt) F.1.1 F.1.2.1 (fun _ h => F.tb h) inX2 F.1.2.2.2.1 hw.1.1 hw.2.1 0 rfl rfl 1 (by decide) (F.tb (tw 69 (by decide +kernel) rfl)) (fun _ h9 => h9) rfl hdg kk
theorem yv_X0_follow_X2 : YV RX2 146 yX0_follow cX0_follow 5 none 3 := ⟨(tw 235 (by decide +kernel) rfl), (tw 5 (by decide +kernel) rfl), (tw 232 (by decide +kernel) rfl), (tw 233 (by decide +kernel) rfl), (tw 234 (by decide +kernel) rfl), by decide +kernel⟩
theorem k_X0_follow_s_ {p : Program} {l : Launch} {e : Env} {R : Room} {s : State} {m : MethodId} {args : Array Value} {below : List Frame} {meth : Method} {c : Code} {H : Heap} {locs : List Loc} {cells slots : Nat} {Q : State → Prop} {G : GX} {A : Nat → Prop} {ad : Nat → Nat} {u : SS} {cc : ByteArray} {nL pc : Nat} {y : MethodName} {ret : Option FieldType} {ls : Array Slot} {rest : List Value} {x1 : Int32} {x2 : Int32} {x3 : Int32} {z : OS} (F : FX p m c cc nL s args y ret RX2 meth) (hw : WD G A s (sw G ad u) H locs) (h : f_X0_follow x1 x2 x3 u.2.1 = some z) (hR : rmX0_follow.frames + 1 ≤ R.frames ∧ 8 + (5 + 11) + rmX0_follow.locals ≤ R.locals) (hcs : cells ≤ R.cells ∧ slots ≤ R.slots) (hsz : ls.size = nL) (hW : (rest.map fun v => v.category).sum ≤ 8) (hdg : decode cc pc = .ok (.invokevirtual 146, 3)) (kk : ∀ (H : Heap) (locs : List Loc), WD G A s (sw G ad (sK u z)) H locs → W p l e R s m args below meth c H locs cells slots Q (F0 m (pc + 3) ls (rest))) : W p l e R s m args below meth c H locs cells slots Q (F0 m pc ls (.int x3 :: .int x2 :: .int x1 :: .ref (ad 5) :: rest)) := callW (runV F yv_X0_follow_X2 (c_X0_follow h (ad := (fun k => ad (k + 5)))) hw.1 (hw.2.1.sub [5, 6, 7, 8] rfl) (hw.2.2.1.sub [5, 6, 7, 8] (by decide) rfl) rfl rfl rfl ⟨rfl, rfl⟩ hR hcs rfl hsz rfl hW hdg) hw.2.2.2 (hw.2.2.1.sub [5, 6, 7, 8] (by decide) rfl).own_in (fun H1 l1 hP hk hS => kk H1 l1 ⟨hw.1, (joinW hw.2.1 hw.2.2.1 [5, 6, 7, 8] [0, 1, 2, 3, 4, 9, 10, 11, 12, 13] rfl (by decide) hk hP).sub [0, 1, 2, 3, 4, 10, 11, 12, 13, 5, 6, 7, 8, 9] rfl, hw.2.2.1.addr rfl, hS⟩)
theorem yv_X2_labelWithin_X2 : YV RX2 153 yX2_labelWithin cX2_labelWithin 7 none 4 := ⟨(tw 279 (by decide +kernel) rfl), (tw 2 (by decide +kernel) rfl), (tw 276 (by decide +kernel) rfl), (tw 277 (by decide +kernel) rfl), (tw 278 (by decide +kernel) rfl), by decide +kernel⟩
theorem k_X2_labelWithin_s_ {p : Program} {l : Launch} {e : Env} {R : Room} {s : State} {m : MethodId} {args : Array Value} {below : List Frame} {meth : Method} {c : Code} {H : Heap} {locs : List Loc} {cells slots : Nat} {Q : State → Prop} {G : GX} {A : Nat → Prop} {ad : Nat → Nat} {u : SS} {cc : ByteArray} {nL pc : Nat} {y : MethodName} {ret : Option FieldType} {ls : Array Slot} {rest : List Value} {x1 : Int32} {x2 : Int32} {x3 : Int32} {x4 : Int32} {z : SS} (F : FX p m c cc nL s args y ret RX2 meth) (hw : WD G A s (sw G ad u) H locs) (h : f_X2_labelWithin x1 x2 x3 x4 u = some z) (hR : rmX2_labelWithin.frames + 1 ≤ R.frames ∧ 8 + (7 + 11) + rmX2_labelWithin.locals ≤ R.locals) (hcs : cells ≤ R.cells ∧ slots ≤ R.slots) (hsz : ls.size = nL) (hW : (rest.map fun v => v.category).sum ≤ 8) (hdg : decode cc pc = .ok (.invokevirtual 153, 3)) (kk : ∀ (H : Heap) (locs : List Loc), WD G A s (sw G ad z) H locs → W p l e R s m args below meth c H locs cells slots Q (F0 m (pc + 3) ls (rest))) : W p l e R s m args below meth c H locs cells slots Q (F0 m pc ls (.int x4 :: .int x3 :: .int x2 :: .int x1 :: .ref (ad 0) :: rest)) := callW (runV F yv_X2_labelWithin_X2 (c_X2_labelWithin h) hw.1 hw.2.1 hw.2.2.1 rfl rfl rfl ⟨rfl, rfl⟩ hR hcs rfl hsz rfl hW hdg) hw.2.2.2 hw.2.2.1.own_in (fun H1 l1 hP _ hS => kk H1 l1 ⟨hw.1, hP, hw.2.2.1.addr rfl, hS⟩)
theorem yv_X2_partBlock_X2 : YV RX2 157 yX2_partBlock cX2_partBlock 6 (some .boolean) 3 := ⟨(tw 295 (by decide +kernel) rfl), (tw 2 (by decide +kernel) rfl), (tw 292 (by decide +kernel) rfl), (tw 293 (by decide +kernel) rfl), (tw 294 (by decide +kernel) rfl), by decide +kernel⟩
theorem k_X2_partBlock_s_ {p : Program} {l : Launch} {e : Env} {R : Room} {s : State} {m : MethodId} {args : Array Value} {below : List Frame} {meth : Method} {c : Code} {H : Heap} {locs : List Loc} {cells slots : Nat} {Q : State → Prop} {G : GX} {A : Nat → Prop} {ad : Nat → Nat} {u : SS} {cc : ByteArray} {nL pc : Nat} {y : MethodName} {ret : Option FieldType} {ls : Array Slot} {rest : List Value} {x1 : Int32} {x2 : Int32} {x3 : Int32} {z : Int32 × SS} (F : FX p m c cc nL s args y ret RX2 meth) (hw : WD G A s (sw G ad u) H locs) (h : f_X2_partBlock x1 x2 x3 u = some z) (hR : rmX2_partBlock.frames + 1 ≤ R.frames ∧ 8 + (6 + 11) + rmX2_partBlock.locals ≤ R.locals) (hcs : cells ≤ R.cells ∧ slots ≤ R.slots) (hsz : ls.size = nL) (hW : (rest.map fun v => v.category).sum ≤ 8) (hdg : decode cc pc = .ok (.invokevirtual 157, 3)) (kk : ∀ (H : Heap) (locs : List Loc), WD G A s (sw G ad z.2) H locs → W p l e R s m args below meth c H locs cells slots Q (F0 m (pc + 3) ls (.int z.1 :: rest))) : W p l e R s m args below meth c H locs cells slots Q (F0 m pc ls (.int x3 :: .int x2 :: .int x1 :: .ref (ad 0) :: rest)) := callW (runV F yv_X2_partBlock_X2 (c_X2_partBlock h) hw.1 hw.2.1 hw.2.2.1 rfl rfl rfl ⟨rfl, rfl⟩ hR hcs rfl hsz rfl hW hdg) hw.2.2.2 hw.2.2.1.own_in (fun H1 l1 hP _ hS => kk H1 l1 ⟨hw.1, hP, hw.2.2.1.addr rfl, hS⟩)
def rmX2_bring : Room := { frames := 5, cells := 0, slots := 0, locals := 144 }
noncomputable def f_X2_bring_208 (x1 : Int32) (x2 : Int32) (x7 : Int32) (x8 : Int32) (u : SS) : Option (Int32 × SS) := (f_X2_labelWithin x1 x2 x7 x8 u).bind (fun z45 => (if (x8 - x7) ≤ (8 : Int32) then some (1, z45) else (f_X2_partBlock x1 x7 x8 z45).bind (fun z48 => (if z48.1 = 0 then some (0, z48.2) else some (1, z48.2)))))
noncomputable def f_X2_bring_177 : Nat → Int32 → Int32 → Int64 → Int32 → Int32 → SS → Option (Int32 × SS)
  | 0, _, _, _, _, _, _ => none
  | n + 1, x1, x2, x5, x7, x8, u => (f_X1_end x1 u.1).bind (fun z39 => (if z39 ≤ x8 then f_X2_bring_208 x1 x2 x7 x8 u else (f_X2_labelAt x8 u).bind (fun z42 => (if (lg_cmp z42 x5) = 0 then f_X2_bring_177 n x1 x2 x5 x7 (x8 + 1) u else f_X2_bring_208 x1 x2 x7 x8 u))))
noncomputable def f_X2_bring_139 : Nat → Int32 → Int32 → Int64 → Int32 → SS → Option (Int32 × SS)
  | 0, _, _, _, _, _ => none
  | n + 1, x1, x2, x5, x7, u => (f_X1_first x1 u.1).bind (fun z33 => (if x7 ≤ z33 then f_X2_bring_177 NF x1 x2 x5 x7 (x2 + 1) u else (f_X2_labelAt (x7 - 1) u).bind (fun z36 => (if (lg_cmp z36 x5) = 0 then f_X2_bring_139 n x1 x2 x5 (x7 + (-1)) u else f_X2_bring_177 NF x1 x2 x5 x7 (x2 + 1) u))))
noncomputable def f_X2_bring_26 (x1 : Int32) (x2 : Int32) (x3 : Int32) (t0 : Int32) (u : SS) : Option (Int32 × SS) := (f_X1_insert x1 x2 x3 u.1).bind (fun z6 => (f_X0_follow x1 t0 x3 (sO u z6).2.1).bind (fun z8 => (if ix x3 600 = true then (if ix x3 600 = true then (f_X2_hasBlocks x1 (sA (sL (sK (sO u z6) z8) (Int32.toNatClampNeg x3) (-1)) 6 (Int32.toNatClampNeg x3) 128)).bind (fun z12 => (if z12 = 0 then (f_X2_labelRun x1 x2 (x2 + 1) (sA (sL (sK (sO u z6) z8) (Int32.toNatClampNeg x3) (-1)) 6 (Int32.toNatClampNeg x3) 128)).bind (fun z15 => (if zb z15.1 = true then some (z15.1, z15.2) else none)) else (f_X1_length x1 (sA (sL (sK (sO u z6) z8) (Int32.toNatClampNeg x3) (-1)) 6 (Int32.toNatClampNeg x3) 128).1).bind (fun z18 => (if z18 = (1 : Int32) then (f_X2_labelRun x1 x2 (x2 + 1) (sA (sL (sK (sO u z6) z8) (Int32.toNatClampNeg x3) (-1)) 6 (Int32.toNatClampNeg x3) 128)).bind (fun z30 => (if zb z30.1 = true then some (z30.1, z30.2) else none)) else (f_X1_first x1 (sA (sL (sK (sO u z6) z8) (Int32.toNatClampNeg x3) (-1)) 6 (Int32.toNatClampNeg x3) 128).1).bind (fun z21 => (if x2 ≤ z21 then (f_X2_labelAt (x2 + 1) (sA (sL (sK (sO u z6) z8) (Int32.toNatClampNeg x3) (-1)) 6 (Int32.toNatClampNeg x3) 128)).bind (fun z24 => (if ix x3 600 = true then f_X2_bring_139 NF x1 x2 z24 x2 (sL (sA (sL (sK (sO u z6) z8) (Int32.toNatClampNeg x3) (-1)) 6 (Int32.toNatClampNeg x3) 128) (Int32.toNatClampNeg x3) z24) else none)) else (f_X2_labelAt (x2 - 1) (sA (sL (sK (sO u z6) z8) (Int32.toNatClampNeg x3) (-1)) 6 (Int32.toNatClampNeg x3) 128)).bind (fun z27 => (if ix x3 600 = true then f_X2_bring_139 NF x1 x2 z27 x2 (sL (sA (sL (sK (sO u z6) z8) (Int32.toNatClampNeg x3) (-1)) 6 (Int32.toNatClampNeg x3) 128) (Int32.toNatClampNeg x3) z27) else none)))))))) else none) else none)))
noncomputable def f_X2_bring (x1 : Int32) (x2 : Int32) (x3 : Int32) (u : SS) : Option (Int32 × SS) := (f_X1_first x1 u.1).bind (fun z1 => (if x2 ≤ z1 then f_X2_bring_26 x1 x2 x3 (-1) u else (f_X1_standAt (x2 - 1) u.1).bind (fun z4 => f_X2_bring_26 x1 x2 x3 z4 u)))
section
variable {p : Program} {l : Launch} {e : Env} {s : State} {m : MethodId} {args : Array Value} {below : List Frame} {meth : Method} {c : Code}
variable {G : GX} {A : Nat → Prop} {ad : Nat → Nat} 
set_option maxHeartbeats 4000000 in
set_option maxRecDepth 100000 in
theorem w_X2_bring_208 (F : FX p m c cX2_bring 9 s args yX2_bring (some .boolean) RX2 meth) {z : Int32 × SS} : ∀ (x1 : Int32) (x2 : Int32) (x7 : Int32) (x8 : Int32) (u : SS) (H : Heap) (locs : List Loc) (ls : Array Slot), WD G A s (sw G ad u) H locs → lv_has ls 9 [(0, .ref (ad 0)), (1, .int x1), (2, .int x2), (7, .int x7), (8, .int x8)] → f_X2_bring_208 x1 x2 x7 x8 u = some z → W p l e rmX2_bring s m args below meth c H locs 0 0 (MQ below (QW G (sw G ad z.2) A (some (.int z.1))) args s 0 0 A) (F0 m 208 ls []) := by
  obtain ⟨⟨hx, hb, hml, hown, hts⟩, hr, hlocks⟩ := id F
  intro x1 x2 x7 x8 u H locs ls hw hl h
  unfold f_X2_bring_208 at h
  refine lv_aload_n hx hb dX2_bring_208 rfl (lv_at hl 0 rfl) ?_
  refine lv_iload_n hx hb dX2_bring_209 rfl (lv_at hl 1 rfl) ?_
  refine lv_iload_n hx hb dX2_bring_210 rfl (lv_at hl 2 rfl) ?_
  refine lv_iload hx hb dX2_bring_211 (lv_at hl 3 rfl) ?_
  refine lv_iload hx hb dX2_bring_213 (lv_at hl 4 rfl) ?_
  obtain ⟨z45, e46, h⟩ := bnd h
  refine k_X2_labelWithin_s_ F hw e46 ⟨Nat.le_of_ble_eq_true rfl, Nat.le_of_ble_eq_true rfl⟩ ⟨Nat.zero_le _, Nat.zero_le _⟩ hl.1 (Nat.le_of_ble_eq_true rfl) dX2_bring_215 (fun H locs hw => ?_)
  refine lv_iload hx hb dX2_bring_218 (lv_at hl 4 rfl) ?_
  refine lv_iload hx hb dX2_bring_220 (lv_at hl 3 rfl) ?_
  refine lv_isub hx hb dX2_bring_222 ?_
  refine lv_bipush (v := 8) hx hb dX2_bring_223 rfl ?_
  refine lv_icmp_le (tgt := 240) hx hb dX2_bring_225 rfl (fun c47 => ?_) (fun c47 => ?_)
  · replace h := itT h c47
    refine lv_iconst (v := 1) hx hb dX2_bring_240 rfl ?_
    refine lv_goto (tgt := 245) hx hb dX2_bring_241 rfl ?_
    cases h
    exact retW_z F hw narrow_b1 dX2_bring_245
  · replace h := itF h c47
    refine lv_aload_n hx hb dX2_bring_228 rfl (lv_at hl 0 rfl) ?_
    refine lv_iload_n hx hb dX2_bring_229 rfl (lv_at hl 1 rfl) ?_
    refine lv_iload hx hb dX2_bring_230 (lv_at hl 3 rfl) ?_
    refine lv_iload hx hb dX2_bring_232 (lv_at hl 4 rfl) ?_
    obtain ⟨z48, e49, h⟩ := bnd h
    refine k_X2_partBlock_s_ F hw e49 ⟨Nat.le_of_ble_eq_true rfl, Nat.le_of_ble_eq_true rfl⟩ ⟨Nat.zero_le _, Nat.zero_le _⟩ hl.1 (Nat.le_of_ble_eq_true rfl) dX2_bring_234 (fun H locs hw => ?_)
    refine lv_if_eq (tgt := 244) hx hb dX2_bring_237 rfl (fun c50 => ?_) (fun c50 => ?_)
    · replace h := itT h c50
      refine lv_iconst (v := 0) hx hb dX2_bring_244 rfl ?_
      cases h
      exact retW_z F hw narrow_b0 dX2_bring_245
    · replace h := itF h c50
      refine lv_iconst (v := 1) hx hb dX2_bring_240 rfl ?_
      refine lv_goto (tgt := 245) hx hb dX2_bring_241 rfl ?_
      cases h
      exact retW_z F hw narrow_b1 dX2_bring_245
set_option maxHeartbeats 4000000 in
set_option maxRecDepth 100000 in
theorem w_X2_bring_177 (F : FX p m c cX2_bring 9 s args yX2_bring (some .boolean) RX2 meth) {z : Int32 × SS} : ∀ (n : Nat) (x1 : Int32) (x2 : Int32) (x5 : Int64) (x7 : Int32) (x8 : Int32) (u : SS) (H : Heap) (locs : List Loc) (ls : Array Slot), WD G A s (sw G ad u) H locs → lv_has ls 9 [(0, .ref (ad 0)), (1, .int x1), (2, .int x2), (5, .long x5), (7, .int x7), (8, .int x8)] → f_X2_bring_177 n x1 x2 x5 x7 x8 u = some z → W p l e rmX2_bring s m args below meth c H locs 0 0 (MQ below (QW G (sw G ad z.2) A (some (.int z.1))) args s 0 0 A) (F0 m 177 ls []) := by
  obtain ⟨⟨hx, hb, hml, hown, hts⟩, hr, hlocks⟩ := id F
  intro n
  induction n with
  | zero =>
    intro x1 x2 x5 x7 x8 u H locs ls hw hl h
    rw [f_X2_bring_177] at h
    cases h
  | succ n ih =>
    intro x1 x2 x5 x7 x8 u H locs ls hw hl h
    rw [f_X2_bring_177] at h
    refine lv_iload hx hb dX2_bring_177 (lv_at hl 5 rfl) ?_
    refine lv_aload_n hx hb dX2_bring_179 rfl (lv_at hl 0 rfl) ?_
    refine s_g0_0 F hw dX2_bring_180 ?_
    refine lv_iload_n hx hb dX2_bring_183 rfl (lv_at hl 1 rfl) ?_
    obtain ⟨z39, e40, h⟩ := bnd h
    refine k_X1_end_s_ F hw e40 ⟨Nat.le_of_ble_eq_true rfl, Nat.le_of_ble_eq_true rfl⟩ ⟨Nat.zero_le _, Nat.zero_le _⟩ hl.1 (Nat.le_of_ble_eq_true rfl) dX2_bring_184 ?_
    refine lv_icmp_ge (tgt := 208) hx hb dX2_bring_187 rfl (fun c41 => ?_) (fun c41 => ?_)
    · replace h := itT h c41
      exact w_X2_bring_208 F _ _ _ _ _ _ _ _ hw (lv_sub hl [0, 1, 2, 4, 5] rfl) h
    · replace h := itF h c41
      refine lv_aload_n hx hb dX2_bring_190 rfl (lv_at hl 0 rfl) ?_
      refine lv_iload hx hb dX2_bring_191 (lv_at hl 5 rfl) ?_
      obtain ⟨z42, e43, h⟩ := bnd h
      refine k_X2_labelAt_s_ F hw e43 ⟨Nat.le_of_ble_eq_true rfl, Nat.le_of_ble_eq_true rfl⟩ ⟨Nat.zero_le _, Nat.zero_le _⟩ hl.1 (Nat.le_of_ble_eq_true rfl) dX2_bring_193 ?_
      refine lv_lload hx hb dX2_bring_196 (lv_at hl 3 rfl) ?_
      refine W.lcmp hx hb dX2_bring_198 ?_
      refine lv_if_ne (tgt := 208) hx hb dX2_bring_199 rfl (fun c44 => ?_) (fun c44 => ?_)
      · replace h := itF h c44
        exact w_X2_bring_208 F _ _ _ _ _ _ _ _ hw (lv_sub hl [0, 1, 2, 4, 5] rfl) h
      · replace h := itT h c44
        refine lv_iinc (v := (x8 + 1)) (lv' := [(8, .int (x8 + 1)), (0, .ref (ad 0)), (1, .int x1), (2, .int x2), (5, .long x5), (7, .int x7)]) hx hb dX2_bring_202 hl (k := 5) rfl rfl (by decide) rfl (fun ls hl => ?_)
        refine lv_goto (tgt := 177) hx hb dX2_bring_205 rfl ?_
        exact ih _ _ _ _ _ _ _ _ _ hw (lv_sub hl [1, 2, 3, 4, 5, 0] rfl) h
set_option maxHeartbeats 4000000 in
set_option maxRecDepth 100000 in
theorem w_X2_bring_139 (F : FX p m c cX2_bring 9 s args yX2_bring (some .boolean) RX2 meth) {z : Int32 × SS} : ∀ (n : Nat) (x1 : Int32) (x2 : Int32) (x5 : Int64) (x7 : Int32) (u : SS) (H : Heap) (locs : List Loc) (ls : Array Slot), WD G A s (sw G ad u) H locs → lv_has ls 9 [(0, .ref (ad 0)), (1, .int x1), (2, .int x2), (5, .long x5), (7, .int x7)] → f_X2_bring_139 n x1 x2 x5 x7 u = some z → W p l e rmX2_bring s m args below meth c H locs 0 0 (MQ below (QW G (sw G ad z.2) A (some (.int z.1))) args s 0 0 A) (F0 m 139 ls []) := by
  obtain ⟨⟨hx, hb, hml, hown, hts⟩, hr, hlocks⟩ := id F
  intro n
  induction n with
  | zero =>
    intro x1 x2 x5 x7 u H locs ls hw hl h
    rw [f_X2_bring_139] at h
    cases h
  | succ n ih =>
    intro x1 x2 x5 x7 u H locs ls hw hl h
    rw [f_X2_bring_139] at h
    refine lv_iload hx hb dX2_bring_139 (lv_at hl 4 rfl) ?_
    refine lv_aload_n hx hb dX2_bring_141 rfl (lv_at hl 0 rfl) ?_
    refine s_g0_0 F hw dX2_bring_142 ?_
    refine lv_iload_n hx hb dX2_bring_145 rfl (lv_at hl 1 rfl) ?_
    obtain ⟨z33, e34, h⟩ := bnd h
    refine k_X1_first_s_ F hw e34 ⟨Nat.le_of_ble_eq_true rfl, Nat.le_of_ble_eq_true rfl⟩ ⟨Nat.zero_le _, Nat.zero_le _⟩ hl.1 (Nat.le_of_ble_eq_true rfl) dX2_bring_146 ?_
    refine lv_icmp_le (tgt := 172) hx hb dX2_bring_149 rfl (fun c35 => ?_) (fun c35 => ?_)
    · replace h := itT h c35
      refine lv_iload_n hx hb dX2_bring_172 rfl (lv_at hl 2 rfl) ?_
      refine lv_iconst (v := 1) hx hb dX2_bring_173 rfl ?_
      refine lv_iadd hx hb dX2_bring_174 ?_
      refine lv_istore (lv' := [(8, .int (x2 + 1)), (0, .ref (ad 0)), (1, .int x1), (2, .int x2), (5, .long x5), (7, .int x7)]) hx hb dX2_bring_175 hl (by decide) rfl (fun ls hl => ?_)
      exact w_X2_bring_177 F NF _ _ _ _ _ _ _ _ _ hw (lv_sub hl [1, 2, 3, 4, 5, 0] rfl) h
    · replace h := itF h c35
      refine lv_aload_n hx hb dX2_bring_152 rfl (lv_at hl 0 rfl) ?_
      refine lv_iload hx hb dX2_bring_153 (lv_at hl 4 rfl) ?_
      refine lv_iconst (v := 1) hx hb dX2_bring_155 rfl ?_
      refine lv_isub hx hb dX2_bring_156 ?_
      obtain ⟨z36, e37, h⟩ := bnd h
      refine k_X2_labelAt_s_ F hw e37 ⟨Nat.le_of_ble_eq_true rfl, Nat.le_of_ble_eq_true rfl⟩ ⟨Nat.zero_le _, Nat.zero_le _⟩ hl.1 (Nat.le_of_ble_eq_true rfl) dX2_bring_157 ?_
      refine lv_lload hx hb dX2_bring_160 (lv_at hl 3 rfl) ?_
      refine W.lcmp hx hb dX2_bring_162 ?_
      refine lv_if_ne (tgt := 172) hx hb dX2_bring_163 rfl (fun c38 => ?_) (fun c38 => ?_)
      · replace h := itF h c38
        refine lv_iload_n hx hb dX2_bring_172 rfl (lv_at hl 2 rfl) ?_
        refine lv_iconst (v := 1) hx hb dX2_bring_173 rfl ?_
        refine lv_iadd hx hb dX2_bring_174 ?_
        refine lv_istore (lv' := [(8, .int (x2 + 1)), (0, .ref (ad 0)), (1, .int x1), (2, .int x2), (5, .long x5), (7, .int x7)]) hx hb dX2_bring_175 hl (by decide) rfl (fun ls hl => ?_)
        exact w_X2_bring_177 F NF _ _ _ _ _ _ _ _ _ hw (lv_sub hl [1, 2, 3, 4, 5, 0] rfl) h
      · replace h := itT h c38
        refine lv_iinc (v := (x7 + (-1))) (lv' := [(7, .int (x7 + (-1))), (0, .ref (ad 0)), (1, .int x1), (2, .int x2), (5, .long x5)]) hx hb dX2_bring_166 hl (k := 4) rfl rfl (by decide) rfl (fun ls hl => ?_)
        refine lv_goto (tgt := 139) hx hb dX2_bring_169 rfl ?_
        exact ih _ _ _ _ _ _ _ _ hw (lv_sub hl [1, 2, 3, 4, 0] rfl) h
set_option maxHeartbeats 4000000 in
set_option maxRecDepth 100000 in
theorem w_X2_bring_26 (F : FX p m c cX2_bring 9 s args yX2_bring (some .boolean) RX2 meth) {z : Int32 × SS} : ∀ (x1 : Int32) (x2 : Int32) (x3 : Int32) (t0 : Int32) (u : SS) (H : Heap) (locs : List Loc) (ls : Array Slot), WD G A s (sw G ad u) H locs → lv_has ls 9 [(0, .ref (ad 0)), (1, .int x1), (2, .int x2), (3, .int x3)] → f_X2_bring_26 x1 x2 x3 t0 u = some z → W p l e rmX2_bring s m args below meth c H locs 0 0 (MQ below (QW G (sw G ad z.2) A (some (.int z.1))) args s 0 0 A) (F0 m 26 ls [.int t0]) := by
  obtain ⟨⟨hx, hb, hml, hown, hts⟩, hr, hlocks⟩ := id F
  intro x1 x2 x3 t0 u H locs ls hw hl h
  unfold f_X2_bring_26 at h
  refine lv_istore (lv' := [(4, .int t0), (0, .ref (ad 0)), (1, .int x1), (2, .int x2), (3, .int x3)]) hx hb dX2_bring_26 hl (by decide) rfl (fun ls hl => ?_)
  refine lv_aload_n hx hb dX2_bring_28 rfl (lv_at hl 1 rfl) ?_
  refine s_g0_0 F hw dX2_bring_29 ?_
  refine lv_iload_n hx hb dX2_bring_32 rfl (lv_at hl 2 rfl) ?_
  refine lv_iload_n hx hb dX2_bring_33 rfl (lv_at hl 3 rfl) ?_
  refine lv_iload_n hx hb dX2_bring_34 rfl (lv_at hl 4 rfl) ?_
  obtain ⟨z6, e7, h⟩ := bnd h
  refine k_X1_insert_s_ F hw e7 ⟨Nat.le_of_ble_eq_true rfl, Nat.le_of_ble_eq_true rfl⟩ ⟨Nat.zero_le _, Nat.zero_le _⟩ hl.1 (Nat.le_of_ble_eq_true rfl) dX2_bring_35 (fun H locs hw => ?_)
  refine lv_aload_n hx hb dX2_bring_38 rfl (lv_at hl 1 rfl) ?_
  refine s_g0_1 F hw dX2_bring_39 ?_
  refine lv_iload_n hx hb dX2_bring_42 rfl (lv_at hl 2 rfl) ?_
  refine lv_iload hx hb dX2_bring_43 (lv_at hl 0 rfl) ?_
  refine lv_iload_n hx hb dX2_bring_45 rfl (lv_at hl 4 rfl) ?_
  obtain ⟨z8, e9, h⟩ := bnd h
  refine k_X0_follow_s_ F hw e9 ⟨Nat.le_of_ble_eq_true rfl, Nat.le_of_ble_eq_true rfl⟩ ⟨Nat.zero_le _, Nat.zero_le _⟩ hl.1 (Nat.le_of_ble_eq_true rfl) dX2_bring_46 (fun H locs hw => ?_)
  refine lv_aload_n hx hb dX2_bring_49 rfl (lv_at hl 1 rfl) ?_
  refine s_g0_5 F hw dX2_bring_50 ?_
  refine lv_iload_n hx hb dX2_bring_53 rfl (lv_at hl 4 rfl) ?_
  refine lv_ldc2 (own := RX2) (v := (-1)) hx hb hown (F.tb (tw 236 (by decide +kernel) rfl)) dX2_bring_54 ?_
  obtain ⟨g10, h⟩ := gd h
  refine s_s12 F hw g10 dX2_bring_57 (fun H locs hw => ?_)
  refine lv_aload_n hx hb dX2_bring_58 rfl (lv_at hl 1 rfl) ?_
  refine s_g0_6 F hw dX2_bring_59 ?_
  refine lv_iload_n hx hb dX2_bring_62 rfl (lv_at hl 4 rfl) ?_
  refine lv_sipush (v := 128) hx hb dX2_bring_63 rfl ?_
  obtain ⟨g11, h⟩ := gd h
  refine s_s13 F hw g11 dX2_bring_66 (fun H locs hw => ?_)
  refine lv_aload_n hx hb dX2_bring_67 rfl (lv_at hl 1 rfl) ?_
  refine lv_iload_n hx hb dX2_bring_68 rfl (lv_at hl 2 rfl) ?_
  obtain ⟨z12, e13, h⟩ := bnd h
  refine k_X2_hasBlocks_s_ F hw e13 ⟨Nat.le_of_ble_eq_true rfl, Nat.le_of_ble_eq_true rfl⟩ ⟨Nat.zero_le _, Nat.zero_le _⟩ hl.1 (Nat.le_of_ble_eq_true rfl) dX2_bring_69 ?_
  refine lv_if_eq (tgt := 87) hx hb dX2_bring_72 rfl (fun c14 => ?_) (fun c14 => ?_)
  · replace h := itT h c14
    refine lv_aload_n hx hb dX2_bring_87 rfl (lv_at hl 1 rfl) ?_
    refine lv_iload_n hx hb dX2_bring_88 rfl (lv_at hl 2 rfl) ?_
    refine lv_iload_n hx hb dX2_bring_89 rfl (lv_at hl 3 rfl) ?_
    refine lv_iload_n hx hb dX2_bring_90 rfl (lv_at hl 3 rfl) ?_
    refine lv_iconst (v := 1) hx hb dX2_bring_91 rfl ?_
    refine lv_iadd hx hb dX2_bring_92 ?_
    obtain ⟨z15, e16, h⟩ := bnd h
    refine k_X2_labelRun_s_ F hw e16 ⟨Nat.le_of_ble_eq_true rfl, Nat.le_of_ble_eq_true rfl⟩ ⟨Nat.zero_le _, Nat.zero_le _⟩ hl.1 (Nat.le_of_ble_eq_true rfl) dX2_bring_93 (fun H locs hw => ?_)
    obtain ⟨g17, h⟩ := gd h
    cases h
    exact retW_z F hw (zb_ok g17) dX2_bring_96
  · replace h := itF h c14
    refine lv_aload_n hx hb dX2_bring_75 rfl (lv_at hl 1 rfl) ?_
    refine s_g0_0 F hw dX2_bring_76 ?_
    refine lv_iload_n hx hb dX2_bring_79 rfl (lv_at hl 2 rfl) ?_
    obtain ⟨z18, e19, h⟩ := bnd h
    refine k_X1_length_s_ F hw e19 ⟨Nat.le_of_ble_eq_true rfl, Nat.le_of_ble_eq_true rfl⟩ ⟨Nat.zero_le _, Nat.zero_le _⟩ hl.1 (Nat.le_of_ble_eq_true rfl) dX2_bring_80 ?_
    refine lv_iconst (v := 1) hx hb dX2_bring_83 rfl ?_
    refine lv_icmp_ne (tgt := 97) hx hb dX2_bring_84 rfl (fun c20 => ?_) (fun c20 => ?_)
    · replace h := itF h c20
      refine lv_iload_n hx hb dX2_bring_97 rfl (lv_at hl 3 rfl) ?_
      refine lv_aload_n hx hb dX2_bring_98 rfl (lv_at hl 1 rfl) ?_
      refine s_g0_0 F hw dX2_bring_99 ?_
      refine lv_iload_n hx hb dX2_bring_102 rfl (lv_at hl 2 rfl) ?_
      obtain ⟨z21, e22, h⟩ := bnd h
      refine k_X1_first_s_ F hw e22 ⟨Nat.le_of_ble_eq_true rfl, Nat.le_of_ble_eq_true rfl⟩ ⟨Nat.zero_le _, Nat.zero_le _⟩ hl.1 (Nat.le_of_ble_eq_true rfl) dX2_bring_103 ?_
      refine lv_icmp_le (tgt := 119) hx hb dX2_bring_106 rfl (fun c23 => ?_) (fun c23 => ?_)
      · replace h := itT h c23
        refine lv_aload_n hx hb dX2_bring_119 rfl (lv_at hl 1 rfl) ?_
        refine lv_iload_n hx hb dX2_bring_120 rfl (lv_at hl 3 rfl) ?_
        refine lv_iconst (v := 1) hx hb dX2_bring_121 rfl ?_
        refine lv_iadd hx hb dX2_bring_122 ?_
        obtain ⟨z24, e25, h⟩ := bnd h
        refine k_X2_labelAt_s_ F hw e25 ⟨Nat.le_of_ble_eq_true rfl, Nat.le_of_ble_eq_true rfl⟩ ⟨Nat.zero_le _, Nat.zero_le _⟩ hl.1 (Nat.le_of_ble_eq_true rfl) dX2_bring_123 ?_
        refine lv_lstore (lv' := [(5, .long z24), (4, .int t0), (0, .ref (ad 0)), (1, .int x1), (2, .int x2), (3, .int x3)]) hx hb dX2_bring_126 hl (by decide) rfl (fun ls hl => ?_)
        refine lv_aload_n hx hb dX2_bring_128 rfl (lv_at hl 2 rfl) ?_
        refine s_g0_5 F hw dX2_bring_129 ?_
        refine lv_iload_n hx hb dX2_bring_132 rfl (lv_at hl 5 rfl) ?_
        refine lv_lload hx hb dX2_bring_133 (lv_at hl 0 rfl) ?_
        obtain ⟨g26, h⟩ := gd h
        refine s_s12 F hw g26 dX2_bring_135 (fun H locs hw => ?_)
        refine lv_iload_n hx hb dX2_bring_136 rfl (lv_at hl 4 rfl) ?_
        refine lv_istore (lv' := [(7, .int x2), (5, .long z24), (4, .int t0), (0, .ref (ad 0)), (1, .int x1), (2, .int x2), (3, .int x3)]) hx hb dX2_bring_137 hl (by decide) rfl (fun ls hl => ?_)
        exact w_X2_bring_139 F NF _ _ _ _ _ _ _ _ hw (lv_sub hl [3, 4, 5, 1, 0] rfl) h
      · replace h := itF h c23
        refine lv_aload_n hx hb dX2_bring_109 rfl (lv_at hl 1 rfl) ?_
        refine lv_iload_n hx hb dX2_bring_110 rfl (lv_at hl 3 rfl) ?_
        refine lv_iconst (v := 1) hx hb dX2_bring_111 rfl ?_
        refine lv_isub hx hb dX2_bring_112 ?_
        obtain ⟨z27, e28, h⟩ := bnd h
        refine k_X2_labelAt_s_ F hw e28 ⟨Nat.le_of_ble_eq_true rfl, Nat.le_of_ble_eq_true rfl⟩ ⟨Nat.zero_le _, Nat.zero_le _⟩ hl.1 (Nat.le_of_ble_eq_true rfl) dX2_bring_113 ?_
        refine lv_goto (tgt := 126) hx hb dX2_bring_116 rfl ?_
        refine lv_lstore (lv' := [(5, .long z27), (4, .int t0), (0, .ref (ad 0)), (1, .int x1), (2, .int x2), (3, .int x3)]) hx hb dX2_bring_126 hl (by decide) rfl (fun ls hl => ?_)
        refine lv_aload_n hx hb dX2_bring_128 rfl (lv_at hl 2 rfl) ?_
        refine s_g0_5 F hw dX2_bring_129 ?_
        refine lv_iload_n hx hb dX2_bring_132 rfl (lv_at hl 5 rfl) ?_
        refine lv_lload hx hb dX2_bring_133 (lv_at hl 0 rfl) ?_
        obtain ⟨g29, h⟩ := gd h
        refine s_s12 F hw g29 dX2_bring_135 (fun H locs hw => ?_)
        refine lv_iload_n hx hb dX2_bring_136 rfl (lv_at hl 4 rfl) ?_
        refine lv_istore (lv' := [(7, .int x2), (5, .long z27), (4, .int t0), (0, .ref (ad 0)), (1, .int x1), (2, .int x2), (3, .int x3)]) hx hb dX2_bring_137 hl (by decide) rfl (fun ls hl => ?_)
        exact w_X2_bring_139 F NF _ _ _ _ _ _ _ _ hw (lv_sub hl [3, 4, 5, 1, 0] rfl) h
    · replace h := itT h c20
      refine lv_aload_n hx hb dX2_bring_87 rfl (lv_at hl 1 rfl) ?_
      refine lv_iload_n hx hb dX2_bring_88 rfl (lv_at hl 2 rfl) ?_
      refine lv_iload_n hx hb dX2_bring_89 rfl (lv_at hl 3 rfl) ?_
      refine lv_iload_n hx hb dX2_bring_90 rfl (lv_at hl 3 rfl) ?_
      refine lv_iconst (v := 1) hx hb dX2_bring_91 rfl ?_
      refine lv_iadd hx hb dX2_bring_92 ?_
      obtain ⟨z30, e31, h⟩ := bnd h
      refine k_X2_labelRun_s_ F hw e31 ⟨Nat.le_of_ble_eq_true rfl, Nat.le_of_ble_eq_true rfl⟩ ⟨Nat.zero_le _, Nat.zero_le _⟩ hl.1 (Nat.le_of_ble_eq_true rfl) dX2_bring_93 (fun H locs hw => ?_)
      obtain ⟨g32, h⟩ := gd h
      cases h
      exact retW_z F hw (zb_ok g32) dX2_bring_96
set_option maxHeartbeats 4000000 in
set_option maxRecDepth 100000 in
theorem w_X2_bring_0 (F : FX p m c cX2_bring 9 s args yX2_bring (some .boolean) RX2 meth) {z : Int32 × SS} : ∀ (x1 : Int32) (x2 : Int32) (x3 : Int32) (u : SS) (H : Heap) (locs : List Loc) (ls : Array Slot), WD G A s (sw G ad u) H locs → lv_has ls 9 [(0, .ref (ad 0)), (1, .int x1), (2, .int x2), (3, .int x3)] → f_X2_bring x1 x2 x3 u = some z → W p l e rmX2_bring s m args below meth c H locs 0 0 (MQ below (QW G (sw G ad z.2) A (some (.int z.1))) args s 0 0 A) (F0 m 0 ls []) := by
  obtain ⟨⟨hx, hb, hml, hown, hts⟩, hr, hlocks⟩ := id F
  intro x1 x2 x3 u H locs ls hw hl h
  unfold f_X2_bring at h
  refine lv_iload_n hx hb dX2_bring_0 rfl (lv_at hl 2 rfl) ?_
  refine lv_aload_n hx hb dX2_bring_1 rfl (lv_at hl 0 rfl) ?_
  refine s_g0_0 F hw dX2_bring_2 ?_
  refine lv_iload_n hx hb dX2_bring_5 rfl (lv_at hl 1 rfl) ?_
  obtain ⟨z1, e2, h⟩ := bnd h
  refine k_X1_first_s_ F hw e2 ⟨Nat.le_of_ble_eq_true rfl, Nat.le_of_ble_eq_true rfl⟩ ⟨Nat.zero_le _, Nat.zero_le _⟩ hl.1 (Nat.le_of_ble_eq_true rfl) dX2_bring_6 ?_
  refine lv_icmp_le (tgt := 25) hx hb dX2_bring_9 rfl (fun c3 => ?_) (fun c3 => ?_)
  · replace h := itT h c3
    refine lv_iconst (v := (-1)) hx hb dX2_bring_25 rfl ?_
    exact w_X2_bring_26 F _ _ _ _ _ _ _ _ hw (lv_sub hl [0, 1, 2, 3] rfl) h
  · replace h := itF h c3
    refine lv_aload_n hx hb dX2_bring_12 rfl (lv_at hl 0 rfl) ?_
    refine s_g0_0 F hw dX2_bring_13 ?_
    refine lv_iload_n hx hb dX2_bring_16 rfl (lv_at hl 2 rfl) ?_
    refine lv_iconst (v := 1) hx hb dX2_bring_17 rfl ?_
    refine lv_isub hx hb dX2_bring_18 ?_
    obtain ⟨z4, e5, h⟩ := bnd h
    refine k_X1_standAt_s_ F hw e5 ⟨Nat.le_of_ble_eq_true rfl, Nat.le_of_ble_eq_true rfl⟩ ⟨Nat.zero_le _, Nat.zero_le _⟩ hl.1 (Nat.le_of_ble_eq_true rfl) dX2_bring_19 ?_
    refine lv_goto (tgt := 26) hx hb dX2_bring_22 rfl ?_
    exact w_X2_bring_26 F _ _ _ _ _ _ _ _ hw (lv_sub hl [0, 1, 2, 3] rfl) h
end
theorem c_X2_bring {l : Launch} {G : GX} {ad : Nat → Nat} {x1 : Int32} {x2 : Int32} {x3 : Int32} {u : SS} {z : Int32 × SS} (h : f_X2_bring x1 x2 x3 u = some z) : MW l yX2_bring cX2_bring 9 (some .boolean) rmX2_bring G (sw G ad u) (sw G ad z.2) [.ref (ad 0), .int x1, .int x2, .int x3] (some (.int z.1)) := MW.of (by decide) (Nat.le_of_ble_eq_true rfl) (fun p e s m below meth c ls F hw hl => w_X2_bring_0 F _ _ _ _ _ _ _ hw hl h)
end
