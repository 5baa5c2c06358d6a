section
-- ===== PART A: goes FIRST, ahead of the names: the tables' words, and 'selects' of the private methods out of them =====
/-- a private method of a class that the tables say can be made, by its rows of tables_1 -/
def lw_okq (q : MethodName × Nat) : Prop := (q.1.cls ≠ "java/lang/invoke/MethodHandle" ∧ q.1.cls ≠ "java/lang/invoke/VarHandle") ∧ Cond.instantiable q.1.cls q.2 ∈ tables_1 ∧ Cond.privateMethod q.1 ∈ tables_1 ∧ Cond.instanceMethod q.1 ∈ tables_1
theorem lw_p0 : lw_okq (⟨"LabelHall", "beginChange", "()V"⟩, 6) := ⟨⟨by decide +kernel, by decide +kernel⟩, List.mem_of_getElem? (i := 10) (by decide +kernel), List.mem_of_getElem? (i := 132) (by decide +kernel), List.mem_of_getElem? (i := 133) (by decide +kernel)⟩
theorem lw_p1 : lw_okq (⟨"LabelHall", "spareSlot", "()I"⟩, 6) := ⟨⟨by decide +kernel, by decide +kernel⟩, List.mem_of_getElem? (i := 10) (by decide +kernel), List.mem_of_getElem? (i := 136) (by decide +kernel), List.mem_of_getElem? (i := 137) (by decide +kernel)⟩
theorem lw_p2 : lw_okq (⟨"LabelHall", "endChange", "(Z)V"⟩, 6) := ⟨⟨by decide +kernel, by decide +kernel⟩, List.mem_of_getElem? (i := 10) (by decide +kernel), List.mem_of_getElem? (i := 157) (by decide +kernel), List.mem_of_getElem? (i := 158) (by decide +kernel)⟩
theorem lw_p3 : lw_okq (⟨"LabelHall", "exchangeWith", "(I)V"⟩, 6) := ⟨⟨by decide +kernel, by decide +kernel⟩, List.mem_of_getElem? (i := 10) (by decide +kernel), List.mem_of_getElem? (i := 164) (by decide +kernel), List.mem_of_getElem? (i := 165) (by decide +kernel)⟩
theorem lw_p4 : lw_okq (⟨"LabelHall", "isPlace", "(IIZ)Z"⟩, 6) := ⟨⟨by decide +kernel, by decide +kernel⟩, List.mem_of_getElem? (i := 10) (by decide +kernel), List.mem_of_getElem? (i := 172) (by decide +kernel), List.mem_of_getElem? (i := 173) (by decide +kernel)⟩
theorem lw_p5 : lw_okq (⟨"LabelHall", "hasStand", "(IZ)Z"⟩, 6) := ⟨⟨by decide +kernel, by decide +kernel⟩, List.mem_of_getElem? (i := 10) (by decide +kernel), List.mem_of_getElem? (i := 176) (by decide +kernel), List.mem_of_getElem? (i := 177) (by decide +kernel)⟩
theorem lw_p6 : lw_okq (⟨"LabelHall", "isStanding", "(I)Z"⟩, 6) := ⟨⟨by decide +kernel, by decide +kernel⟩, List.mem_of_getElem? (i := 10) (by decide +kernel), List.mem_of_getElem? (i := 180) (by decide +kernel), List.mem_of_getElem? (i := 181) (by decide +kernel)⟩
theorem lw_p7 : lw_okq (⟨"LabelHall", "admit", "(II)I"⟩, 6) := ⟨⟨by decide +kernel, by decide +kernel⟩, List.mem_of_getElem? (i := 10) (by decide +kernel), List.mem_of_getElem? (i := 196) (by decide +kernel), List.mem_of_getElem? (i := 197) (by decide +kernel)⟩
theorem lw_p8 : lw_okq (⟨"LabelHall", "thingsInPassage", "(I)I"⟩, 6) := ⟨⟨by decide +kernel, by decide +kernel⟩, List.mem_of_getElem? (i := 10) (by decide +kernel), List.mem_of_getElem? (i := 319) (by decide +kernel), List.mem_of_getElem? (i := 320) (by decide +kernel)⟩
theorem lw_p9 : lw_okq (⟨"LabelHall", "carry", "(IIIII)I"⟩, 6) := ⟨⟨by decide +kernel, by decide +kernel⟩, List.mem_of_getElem? (i := 10) (by decide +kernel), List.mem_of_getElem? (i := 342) (by decide +kernel), List.mem_of_getElem? (i := 343) (by decide +kernel)⟩
theorem lw_p10 : lw_okq (⟨"LabelHall", "faultOfPair", "(II)I"⟩, 6) := ⟨⟨by decide +kernel, by decide +kernel⟩, List.mem_of_getElem? (i := 10) (by decide +kernel), List.mem_of_getElem? (i := 373) (by decide +kernel), List.mem_of_getElem? (i := 374) (by decide +kernel)⟩
theorem lw_p11 : lw_okq (⟨"LabelHallModel", "load", "(I)V"⟩, 25) := ⟨⟨by decide +kernel, by decide +kernel⟩, List.mem_of_getElem? (i := 504) (by decide +kernel), List.mem_of_getElem? (i := 592) (by decide +kernel), List.mem_of_getElem? (i := 593) (by decide +kernel)⟩
theorem lw_p12 : lw_okq (⟨"LabelHallModel", "read", "([II)V"⟩, 25) := ⟨⟨by decide +kernel, by decide +kernel⟩, List.mem_of_getElem? (i := 504) (by decide +kernel), List.mem_of_getElem? (i := 596) (by decide +kernel), List.mem_of_getElem? (i := 597) (by decide +kernel)⟩
theorem lw_p13 : lw_okq (⟨"LabelHallModel", "save", "(I)V"⟩, 25) := ⟨⟨by decide +kernel, by decide +kernel⟩, List.mem_of_getElem? (i := 504) (by decide +kernel), List.mem_of_getElem? (i := 607) (by decide +kernel), List.mem_of_getElem? (i := 608) (by decide +kernel)⟩
theorem lw_p14 : lw_okq (⟨"LabelHallModel", "write", "([II)V"⟩, 25) := ⟨⟨by decide +kernel, by decide +kernel⟩, List.mem_of_getElem? (i := 504) (by decide +kernel), List.mem_of_getElem? (i := 611) (by decide +kernel), List.mem_of_getElem? (i := 612) (by decide +kernel)⟩
theorem lw_p15 : lw_okq (⟨"LabelHallModel", "keep", "()V"⟩, 25) := ⟨⟨by decide +kernel, by decide +kernel⟩, List.mem_of_getElem? (i := 504) (by decide +kernel), List.mem_of_getElem? (i := 615) (by decide +kernel), List.mem_of_getElem? (i := 616) (by decide +kernel)⟩
def lw_privs_1 : List (MethodName × Nat) := [(⟨"LabelHall", "beginChange", "()V"⟩, 6), (⟨"LabelHall", "spareSlot", "()I"⟩, 6), (⟨"LabelHall", "endChange", "(Z)V"⟩, 6), (⟨"LabelHall", "exchangeWith", "(I)V"⟩, 6), (⟨"LabelHall", "isPlace", "(IIZ)Z"⟩, 6), (⟨"LabelHall", "hasStand", "(IZ)Z"⟩, 6), (⟨"LabelHall", "isStanding", "(I)Z"⟩, 6), (⟨"LabelHall", "admit", "(II)I"⟩, 6), (⟨"LabelHall", "thingsInPassage", "(I)I"⟩, 6), (⟨"LabelHall", "carry", "(IIIII)I"⟩, 6), (⟨"LabelHall", "faultOfPair", "(II)I"⟩, 6), (⟨"LabelHallModel", "load", "(I)V"⟩, 25), (⟨"LabelHallModel", "read", "([II)V"⟩, 25), (⟨"LabelHallModel", "save", "(I)V"⟩, 25), (⟨"LabelHallModel", "write", "([II)V"⟩, 25), (⟨"LabelHallModel", "keep", "()V"⟩, 25)]
theorem lw_r1 : ∀ q ∈ lw_privs_1, lw_okq q := List.forall_mem_cons.mpr ⟨lw_p0, List.forall_mem_cons.mpr ⟨lw_p1, List.forall_mem_cons.mpr ⟨lw_p2, List.forall_mem_cons.mpr ⟨lw_p3, List.forall_mem_cons.mpr ⟨lw_p4, List.forall_mem_cons.mpr ⟨lw_p5, List.forall_mem_cons.mpr ⟨lw_p6, List.forall_mem_cons.mpr ⟨lw_p7, List.forall_mem_cons.mpr ⟨lw_p8, List.forall_mem_cons.mpr ⟨lw_p9, List.forall_mem_cons.mpr ⟨lw_p10, List.forall_mem_cons.mpr ⟨lw_p11, List.forall_mem_cons.mpr ⟨lw_p12, List.forall_mem_cons.mpr ⟨lw_p13, List.forall_mem_cons.mpr ⟨lw_p14, List.forall_mem_cons.mpr ⟨lw_p15, fun _ h => absurd h List.not_mem_nil⟩⟩⟩⟩⟩⟩⟩⟩⟩⟩⟩⟩⟩⟩⟩⟩
theorem lw_p16 : lw_okq (⟨"LabelHallModel", "isRow", "(I)Z"⟩, 25) := ⟨⟨by decide +kernel, by decide +kernel⟩, List.mem_of_getElem? (i := 504) (by decide +kernel), List.mem_of_getElem? (i := 625) (by decide +kernel), List.mem_of_getElem? (i := 626) (by decide +kernel)⟩
theorem lw_p17 : lw_okq (⟨"LabelHallModel", "placeBehind", "(IIZ)I"⟩, 25) := ⟨⟨by decide +kernel, by decide +kernel⟩, List.mem_of_getElem? (i := 504) (by decide +kernel), List.mem_of_getElem? (i := 629) (by decide +kernel), List.mem_of_getElem? (i := 630) (by decide +kernel)⟩
theorem lw_p18 : lw_okq (⟨"LabelHallModel", "isThing", "(I)Z"⟩, 25) := ⟨⟨by decide +kernel, by decide +kernel⟩, List.mem_of_getElem? (i := 504) (by decide +kernel), List.mem_of_getElem? (i := 633) (by decide +kernel), List.mem_of_getElem? (i := 634) (by decide +kernel)⟩
theorem lw_p19 : lw_okq (⟨"LabelHallModel", "rowWith", "(I)I"⟩, 25) := ⟨⟨by decide +kernel, by decide +kernel⟩, List.mem_of_getElem? (i := 504) (by decide +kernel), List.mem_of_getElem? (i := 637) (by decide +kernel), List.mem_of_getElem? (i := 638) (by decide +kernel)⟩
theorem lw_p20 : lw_okq (⟨"LabelHallModel", "placeOf", "(II)I"⟩, 25) := ⟨⟨by decide +kernel, by decide +kernel⟩, List.mem_of_getElem? (i := 504) (by decide +kernel), List.mem_of_getElem? (i := 641) (by decide +kernel), List.mem_of_getElem? (i := 642) (by decide +kernel)⟩
theorem lw_p21 : lw_okq (⟨"LabelHallModel", "putNew", "(II)I"⟩, 25) := ⟨⟨by decide +kernel, by decide +kernel⟩, List.mem_of_getElem? (i := 504) (by decide +kernel), List.mem_of_getElem? (i := 645) (by decide +kernel), List.mem_of_getElem? (i := 646) (by decide +kernel)⟩
theorem lw_p22 : lw_okq (⟨"LabelHallModel", "come", "(III)Z"⟩, 25) := ⟨⟨by decide +kernel, by decide +kernel⟩, List.mem_of_getElem? (i := 504) (by decide +kernel), List.mem_of_getElem? (i := 649) (by decide +kernel), List.mem_of_getElem? (i := 650) (by decide +kernel)⟩
theorem lw_p23 : lw_okq (⟨"LabelHallModel", "hasBlocks", "(I)Z"⟩, 25) := ⟨⟨by decide +kernel, by decide +kernel⟩, List.mem_of_getElem? (i := 504) (by decide +kernel), List.mem_of_getElem? (i := 653) (by decide +kernel), List.mem_of_getElem? (i := 654) (by decide +kernel)⟩
theorem lw_p24 : lw_okq (⟨"LabelHallModel", "comeToBlock", "(III)Z"⟩, 25) := ⟨⟨by decide +kernel, by decide +kernel⟩, List.mem_of_getElem? (i := 504) (by decide +kernel), List.mem_of_getElem? (i := 657) (by decide +kernel), List.mem_of_getElem? (i := 658) (by decide +kernel)⟩
theorem lw_p25 : lw_okq (⟨"LabelHallModel", "newBlock", "(III)Z"⟩, 25) := ⟨⟨by decide +kernel, by decide +kernel⟩, List.mem_of_getElem? (i := 504) (by decide +kernel), List.mem_of_getElem? (i := 661) (by decide +kernel), List.mem_of_getElem? (i := 662) (by decide +kernel)⟩
theorem lw_p26 : lw_okq (⟨"LabelHallModel", "spread", "(II)Z"⟩, 25) := ⟨⟨by decide +kernel, by decide +kernel⟩, List.mem_of_getElem? (i := 504) (by decide +kernel), List.mem_of_getElem? (i := 665) (by decide +kernel), List.mem_of_getElem? (i := 666) (by decide +kernel)⟩
theorem lw_p27 : lw_okq (⟨"LabelHallModel", "between", "(IJ)Z"⟩, 25) := ⟨⟨by decide +kernel, by decide +kernel⟩, List.mem_of_getElem? (i := 504) (by decide +kernel), List.mem_of_getElem? (i := 669) (by decide +kernel), List.mem_of_getElem? (i := 670) (by decide +kernel)⟩
theorem lw_p28 : lw_okq (⟨"LabelHallModel", "open", "(I)V"⟩, 25) := ⟨⟨by decide +kernel, by decide +kernel⟩, List.mem_of_getElem? (i := 504) (by decide +kernel), List.mem_of_getElem? (i := 675) (by decide +kernel), List.mem_of_getElem? (i := 676) (by decide +kernel)⟩
theorem lw_p29 : lw_okq (⟨"LabelHallModel", "dealt", "(IIIJII)V"⟩, 25) := ⟨⟨by decide +kernel, by decide +kernel⟩, List.mem_of_getElem? (i := 504) (by decide +kernel), List.mem_of_getElem? (i := 679) (by decide +kernel), List.mem_of_getElem? (i := 680) (by decide +kernel)⟩
theorem lw_p30 : lw_okq (⟨"LabelHallModel", "shift", "(III)V"⟩, 25) := ⟨⟨by decide +kernel, by decide +kernel⟩, List.mem_of_getElem? (i := 504) (by decide +kernel), List.mem_of_getElem? (i := 683) (by decide +kernel), List.mem_of_getElem? (i := 684) (by decide +kernel)⟩
theorem lw_p31 : lw_okq (⟨"LabelHallModel", "blockAt", "(II)I"⟩, 25) := ⟨⟨by decide +kernel, by decide +kernel⟩, List.mem_of_getElem? (i := 504) (by decide +kernel), List.mem_of_getElem? (i := 687) (by decide +kernel), List.mem_of_getElem? (i := 688) (by decide +kernel)⟩
def lw_privs_2 : List (MethodName × Nat) := [(⟨"LabelHallModel", "isRow", "(I)Z"⟩, 25), (⟨"LabelHallModel", "placeBehind", "(IIZ)I"⟩, 25), (⟨"LabelHallModel", "isThing", "(I)Z"⟩, 25), (⟨"LabelHallModel", "rowWith", "(I)I"⟩, 25), (⟨"LabelHallModel", "placeOf", "(II)I"⟩, 25), (⟨"LabelHallModel", "putNew", "(II)I"⟩, 25), (⟨"LabelHallModel", "come", "(III)Z"⟩, 25), (⟨"LabelHallModel", "hasBlocks", "(I)Z"⟩, 25), (⟨"LabelHallModel", "comeToBlock", "(III)Z"⟩, 25), (⟨"LabelHallModel", "newBlock", "(III)Z"⟩, 25), (⟨"LabelHallModel", "spread", "(II)Z"⟩, 25), (⟨"LabelHallModel", "between", "(IJ)Z"⟩, 25), (⟨"LabelHallModel", "open", "(I)V"⟩, 25), (⟨"LabelHallModel", "dealt", "(IIIJII)V"⟩, 25), (⟨"LabelHallModel", "shift", "(III)V"⟩, 25), (⟨"LabelHallModel", "blockAt", "(II)I"⟩, 25)]
theorem lw_r2 : ∀ q ∈ lw_privs_2, lw_okq q := List.forall_mem_cons.mpr ⟨lw_p16, List.forall_mem_cons.mpr ⟨lw_p17, List.forall_mem_cons.mpr ⟨lw_p18, List.forall_mem_cons.mpr ⟨lw_p19, List.forall_mem_cons.mpr ⟨lw_p20, List.forall_mem_cons.mpr ⟨lw_p21, List.forall_mem_cons.mpr ⟨lw_p22, List.forall_mem_cons.mpr ⟨lw_p23, List.forall_mem_cons.mpr ⟨lw_p24, List.forall_mem_cons.mpr ⟨lw_p25, List.forall_mem_cons.mpr ⟨lw_p26, List.forall_mem_cons.mpr ⟨lw_p27, List.forall_mem_cons.mpr ⟨lw_p28, List.forall_mem_cons.mpr ⟨lw_p29, List.forall_mem_cons.mpr ⟨lw_p30, List.forall_mem_cons.mpr ⟨lw_p31, fun _ h => absurd h List.not_mem_nil⟩⟩⟩⟩⟩⟩⟩⟩⟩⟩⟩⟩⟩⟩⟩⟩
theorem lw_p32 : lw_okq (⟨"LabelHallModel", "beginOf", "(II)I"⟩, 25) := ⟨⟨by decide +kernel, by decide +kernel⟩, List.mem_of_getElem? (i := 504) (by decide +kernel), List.mem_of_getElem? (i := 691) (by decide +kernel), List.mem_of_getElem? (i := 692) (by decide +kernel)⟩
theorem lw_p33 : lw_okq (⟨"LabelHallModel", "takeInner", "(III)V"⟩, 25) := ⟨⟨by decide +kernel, by decide +kernel⟩, List.mem_of_getElem? (i := 504) (by decide +kernel), List.mem_of_getElem? (i := 695) (by decide +kernel), List.mem_of_getElem? (i := 696) (by decide +kernel)⟩
theorem lw_p34 : lw_okq (⟨"LabelHallModel", "giveInner", "(II)V"⟩, 25) := ⟨⟨by decide +kernel, by decide +kernel⟩, List.mem_of_getElem? (i := 504) (by decide +kernel), List.mem_of_getElem? (i := 700) (by decide +kernel), List.mem_of_getElem? (i := 701) (by decide +kernel)⟩
theorem lw_p35 : lw_okq (⟨"LabelHallModel", "dealInner", "(III)V"⟩, 25) := ⟨⟨by decide +kernel, by decide +kernel⟩, List.mem_of_getElem? (i := 504) (by decide +kernel), List.mem_of_getElem? (i := 704) (by decide +kernel), List.mem_of_getElem? (i := 705) (by decide +kernel)⟩
theorem lw_p36 : lw_okq (⟨"LabelHallModel", "comeByLabel", "(III)Z"⟩, 25) := ⟨⟨by decide +kernel, by decide +kernel⟩, List.mem_of_getElem? (i := 504) (by decide +kernel), List.mem_of_getElem? (i := 708) (by decide +kernel), List.mem_of_getElem? (i := 709) (by decide +kernel)⟩
theorem lw_p37 : lw_okq (⟨"LabelHallModel", "tight", "(II)Z"⟩, 25) := ⟨⟨by decide +kernel, by decide +kernel⟩, List.mem_of_getElem? (i := 504) (by decide +kernel), List.mem_of_getElem? (i := 712) (by decide +kernel), List.mem_of_getElem? (i := 713) (by decide +kernel)⟩
theorem lw_p38 : lw_okq (⟨"LabelHallModel", "span", "(II)I"⟩, 25) := ⟨⟨by decide +kernel, by decide +kernel⟩, List.mem_of_getElem? (i := 504) (by decide +kernel), List.mem_of_getElem? (i := 720) (by decide +kernel), List.mem_of_getElem? (i := 721) (by decide +kernel)⟩
theorem lw_p39 : lw_okq (⟨"LabelHallModel", "takeOut", "(III)I"⟩, 25) := ⟨⟨by decide +kernel, by decide +kernel⟩, List.mem_of_getElem? (i := 504) (by decide +kernel), List.mem_of_getElem? (i := 724) (by decide +kernel), List.mem_of_getElem? (i := 725) (by decide +kernel)⟩
theorem lw_p40 : lw_okq (⟨"LabelHallModel", "leave", "(II)V"⟩, 25) := ⟨⟨by decide +kernel, by decide +kernel⟩, List.mem_of_getElem? (i := 504) (by decide +kernel), List.mem_of_getElem? (i := 728) (by decide +kernel), List.mem_of_getElem? (i := 729) (by decide +kernel)⟩
theorem lw_p41 : lw_okq (⟨"LabelHallModel", "bring", "(II)Z"⟩, 25) := ⟨⟨by decide +kernel, by decide +kernel⟩, List.mem_of_getElem? (i := 504) (by decide +kernel), List.mem_of_getElem? (i := 736) (by decide +kernel), List.mem_of_getElem? (i := 737) (by decide +kernel)⟩
theorem lw_p42 : lw_okq (⟨"LabelHallModel", "depthOf", "(II)I"⟩, 25) := ⟨⟨by decide +kernel, by decide +kernel⟩, List.mem_of_getElem? (i := 504) (by decide +kernel), List.mem_of_getElem? (i := 748) (by decide +kernel), List.mem_of_getElem? (i := 749) (by decide +kernel)⟩
theorem lw_p43 : lw_okq (⟨"LabelHallModel", "outerOf", "(II)I"⟩, 25) := ⟨⟨by decide +kernel, by decide +kernel⟩, List.mem_of_getElem? (i := 504) (by decide +kernel), List.mem_of_getElem? (i := 752) (by decide +kernel), List.mem_of_getElem? (i := 753) (by decide +kernel)⟩
theorem lw_p44 : lw_okq (⟨"LabelHallModel", "isWithin", "(III)Z"⟩, 25) := ⟨⟨by decide +kernel, by decide +kernel⟩, List.mem_of_getElem? (i := 504) (by decide +kernel), List.mem_of_getElem? (i := 756) (by decide +kernel), List.mem_of_getElem? (i := 757) (by decide +kernel)⟩
theorem lw_p45 : lw_okq (⟨"LabelHallModel", "areApart", "(II)Z"⟩, 25) := ⟨⟨by decide +kernel, by decide +kernel⟩, List.mem_of_getElem? (i := 504) (by decide +kernel), List.mem_of_getElem? (i := 764) (by decide +kernel), List.mem_of_getElem? (i := 765) (by decide +kernel)⟩
theorem lw_p46 : lw_okq (⟨"LabelHallModel", "thingFrom", "(III)I"⟩, 25) := ⟨⟨by decide +kernel, by decide +kernel⟩, List.mem_of_getElem? (i := 504) (by decide +kernel), List.mem_of_getElem? (i := 781) (by decide +kernel), List.mem_of_getElem? (i := 782) (by decide +kernel)⟩
theorem lw_p47 : lw_okq (⟨"LabelHallModel", "indexOf", "(II)I"⟩, 25) := ⟨⟨by decide +kernel, by decide +kernel⟩, List.mem_of_getElem? (i := 504) (by decide +kernel), List.mem_of_getElem? (i := 789) (by decide +kernel), List.mem_of_getElem? (i := 790) (by decide +kernel)⟩
def lw_privs_3 : List (MethodName × Nat) := [(⟨"LabelHallModel", "beginOf", "(II)I"⟩, 25), (⟨"LabelHallModel", "takeInner", "(III)V"⟩, 25), (⟨"LabelHallModel", "giveInner", "(II)V"⟩, 25), (⟨"LabelHallModel", "dealInner", "(III)V"⟩, 25), (⟨"LabelHallModel", "comeByLabel", "(III)Z"⟩, 25), (⟨"LabelHallModel", "tight", "(II)Z"⟩, 25), (⟨"LabelHallModel", "span", "(II)I"⟩, 25), (⟨"LabelHallModel", "takeOut", "(III)I"⟩, 25), (⟨"LabelHallModel", "leave", "(II)V"⟩, 25), (⟨"LabelHallModel", "bring", "(II)Z"⟩, 25), (⟨"LabelHallModel", "depthOf", "(II)I"⟩, 25), (⟨"LabelHallModel", "outerOf", "(II)I"⟩, 25), (⟨"LabelHallModel", "isWithin", "(III)Z"⟩, 25), (⟨"LabelHallModel", "areApart", "(II)Z"⟩, 25), (⟨"LabelHallModel", "thingFrom", "(III)I"⟩, 25), (⟨"LabelHallModel", "indexOf", "(II)I"⟩, 25)]
theorem lw_r3 : ∀ q ∈ lw_privs_3, lw_okq q := List.forall_mem_cons.mpr ⟨lw_p32, List.forall_mem_cons.mpr ⟨lw_p33, List.forall_mem_cons.mpr ⟨lw_p34, List.forall_mem_cons.mpr ⟨lw_p35, List.forall_mem_cons.mpr ⟨lw_p36, List.forall_mem_cons.mpr ⟨lw_p37, List.forall_mem_cons.mpr ⟨lw_p38, List.forall_mem_cons.mpr ⟨lw_p39, List.forall_mem_cons.mpr ⟨lw_p40, List.forall_mem_cons.mpr ⟨lw_p41, List.forall_mem_cons.mpr ⟨lw_p42, List.forall_mem_cons.mpr ⟨lw_p43, List.forall_mem_cons.mpr ⟨lw_p44, List.forall_mem_cons.mpr ⟨lw_p45, List.forall_mem_cons.mpr ⟨lw_p46, List.forall_mem_cons.mpr ⟨lw_p47, fun _ h => absurd h List.not_mem_nil⟩⟩⟩⟩⟩⟩⟩⟩⟩⟩⟩⟩⟩⟩⟩⟩
theorem lw_p48 : lw_okq (⟨"LabelHallModel", "isMark", "(I)Z"⟩, 25) := ⟨⟨by decide +kernel, by decide +kernel⟩, List.mem_of_getElem? (i := 504) (by decide +kernel), List.mem_of_getElem? (i := 825) (by decide +kernel), List.mem_of_getElem? (i := 826) (by decide +kernel)⟩
theorem lw_p49 : lw_okq (⟨"LabelHallModel", "thingsIn", "(I)I"⟩, 25) := ⟨⟨by decide +kernel, by decide +kernel⟩, List.mem_of_getElem? (i := 504) (by decide +kernel), List.mem_of_getElem? (i := 837) (by decide +kernel), List.mem_of_getElem? (i := 838) (by decide +kernel)⟩
def lw_privs_4 : List (MethodName × Nat) := [(⟨"LabelHallModel", "isMark", "(I)Z"⟩, 25), (⟨"LabelHallModel", "thingsIn", "(I)I"⟩, 25)]
theorem lw_r4 : ∀ q ∈ lw_privs_4, lw_okq q := List.forall_mem_cons.mpr ⟨lw_p48, List.forall_mem_cons.mpr ⟨lw_p49, fun _ h => absurd h List.not_mem_nil⟩⟩
def lw_privs : List (MethodName × Nat) := lw_privs_1 ++ (lw_privs_2 ++ (lw_privs_3 ++ (lw_privs_4)))
def lw_tbl : List Cond := k2_sels lw_privs ++ tables_1
theorem lw_privs_ok : ∀ q ∈ lw_privs, lw_okq q := by
  show ∀ q ∈ lw_privs_1 ++ (lw_privs_2 ++ (lw_privs_3 ++ (lw_privs_4))), lw_okq q
  exact List.forall_mem_append.mpr ⟨lw_r1, List.forall_mem_append.mpr ⟨lw_r2, List.forall_mem_append.mpr ⟨lw_r3, lw_r4⟩⟩⟩
end
section
/-! ===== BEGIN printed: names, fields, word lists, decode rows ===== -/
def RX0 : String := "LabelHall$Marks"
def TX0 : u_T := fun k => match k with
  | 0 => ("LabelHall$Marks", "rows", "[I", true)
  | 1 => ("LabelHall$Marks", "behinds", "[I", true)
  | _ => ("LabelHall$Marks", "leans", "[I", true)
def tyX0 : Nat → FieldType := fun k => match k with
  | 0 => .array .int
  | 1 => .array .int
  | _ => .array .int
theorem nmX0 : ∀ a, a < 3 → ∀ b, b < 3 → a ≠ b → (TX0 a).2.1 ≠ (TX0 b).2.1 := by decide +kernel
theorem tyX0_ok : ∀ k, k < 3 → parseFieldDescriptor (TX0 k).2.2.1 = some (tyX0 k) := by decide +kernel
abbrev cX0_init : ByteArray := prog_2_method_1_code
def yX0_init : MethodName := ⟨RX0, "<init>", "()V"⟩
abbrev cX0_copyFrom : ByteArray := prog_2_method_2_code
def yX0_copyFrom : MethodName := ⟨RX0, "copyFrom", "(LLabelHall$Marks;)V"⟩
abbrev cX0_isSet : ByteArray := prog_2_method_3_code
def yX0_isSet : MethodName := ⟨RX0, "isSet", "(I)Z"⟩
abbrev cX0_setCount : ByteArray := prog_2_method_4_code
def yX0_setCount : MethodName := ⟨RX0, "setCount", "()I"⟩
abbrev cX0_set : ByteArray := prog_2_method_5_code
def yX0_set : MethodName := ⟨RX0, "set", "(IIII)V"⟩
abbrev cX0_follow : ByteArray := prog_2_method_6_code
def yX0_follow : MethodName := ⟨RX0, "follow", "(III)V"⟩
def RX1 : String := "LabelHall$Order"
def TX1 : u_T := fun k => match k with
  | 0 => ("LabelHall$Order", "line", "[I", true)
  | 1 => ("LabelHall$Order", "begins", "[I", true)
  | _ => ("LabelHall$Order", "rows", "[I", true)
def tyX1 : Nat → FieldType := fun k => match k with
  | 0 => .array .int
  | 1 => .array .int
  | _ => .array .int
theorem nmX1 : ∀ a, a < 3 → ∀ b, b < 3 → a ≠ b → (TX1 a).2.1 ≠ (TX1 b).2.1 := by decide +kernel
theorem tyX1_ok : ∀ k, k < 3 → parseFieldDescriptor (TX1 k).2.2.1 = some (tyX1 k) := by decide +kernel
abbrev cX1_init : ByteArray := prog_3_method_1_code
def yX1_init : MethodName := ⟨RX1, "<init>", "()V"⟩
abbrev cX1_copyFrom : ByteArray := prog_3_method_2_code
def yX1_copyFrom : MethodName := ⟨RX1, "copyFrom", "(LLabelHall$Order;)V"⟩
abbrev cX1_first : ByteArray := prog_3_method_3_code
def yX1_first : MethodName := ⟨RX1, "first", "(I)I"⟩
abbrev cX1_end : ByteArray := prog_3_method_4_code
def yX1_end : MethodName := ⟨RX1, "end", "(I)I"⟩
abbrev cX1_length : ByteArray := prog_3_method_5_code
def yX1_length : MethodName := ⟨RX1, "length", "(I)I"⟩
abbrev cX1_rowOfThing : ByteArray := prog_3_method_6_code
def yX1_rowOfThing : MethodName := ⟨RX1, "rowOfThing", "(I)I"⟩
abbrev cX1_standAt : ByteArray := prog_3_method_7_code
def yX1_standAt : MethodName := ⟨RX1, "standAt", "(I)I"⟩
abbrev cX1_lastStand : ByteArray := prog_3_method_8_code
def yX1_lastStand : MethodName := ⟨RX1, "lastStand", "(I)I"⟩
abbrev cX1_placeOf : ByteArray := prog_3_method_9_code
def yX1_placeOf : MethodName := ⟨RX1, "placeOf", "(I)I"⟩
abbrev cX1_insert : ByteArray := prog_3_method_10_code
def yX1_insert : MethodName := ⟨RX1, "insert", "(III)V"⟩
abbrev cX1_remove : ByteArray := prog_3_method_11_code
def yX1_remove : MethodName := ⟨RX1, "remove", "(III)V"⟩
def RX2 : String := "LabelHall$State"
def TX2 : u_T := fun k => match k with
  | 0 => ("LabelHall$State", "order", "LLabelHall$Order;", true)
  | 1 => ("LabelHall$State", "marks", "LLabelHall$Marks;", true)
  | 2 => ("LabelHall$State", "kinds", "[I", true)
  | 3 => ("LabelHall$State", "widths", "[I", true)
  | 4 => ("LabelHall$State", "greatest", "[I", true)
  | 5 => ("LabelHall$State", "labels", "[J", true)
  | 6 => ("LabelHall$State", "inners", "[I", true)
  | _ => ("LabelHall$State", "renamed", "I", false)
def tyX2 : Nat → FieldType := fun k => match k with
  | 0 => .object "LabelHall$Order"
  | 1 => .object "LabelHall$Marks"
  | 2 => .array .int
  | 3 => .array .int
  | 4 => .array .int
  | 5 => .array .long
  | 6 => .array .int
  | _ => .int
theorem nmX2 : ∀ a, a < 8 → ∀ b, b < 8 → a ≠ b → (TX2 a).2.1 ≠ (TX2 b).2.1 := by decide +kernel
theorem tyX2_ok : ∀ k, k < 8 → parseFieldDescriptor (TX2 k).2.2.1 = some (tyX2 k) := by decide +kernel
abbrev cX2_init : ByteArray := prog_4_method_1_code
def yX2_init : MethodName := ⟨RX2, "<init>", "()V"⟩
abbrev cX2_copyFrom : ByteArray := prog_4_method_2_code
def yX2_copyFrom : MethodName := ⟨RX2, "copyFrom", "(LLabelHall$State;)V"⟩
abbrev cX2_isRow : ByteArray := prog_4_method_3_code
def yX2_isRow : MethodName := ⟨RX2, "isRow", "(I)Z"⟩
abbrev cX2_hasBlocks : ByteArray := prog_4_method_4_code
def yX2_hasBlocks : MethodName := ⟨RX2, "hasBlocks", "(I)Z"⟩
abbrev cX2_rowCount : ByteArray := prog_4_method_5_code
def yX2_rowCount : MethodName := ⟨RX2, "rowCount", "()I"⟩
abbrev cX2_thingsIn : ByteArray := prog_4_method_6_code
def yX2_thingsIn : MethodName := ⟨RX2, "thingsIn", "(I)I"⟩
abbrev cX2_thingsInAll : ByteArray := prog_4_method_7_code
def yX2_thingsInAll : MethodName := ⟨RX2, "thingsInAll", "()I"⟩
abbrev cX2_blocksIn : ByteArray := prog_4_method_8_code
def yX2_blocksIn : MethodName := ⟨RX2, "blocksIn", "(I)I"⟩
abbrev cX2_firstPlace : ByteArray := prog_4_method_9_code
def yX2_firstPlace : MethodName := ⟨RX2, "firstPlace", "(I)I"⟩
abbrev cX2_lastPlace : ByteArray := prog_4_method_10_code
def yX2_lastPlace : MethodName := ⟨RX2, "lastPlace", "(I)I"⟩
abbrev cX2_placeBehind : ByteArray := prog_4_method_11_code
def yX2_placeBehind : MethodName := ⟨RX2, "placeBehind", "(II)I"⟩
abbrev cX2_isNested : ByteArray := prog_4_method_12_code
def yX2_isNested : MethodName := ⟨RX2, "isNested", "(I)Z"⟩
abbrev cX2_labelAt : ByteArray := prog_4_method_13_code
def yX2_labelAt : MethodName := ⟨RX2, "labelAt", "(I)J"⟩
abbrev cX2_setLabel : ByteArray := prog_4_method_14_code
def yX2_setLabel : MethodName := ⟨RX2, "setLabel", "(IJ)V"⟩
abbrev cX2_innerAt : ByteArray := prog_4_method_15_code
def yX2_innerAt : MethodName := ⟨RX2, "innerAt", "(I)I"⟩
abbrev cX2_setInner : ByteArray := prog_4_method_16_code
def yX2_setInner : MethodName := ⟨RX2, "setInner", "(II)V"⟩
abbrev cX2_inOneRow : ByteArray := prog_4_method_17_code
def yX2_inOneRow : MethodName := ⟨RX2, "inOneRow", "(II)Z"⟩
abbrev cX2_isAhead : ByteArray := prog_4_method_18_code
def yX2_isAhead : MethodName := ⟨RX2, "isAhead", "(II)Z"⟩
abbrev cX2_encloses : ByteArray := prog_4_method_19_code
def yX2_encloses : MethodName := ⟨RX2, "encloses", "(II)Z"⟩
abbrev cX2_innermost : ByteArray := prog_4_method_20_code
def yX2_innermost : MethodName := ⟨RX2, "innermost", "(II)I"⟩
abbrev cX2_enclosingCount : ByteArray := prog_4_method_21_code
def yX2_enclosingCount : MethodName := ⟨RX2, "enclosingCount", "(I)I"⟩
abbrev cX2_firstWithin : ByteArray := prog_4_method_22_code
def yX2_firstWithin : MethodName := ⟨RX2, "firstWithin", "(I)I"⟩
abbrev cX2_neighbour : ByteArray := prog_4_method_23_code
def yX2_neighbour : MethodName := ⟨RX2, "neighbour", "(II)I"⟩
abbrev cX2_thingsAhead : ByteArray := prog_4_method_24_code
def yX2_thingsAhead : MethodName := ⟨RX2, "thingsAhead", "(I)I"⟩
abbrev cX2_thingNumber : ByteArray := prog_4_method_25_code
def yX2_thingNumber : MethodName := ⟨RX2, "thingNumber", "(II)I"⟩
abbrev cX2_takeOut : ByteArray := prog_4_method_26_code
def yX2_takeOut : MethodName := ⟨RX2, "takeOut", "(III[I)I"⟩
abbrev cX2_bring : ByteArray := prog_4_method_27_code
def yX2_bring : MethodName := ⟨RX2, "bring", "(III)Z"⟩
abbrev cX2_labelWithin : ByteArray := prog_4_method_28_code
def yX2_labelWithin : MethodName := ⟨RX2, "labelWithin", "(IIII)V"⟩
abbrev cX2_partBlock : ByteArray := prog_4_method_29_code
def yX2_partBlock : MethodName := ⟨RX2, "partBlock", "(III)Z"⟩
abbrev cX2_dealInners : ByteArray := prog_4_method_30_code
def yX2_dealInners : MethodName := ⟨RX2, "dealInners", "(III)V"⟩
abbrev cX2_labelRun : ByteArray := prog_4_method_31_code
def yX2_labelRun : MethodName := ⟨RX2, "labelRun", "(III)Z"⟩
abbrev cX2_spreadRuns : ByteArray := prog_4_method_32_code
def yX2_spreadRuns : MethodName := ⟨RX2, "spreadRuns", "(III)Z"⟩
abbrev cX2_dealLabels : ByteArray := prog_4_method_33_code
def yX2_dealLabels : MethodName := ⟨RX2, "dealLabels", "(IIIJII)V"⟩
def RX3 : String := "LabelHall"
def TX3 : u_T := fun k => match k with
  | 0 => ("LabelHall", "kept", "[LLabelHall$State;", true)
  | 1 => ("LabelHall", "passage", "[I", true)
  | 2 => ("LabelHall", "now", "LLabelHall$State;", false)
  | 3 => ("LabelHall", "newestSlot", "I", false)
  | 4 => ("LabelHall", "keptCount", "I", false)
  | _ => ("LabelHall", "thingCount", "I", false)
def tyX3 : Nat → FieldType := fun k => match k with
  | 0 => .array (.object "LabelHall$State")
  | 1 => .array .int
  | 2 => .object "LabelHall$State"
  | 3 => .int
  | 4 => .int
  | _ => .int
theorem nmX3 : ∀ a, a < 6 → ∀ b, b < 6 → a ≠ b → (TX3 a).2.1 ≠ (TX3 b).2.1 := by decide +kernel
theorem tyX3_ok : ∀ k, k < 6 → parseFieldDescriptor (TX3 k).2.2.1 = some (tyX3 k) := by decide +kernel
abbrev cX3_init : ByteArray := prog_1_method_1_code
def yX3_init : MethodName := ⟨RX3, "<init>", "()V"⟩
abbrev cX3_row : ByteArray := prog_1_method_2_code
def yX3_row : MethodName := ⟨RX3, "row", "(III)I"⟩
abbrev cX3_put : ByteArray := prog_1_method_3_code
def yX3_put : MethodName := ⟨RX3, "put", "(IIZ)I"⟩
abbrev cX3_drop : ByteArray := prog_1_method_4_code
def yX3_drop : MethodName := ⟨RX3, "drop", "(I)I"⟩
abbrev cX3_move : ByteArray := prog_1_method_5_code
def yX3_move : MethodName := ⟨RX3, "move", "(IIZ)I"⟩
abbrev cX3_join : ByteArray := prog_1_method_6_code
def yX3_join : MethodName := ⟨RX3, "join", "(II)I"⟩
abbrev cX3_split : ByteArray := prog_1_method_7_code
def yX3_split : MethodName := ⟨RX3, "split", "(II)I"⟩
abbrev cX3_less : ByteArray := prog_1_method_8_code
def yX3_less : MethodName := ⟨RX3, "less", "(II)I"⟩
abbrev cX3_label : ByteArray := prog_1_method_9_code
def yX3_label : MethodName := ⟨RX3, "label", "(IZ)J"⟩
abbrev cX3_inner : ByteArray := prog_1_method_10_code
def yX3_inner : MethodName := ⟨RX3, "inner", "(IZ)I"⟩
abbrev cX3_near : ByteArray := prog_1_method_11_code
def yX3_near : MethodName := ⟨RX3, "near", "(II)I"⟩
abbrev cX3_index : ByteArray := prog_1_method_12_code
def yX3_index : MethodName := ⟨RX3, "index", "(I)I"⟩
abbrev cX3_at : ByteArray := prog_1_method_13_code
def yX3_at : MethodName := ⟨RX3, "at", "(II)I"⟩
abbrev cX3_between : ByteArray := prog_1_method_14_code
def yX3_between : MethodName := ⟨RX3, "between", "(II)I"⟩
abbrev cX3_holds : ByteArray := prog_1_method_15_code
def yX3_holds : MethodName := ⟨RX3, "holds", "(II)I"⟩
abbrev cX3_meet : ByteArray := prog_1_method_16_code
def yX3_meet : MethodName := ⟨RX3, "meet", "(II)I"⟩
abbrev cX3_depth : ByteArray := prog_1_method_17_code
def yX3_depth : MethodName := ⟨RX3, "depth", "(I)I"⟩
abbrev cX3_rowOf : ByteArray := prog_1_method_18_code
def yX3_rowOf : MethodName := ⟨RX3, "rowOf", "(I)I"⟩
abbrev cX3_mark : ByteArray := prog_1_method_19_code
def yX3_mark : MethodName := ⟨RX3, "mark", "(IIII)I"⟩
abbrev cX3_marked : ByteArray := prog_1_method_20_code
def yX3_marked : MethodName := ⟨RX3, "marked", "(I)I"⟩
abbrev cX3_putAt : ByteArray := prog_1_method_21_code
def yX3_putAt : MethodName := ⟨RX3, "putAt", "(I)I"⟩
abbrev cX3_undo : ByteArray := prog_1_method_22_code
def yX3_undo : MethodName := ⟨RX3, "undo", "()I"⟩
abbrev cX3_about : ByteArray := prog_1_method_23_code
def yX3_about : MethodName := ⟨RX3, "about", "(II)I"⟩
abbrev cX3_isOf : ByteArray := prog_1_method_24_code
def yX3_isOf : MethodName := ⟨RX3, "isOf", "(II)I"⟩
abbrev cX3_count : ByteArray := prog_1_method_25_code
def yX3_count : MethodName := ⟨RX3, "count", "(I)I"⟩
abbrev cX3_isKind : ByteArray := prog_1_method_26_code
def yX3_isKind : MethodName := ⟨RX3, "isKind", "(I)Z"⟩
abbrev cX3_isEnd : ByteArray := prog_1_method_27_code
def yX3_isEnd : MethodName := ⟨RX3, "isEnd", "(I)Z"⟩
abbrev cX3_thingOf : ByteArray := prog_1_method_28_code
def yX3_thingOf : MethodName := ⟨RX3, "thingOf", "(I)I"⟩
abbrev cX3_standOf : ByteArray := prog_1_method_29_code
def yX3_standOf : MethodName := ⟨RX3, "standOf", "(IZ)I"⟩
abbrev cX3_dealt : ByteArray := prog_1_method_30_code
def yX3_dealt : MethodName := ⟨RX3, "dealt", "(JIII)J"⟩
abbrev cX3_isStanding : ByteArray := prog_1_method_31_code
def yX3_isStanding : MethodName := ⟨RX3, "isStanding", "(I)Z"⟩
abbrev cX3_faultOfPair : ByteArray := prog_1_method_32_code
def yX3_faultOfPair : MethodName := ⟨RX3, "faultOfPair", "(II)I"⟩
abbrev cX3_hasStand : ByteArray := prog_1_method_33_code
def yX3_hasStand : MethodName := ⟨RX3, "hasStand", "(IZ)Z"⟩
abbrev cX3_isPlace : ByteArray := prog_1_method_34_code
def yX3_isPlace : MethodName := ⟨RX3, "isPlace", "(IIZ)Z"⟩
abbrev cX3_admit : ByteArray := prog_1_method_35_code
def yX3_admit : MethodName := ⟨RX3, "admit", "(II)I"⟩
abbrev cX3_carry : ByteArray := prog_1_method_36_code
def yX3_carry : MethodName := ⟨RX3, "carry", "(IIIII)I"⟩
abbrev cX3_thingsInPassage : ByteArray := prog_1_method_37_code
def yX3_thingsInPassage : MethodName := ⟨RX3, "thingsInPassage", "(I)I"⟩
abbrev cX3_spareSlot : ByteArray := prog_1_method_38_code
def yX3_spareSlot : MethodName := ⟨RX3, "spareSlot", "()I"⟩
abbrev cX3_beginChange : ByteArray := prog_1_method_39_code
def yX3_beginChange : MethodName := ⟨RX3, "beginChange", "()V"⟩
abbrev cX3_endChange : ByteArray := prog_1_method_40_code
def yX3_endChange : MethodName := ⟨RX3, "endChange", "(Z)V"⟩
abbrev cX3_exchangeWith : ByteArray := prog_1_method_41_code
def yX3_exchangeWith : MethodName := ⟨RX3, "exchangeWith", "(I)V"⟩
def RX4 : String := "LabelHallModel"
def TX4 : u_T := fun k => match k with
  | 0 => ("LabelHallModel", "thrown", "I", false)
  | 1 => ("LabelHallModel", "things", "I", false)
  | 2 => ("LabelHallModel", "kind", "[I", true)
  | 3 => ("LabelHallModel", "width", "[I", true)
  | 4 => ("LabelHallModel", "many", "[I", true)
  | 5 => ("LabelHallModel", "greatest", "[I", true)
  | 6 => ("LabelHallModel", "blocks", "[I", true)
  | 7 => ("LabelHallModel", "list", "[I", true)
  | 8 => ("LabelHallModel", "blockLong", "[I", true)
  | 9 => ("LabelHallModel", "blockLabel", "[J", true)
  | 10 => ("LabelHallModel", "label", "[J", true)
  | 11 => ("LabelHallModel", "inner", "[I", true)
  | 12 => ("LabelHallModel", "markRow", "[I", true)
  | 13 => ("LabelHallModel", "markAt", "[I", true)
  | 14 => ("LabelHallModel", "markLean", "[I", true)
  | 15 => ("LabelHallModel", "renamed", "I", false)
  | 16 => ("LabelHallModel", "oldInts", "[I", true)
  | 17 => ("LabelHallModel", "oldLongs", "[J", true)
  | 18 => ("LabelHallModel", "keptEnd", "I", false)
  | 19 => ("LabelHallModel", "kept", "I", false)
  | 20 => ("LabelHallModel", "pen", "I", false)
  | 21 => ("LabelHallModel", "hand", "[J", true)
  | 22 => ("LabelHallModel", "handMany", "I", false)
  | 23 => ("LabelHallModel", "gone", "[I", true)
  | _ => ("LabelHallModel", "goneMany", "I", false)
def tyX4 : Nat → FieldType := fun k => match k with
  | 0 => .int
  | 1 => .int
  | 2 => .array .int
  | 3 => .array .int
  | 4 => .array .int
  | 5 => .array .int
  | 6 => .array .int
  | 7 => .array .int
  | 8 => .array .int
  | 9 => .array .long
  | 10 => .array .long
  | 11 => .array .int
  | 12 => .array .int
  | 13 => .array .int
  | 14 => .array .int
  | 15 => .int
  | 16 => .array .int
  | 17 => .array .long
  | 18 => .int
  | 19 => .int
  | 20 => .int
  | 21 => .array .long
  | 22 => .int
  | 23 => .array .int
  | _ => .int
theorem nmX4 : ∀ a, a < 25 → ∀ b, b < 25 → a ≠ b → (TX4 a).2.1 ≠ (TX4 b).2.1 := by decide +kernel
theorem tyX4_ok : ∀ k, k < 25 → parseFieldDescriptor (TX4 k).2.2.1 = some (tyX4 k) := by decide +kernel
abbrev cX4_init : ByteArray := prog_6_method_1_code
def yX4_init : MethodName := ⟨RX4, "<init>", "()V"⟩
abbrev cX4_in : ByteArray := prog_6_method_3_code
def yX4_in : MethodName := ⟨RX4, "in", "(III)Z"⟩
abbrev cX4_write : ByteArray := prog_6_method_4_code
def yX4_write : MethodName := ⟨RX4, "write", "([II)V"⟩
abbrev cX4_read : ByteArray := prog_6_method_5_code
def yX4_read : MethodName := ⟨RX4, "read", "([II)V"⟩
abbrev cX4_save : ByteArray := prog_6_method_6_code
def yX4_save : MethodName := ⟨RX4, "save", "(I)V"⟩
abbrev cX4_load : ByteArray := prog_6_method_7_code
def yX4_load : MethodName := ⟨RX4, "load", "(I)V"⟩
abbrev cX4_keep : ByteArray := prog_6_method_8_code
def yX4_keep : MethodName := ⟨RX4, "keep", "()V"⟩
abbrev cX4_undo : ByteArray := prog_6_method_9_code
def yX4_undo : MethodName := ⟨RX4, "undo", "()I"⟩
abbrev cX4_isRow : ByteArray := prog_6_method_10_code
def yX4_isRow : MethodName := ⟨RX4, "isRow", "(I)Z"⟩
abbrev cX4_rowWith : ByteArray := prog_6_method_11_code
def yX4_rowWith : MethodName := ⟨RX4, "rowWith", "(I)I"⟩
abbrev cX4_placeOf : ByteArray := prog_6_method_12_code
def yX4_placeOf : MethodName := ⟨RX4, "placeOf", "(II)I"⟩
abbrev cX4_isThing : ByteArray := prog_6_method_13_code
def yX4_isThing : MethodName := ⟨RX4, "isThing", "(I)Z"⟩
abbrev cX4_hasBlocks : ByteArray := prog_6_method_14_code
def yX4_hasBlocks : MethodName := ⟨RX4, "hasBlocks", "(I)Z"⟩
abbrev cX4_row : ByteArray := prog_6_method_15_code
def yX4_row : MethodName := ⟨RX4, "row", "(III)I"⟩
abbrev cX4_dealt : ByteArray := prog_6_method_16_code
def yX4_dealt : MethodName := ⟨RX4, "dealt", "(IIIJII)V"⟩
abbrev cX4_open : ByteArray := prog_6_method_17_code
def yX4_open : MethodName := ⟨RX4, "open", "(I)V"⟩
abbrev cX4_between : ByteArray := prog_6_method_18_code
def yX4_between : MethodName := ⟨RX4, "between", "(IJ)Z"⟩
abbrev cX4_tight : ByteArray := prog_6_method_19_code
def yX4_tight : MethodName := ⟨RX4, "tight", "(II)Z"⟩
abbrev cX4_spread : ByteArray := prog_6_method_20_code
def yX4_spread : MethodName := ⟨RX4, "spread", "(II)Z"⟩
abbrev cX4_shift : ByteArray := prog_6_method_21_code
def yX4_shift : MethodName := ⟨RX4, "shift", "(III)V"⟩
abbrev cX4_comeByLabel : ByteArray := prog_6_method_22_code
def yX4_comeByLabel : MethodName := ⟨RX4, "comeByLabel", "(III)Z"⟩
abbrev cX4_newBlock : ByteArray := prog_6_method_23_code
def yX4_newBlock : MethodName := ⟨RX4, "newBlock", "(III)Z"⟩
abbrev cX4_blockAt : ByteArray := prog_6_method_24_code
def yX4_blockAt : MethodName := ⟨RX4, "blockAt", "(II)I"⟩
abbrev cX4_beginOf : ByteArray := prog_6_method_25_code
def yX4_beginOf : MethodName := ⟨RX4, "beginOf", "(II)I"⟩
abbrev cX4_takeInner : ByteArray := prog_6_method_26_code
def yX4_takeInner : MethodName := ⟨RX4, "takeInner", "(III)V"⟩
abbrev cX4_giveInner : ByteArray := prog_6_method_27_code
def yX4_giveInner : MethodName := ⟨RX4, "giveInner", "(II)V"⟩
abbrev cX4_dealInner : ByteArray := prog_6_method_28_code
def yX4_dealInner : MethodName := ⟨RX4, "dealInner", "(III)V"⟩
abbrev cX4_comeToBlock : ByteArray := prog_6_method_29_code
def yX4_comeToBlock : MethodName := ⟨RX4, "comeToBlock", "(III)Z"⟩
abbrev cX4_come : ByteArray := prog_6_method_30_code
def yX4_come : MethodName := ⟨RX4, "come", "(III)Z"⟩
abbrev cX4_leave : ByteArray := prog_6_method_31_code
def yX4_leave : MethodName := ⟨RX4, "leave", "(II)V"⟩
abbrev cX4_span : ByteArray := prog_6_method_32_code
def yX4_span : MethodName := ⟨RX4, "span", "(II)I"⟩
abbrev cX4_takeOut : ByteArray := prog_6_method_33_code
def yX4_takeOut : MethodName := ⟨RX4, "takeOut", "(III)I"⟩
abbrev cX4_bring : ByteArray := prog_6_method_34_code
def yX4_bring : MethodName := ⟨RX4, "bring", "(II)Z"⟩
abbrev cX4_placeBehind : ByteArray := prog_6_method_35_code
def yX4_placeBehind : MethodName := ⟨RX4, "placeBehind", "(IIZ)I"⟩
abbrev cX4_putNew : ByteArray := prog_6_method_36_code
def yX4_putNew : MethodName := ⟨RX4, "putNew", "(II)I"⟩
abbrev cX4_put : ByteArray := prog_6_method_37_code
def yX4_put : MethodName := ⟨RX4, "put", "(IIZ)I"⟩
abbrev cX4_drop : ByteArray := prog_6_method_38_code
def yX4_drop : MethodName := ⟨RX4, "drop", "(I)I"⟩
abbrev cX4_move : ByteArray := prog_6_method_39_code
def yX4_move : MethodName := ⟨RX4, "move", "(IIZ)I"⟩
abbrev cX4_join : ByteArray := prog_6_method_40_code
def yX4_join : MethodName := ⟨RX4, "join", "(II)I"⟩
abbrev cX4_split : ByteArray := prog_6_method_41_code
def yX4_split : MethodName := ⟨RX4, "split", "(II)I"⟩
abbrev cX4_areApart : ByteArray := prog_6_method_42_code
def yX4_areApart : MethodName := ⟨RX4, "areApart", "(II)Z"⟩
abbrev cX4_less : ByteArray := prog_6_method_43_code
def yX4_less : MethodName := ⟨RX4, "less", "(II)I"⟩
abbrev cX4_label : ByteArray := prog_6_method_44_code
def yX4_label : MethodName := ⟨RX4, "label", "(IZ)J"⟩
abbrev cX4_inner : ByteArray := prog_6_method_45_code
def yX4_inner : MethodName := ⟨RX4, "inner", "(IZ)I"⟩
abbrev cX4_thingFrom : ByteArray := prog_6_method_46_code
def yX4_thingFrom : MethodName := ⟨RX4, "thingFrom", "(III)I"⟩
abbrev cX4_isWithin : ByteArray := prog_6_method_47_code
def yX4_isWithin : MethodName := ⟨RX4, "isWithin", "(III)Z"⟩
abbrev cX4_outerOf : ByteArray := prog_6_method_48_code
def yX4_outerOf : MethodName := ⟨RX4, "outerOf", "(II)I"⟩
abbrev cX4_depthOf : ByteArray := prog_6_method_49_code
def yX4_depthOf : MethodName := ⟨RX4, "depthOf", "(II)I"⟩
abbrev cX4_near : ByteArray := prog_6_method_50_code
def yX4_near : MethodName := ⟨RX4, "near", "(II)I"⟩
abbrev cX4_indexOf : ByteArray := prog_6_method_51_code
def yX4_indexOf : MethodName := ⟨RX4, "indexOf", "(II)I"⟩
abbrev cX4_index : ByteArray := prog_6_method_52_code
def yX4_index : MethodName := ⟨RX4, "index", "(I)I"⟩
abbrev cX4_at : ByteArray := prog_6_method_53_code
def yX4_at : MethodName := ⟨RX4, "at", "(II)I"⟩
abbrev cX4_between_ : ByteArray := prog_6_method_54_code
def yX4_between_ : MethodName := ⟨RX4, "between", "(II)I"⟩
abbrev cX4_holds : ByteArray := prog_6_method_55_code
def yX4_holds : MethodName := ⟨RX4, "holds", "(II)I"⟩
abbrev cX4_meet : ByteArray := prog_6_method_56_code
def yX4_meet : MethodName := ⟨RX4, "meet", "(II)I"⟩
abbrev cX4_depth : ByteArray := prog_6_method_57_code
def yX4_depth : MethodName := ⟨RX4, "depth", "(I)I"⟩
abbrev cX4_rowOf : ByteArray := prog_6_method_58_code
def yX4_rowOf : MethodName := ⟨RX4, "rowOf", "(I)I"⟩
abbrev cX4_mark : ByteArray := prog_6_method_59_code
def yX4_mark : MethodName := ⟨RX4, "mark", "(IIII)I"⟩
abbrev cX4_isMark : ByteArray := prog_6_method_60_code
def yX4_isMark : MethodName := ⟨RX4, "isMark", "(I)Z"⟩
abbrev cX4_marked : ByteArray := prog_6_method_61_code
def yX4_marked : MethodName := ⟨RX4, "marked", "(I)I"⟩
abbrev cX4_putAt : ByteArray := prog_6_method_62_code
def yX4_putAt : MethodName := ⟨RX4, "putAt", "(I)I"⟩
abbrev cX4_thingsIn : ByteArray := prog_6_method_63_code
def yX4_thingsIn : MethodName := ⟨RX4, "thingsIn", "(I)I"⟩
abbrev cX4_about : ByteArray := prog_6_method_64_code
def yX4_about : MethodName := ⟨RX4, "about", "(II)I"⟩
abbrev cX4_isOf : ByteArray := prog_6_method_65_code
def yX4_isOf : MethodName := ⟨RX4, "isOf", "(II)I"⟩
abbrev cX4_count : ByteArray := prog_6_method_66_code
def yX4_count : MethodName := ⟨RX4, "count", "(I)I"⟩
def RJ9 : String := "java/lang/Math"
def TJ9 : u_T := fun k => match k with
  | _ => ("", "", "", false)
def tyJ9 : Nat → FieldType := fun k => match k with
  | _ => .int
theorem nmJ9 : ∀ a, a < 0 → ∀ b, b < 0 → a ≠ b → (TJ9 a).2.1 ≠ (TJ9 b).2.1 := by decide +kernel
theorem tyJ9_ok : ∀ k, k < 0 → parseFieldDescriptor (TJ9 k).2.2.1 = some (tyJ9 k) := by decide +kernel
abbrev cJ9_abs_0f7a4 : ByteArray := prog_7_method_59_code
def yJ9_abs_0f7a4 : MethodName := ⟨RJ9, "abs", "(I)I"⟩
abbrev cJ9_max_7cf53 : ByteArray := prog_7_method_65_code
def yJ9_max_7cf53 : MethodName := ⟨RJ9, "max", "(II)I"⟩
abbrev cJ9_min_7cf53 : ByteArray := prog_7_method_69_code
def yJ9_min_7cf53 : MethodName := ⟨RJ9, "min", "(II)I"⟩
def RJ10 : String := "java/lang/System"
def TJ10 : u_T := fun k => match k with
  | _ => ("", "", "", false)
def tyJ10 : Nat → FieldType := fun k => match k with
  | _ => .int
theorem nmJ10 : ∀ a, a < 0 → ∀ b, b < 0 → a ≠ b → (TJ10 a).2.1 ≠ (TJ10 b).2.1 := by decide +kernel
theorem tyJ10_ok : ∀ k, k < 0 → parseFieldDescriptor (TJ10 k).2.2.1 = some (tyJ10 k) := by decide +kernel
def RJ7 : String := "java/util/Arrays"
def TJ7 : u_T := fun k => match k with
  | _ => ("", "", "", false)
def tyJ7 : Nat → FieldType := fun k => match k with
  | _ => .int
theorem nmJ7 : ∀ a, a < 0 → ∀ b, b < 0 → a ≠ b → (TJ7 a).2.1 ≠ (TJ7 b).2.1 := by decide +kernel
theorem tyJ7_ok : ∀ k, k < 0 → parseFieldDescriptor (TJ7 k).2.2.1 = some (tyJ7 k) := by decide +kernel
abbrev cJ7_fill_53178 : ByteArray := prog_9_method_103_code
def yJ7_fill_53178 : MethodName := ⟨RJ7, "fill", "([II)V"⟩
def RL : String := "LabelHallLaw"
abbrev cL_law : ByteArray := code
def yL_law : MethodName := ⟨RL, "law", "([I)Z"⟩
end
section
/-! ===== the frame of this proof: words, worlds, contracts ===== -/
abbrev vcl : List vw_C := [(RX0, TX0, 3), (RX1, TX1, 3), (RX2, TX2, 8), (RX3, TX3, 6), (RX4, TX4, 25)]
/-- the tables' words that hold at every state of the run -/
def lw_gt : List Cond := lw_tbl.filter goodWord
theorem lw_good : ∀ w ∈ lw_gt, goodWord w = true := fun _ h => (List.mem_filter.mp h).2
theorem lw_sub : ∀ w ∈ lw_gt, w ∈ lw_tbl := fun _ h => (List.mem_filter.mp h).1
theorem tw {w : Cond} (i : Nat) (h : tables_1[i]? = some w) (hg : goodWord w = true) : w ∈ lw_gt := List.mem_filter.mpr ⟨List.mem_append_right _ (List.mem_of_getElem? h), hg⟩
theorem tp {w : Cond} (i : Nat) (h : (k2_sels lw_privs)[i]? = some w) (hg : goodWord w = true) : w ∈ lw_gt := List.mem_filter.mpr ⟨List.mem_append_left _ (List.mem_of_getElem? h), hg⟩
def wM (y : MethodName) (cc : ByteArray) (n : Nat) (ret : Option FieldType) : List Cond := Cond.code y cc n ret :: lw_gt
theorem wM_good {y y0 : MethodName} {cc c0 : ByteArray} {n n0 : Nat} {ret r0 : Option FieldType} (h : Cond.code y cc n ret ∈ lw_gt) : GoodIn (wM y0 c0 n0 r0) (wM y cc n ret) := by
  intro w hw
  rcases List.mem_cons.mp hw with rfl | hw
  · exact ⟨List.mem_cons_of_mem _ h, good_of_word (lw_good _ h)⟩
  · exact ⟨List.mem_cons_of_mem _ hw, good_of_word (lw_good _ hw)⟩
abbrev GX : Type := va_G × ClassId × ClassId × ClassId
def tyL (G : GX) : List (ClassId × FieldType) := [(G.2.1, .int), (G.2.2.1, .long), (G.2.2.2, .object RX2)]
def PW (G : GX) (ws : va_W) (U : State) : Prop := va_P G.1 vcl ws U.heap ∧ va_K G.1 vcl (tyL G) U ∧ va_D (fun _ => True) ws
theorem PW.blind {av : List Value} {G : GX} {ws : va_W} : FrameBlind (va_Pc av (PW G ws)) := fun a U g mk q => ⟨q.1, q.2.1, va_K.moved (u := U) (U := U.calling g mk a) (Vm.Alike.refl U.vm) q.2.2.1, q.2.2.2⟩
def WD (G : GX) (A : Nat → Prop) (s : State) (ws : va_W) (H : Heap) (locs : List Loc) : Prop := va_K G.1 vcl (tyL G) s ∧ va_P G.1 vcl ws H ∧ va_D A ws ∧ va_S A s.heap H locs
def aw (ws : va_W) : Nat → Prop := fun q => ∃ (k : Nat) (e : va_E), ws[k]? = some (q, e)
def QO (v : Option Value) : Array Value → State → Outcome → State → Prop := fun _ st o t => o = .returned v ∧ t.heap = st.heap
def QW (G : GX) (ws' : va_W) (A : Nat → Prop) (v : Option Value) : Array Value → State → Outcome → State → Prop := fun _ st o t => o = .returned v ∧ va_P G.1 vcl ws' t.heap ∧ va_F A st t
def FX (p : Program) (m : MethodId) (c : Code) (cc : ByteArray) (nL : Nat) (s : State) (args : Array Value) (y : MethodName) (ret : Option FieldType) (own : String) (meth : Method) : Prop := CallFix p m c cc nL s args (wM y cc nL ret) own ∧ meth.sig.returnType = ret ∧ meth.locks = false
def MO (l : Launch) (y : MethodName) (cc : ByteArray) (n : Nat) (ret : Option FieldType) (rm : Room) (G : GX) (ws : va_W) (av : List Value) (v : Option Value) : Prop := Met l y (wM y cc n ret) rm (va_Pc av (PW G ws)) (QO v) 0 0 (fun _ => False)
def MW (l : Launch) (y : MethodName) (cc : ByteArray) (n : Nat) (ret : Option FieldType) (rm : Room) (G : GX) (ws ws' : va_W) (av : List Value) (v : Option Value) : Prop := Met l y (wM y cc n ret) rm (va_Pc av (PW G ws)) (QW G ws' (aw ws) v) 0 0 (aw ws)
theorem aw_of {ws : va_W} {k : Nat} {q : Nat × va_E} (h : ws[k]? = some q) : aw ws q.1 := ⟨k, q.2, h⟩
theorem va_D.own {A : Nat → Prop} {ws : va_W} (h : va_D A ws) : va_D (aw ws) ws := ⟨h.1, fun _ _ hk => aw_of hk⟩
theorem va_D.any {A : Nat → Prop} {ws : va_W} (h : va_D A ws) : va_D (fun _ => True) ws := ⟨h.1, fun _ _ _ => trivial⟩
theorem va_D.own_in {A : Nat → Prop} {ws : va_W} (h : va_D A ws) : ∀ q, aw ws q → A q := fun q ⟨k, e, hk⟩ => h.2 k (q, e) hk
theorem aw_va {ws : va_W} {n q : Nat} (h : aw ws q) : va_A ws n q := Or.inl h
/-- the same addresses: apart as before -/
theorem va_D.addr {A : Nat → Prop} {ws ws' : va_W} (h : va_D A ws) (he : ws'.map (fun q => q.1) = ws.map (fun q => q.1)) : va_D A ws' := by
  have key : ∀ (i : Nat) (q : Nat × va_E), ws'[i]? = some q → ∃ e, ws[i]? = some (q.1, e) := by
    intro i q hq
    have h1 : (ws'.map (fun q => q.1))[i]? = some q.1 := by rw [List.getElem?_map, hq]; rfl
    rw [he, List.getElem?_map] at h1
    cases hi : ws[i]? with
    | none => rw [hi] at h1; cases h1
    | some z => rw [hi] at h1; exact ⟨z.2, by rw [← (Option.some.inj h1 : z.1 = q.1)]⟩
  refine ⟨fun i j p q hp hq hpq => ?_, fun k q hq => ?_⟩
  · obtain ⟨e1, h1⟩ := key i p hp
    obtain ⟨e2, h2⟩ := key j q hq
    exact h.1 i j _ _ h1 h2 hpq
  · obtain ⟨e1, h1⟩ := key k q hq
    exact h.2 k (q.1, e1) h1
theorem aw_addr {ws ws' : va_W} (he : ws'.map (fun q => q.1) = ws.map (fun q => q.1)) {q : Nat} (h : aw ws' q) : aw ws q := by
  obtain ⟨k, e, hk⟩ := h
  have h1 : (ws'.map (fun q => q.1))[k]? = some q := by rw [List.getElem?_map, hk]; rfl
  rw [he, List.getElem?_map] at h1
  cases hi : ws[k]? with
  | none => rw [hi] at h1; cases h1
  | some z =>
    rw [hi] at h1
    have e1 : z.1 = q := Option.some.inj h1
    exact ⟨k, z.2, by rw [← e1]; exact hi⟩
-- pure words
theorem gd {α : Type} {c : Prop} {inst : Decidable c} {x : Option α} {y : α} (h : @ite (Option α) c inst x none = some y) : c ∧ x = some y := by
  by_cases hc : c
  · rw [if_pos hc] at h; exact ⟨hc, h⟩
  · rw [if_neg hc] at h; cases h
theorem itT {α : Type} {c : Prop} {inst : Decidable c} {x z : Option α} {y : α} (h : @ite (Option α) c inst x z = some y) (hc : c) : x = some y := by rw [if_pos hc] at h; exact h
theorem itF {α : Type} {c : Prop} {inst : Decidable c} {x z : Option α} {y : α} (h : @ite (Option α) c inst x z = some y) (hc : ¬ c) : z = some y := by rw [if_neg hc] at h; exact h
/-- of a branch that is taken where its word is false -/
theorem itN {α : Type} {c : Prop} {inst : Decidable c} {x z : Option α} {y : α} (h : @ite (Option α) c inst x z = some y) (hc : ¬ ¬ c) : x = some y := itT h (Decidable.not_not.mp hc)
theorem bnd {α β : Type} {o : Option α} {k : α → Option β} {y : β} (h : o.bind k = some y) : ∃ x, o = some x ∧ k x = some y := by
  cases o with
  | none => cases h
  | some x => exact ⟨x, rfl, h⟩
/-- an index within -/
def ix (i : Int32) (n : Nat) : Bool := !(decide (i < 0)) && decide (i.toNatClampNeg < n)
theorem ix_in {i : Int32} {n : Nat} (h : ix i n = true) : vp_in i n := by
  unfold ix at h
  simp only [Bool.and_eq_true, Bool.not_eq_true', decide_eq_false_iff_not, decide_eq_true_eq] at h
  rintro (q | q)
  · exact h.1 q
  · omega
/-- a truth value -/
def zb (v : Int32) : Bool := v == 0 || v == 1
theorem zb_ok {v : Int32} (h : zb v = true) : narrow .boolean (.int v) = .int v := by
  unfold zb at h
  simp only [Bool.or_eq_true, beq_iff_eq] at h
  rcases h with rfl | rfl <;> rfl
noncomputable def NF : Nat := Classical.choose (⟨20000, rfl⟩ : ∃ n : Nat, n = 20000)
theorem NF_eq : NF = 20000 := Classical.choose_spec (⟨20000, rfl⟩ : ∃ n : Nat, n = 20000)
section BASE
variable {p : Program} {l : Launch} {e : Env} {R : Room} {s : State} {m : MethodId} {args : Array Value} {below : List Frame} {meth : Method} {c : Code} {H : Heap} {locs : List Loc} {cells slots : Nat} {Q : State → Prop}
variable {G : GX} {A : Nat → Prop} {ws ws' : va_W} {cc : ByteArray} {nL pc : Nat} {y : MethodName} {ret : Option FieldType} {own : String} {ls : Array Slot} {rest : List Value}
theorem retO_i {r : Int32} (F : FX p m c cc nL s args y (some .int) own meth) (hdg : decode cc pc = .ok (.ireturn, 1)) : W p l e R s m args below meth c s.heap [] 0 0 (MQ below (QO (some (.int r))) args s 0 0 (fun _ => False)) (F0 m pc ls [.int r]) :=
  W.iret F.1.1 F.1.2.1 F.2.1 (fun t ht _ => ⟨rfl, ht⟩) (fun q h => by cases h) hdg F.2.2
theorem retO_z {r : Int32} (F : FX p m c cc nL s args y (some .boolean) own meth) (hn : narrow .boolean (.int r) = .int r) (hdg : decode cc pc = .ok (.ireturn, 1)) : W p l e R s m args below meth c s.heap [] 0 0 (MQ below (QO (some (.int r))) args s 0 0 (fun _ => False)) (F0 m pc ls [.int r]) :=
  W.zret F.1.1 F.1.2.1 F.2.1 hn (fun t ht _ => ⟨rfl, ht⟩) (fun q h => by cases h) hdg F.2.2
theorem retO_l {r : Int64} (F : FX p m c cc nL s args y (some .long) own meth) (hdg : decode cc pc = .ok (.lreturn, 1)) : W p l e R s m args below meth c s.heap [] 0 0 (MQ below (QO (some (.long r))) args s 0 0 (fun _ => False)) (F0 m pc ls [.long r]) :=
  W.lret F.1.1 F.1.2.1 F.2.1 (fun t ht _ => ⟨rfl, ht⟩) (fun q h => by cases h) hdg F.2.2
theorem retW_i {r : Int32} (F : FX p m c cc nL s args y (some .int) own meth) (hw : WD G A s ws H locs) (hdg : decode cc pc = .ok (.ireturn, 1)) : W p l e R s m args below meth c H locs 0 0 (MQ below (QW G ws A (some (.int r))) args s 0 0 A) (F0 m pc ls [.int r]) :=
  W.iret F.1.1 F.1.2.1 F.2.1 (fun t ht _ => ⟨rfl, by rw [ht]; exact hw.2.1, hw.2.2.2.F ht⟩) hw.2.2.2.2.2 hdg F.2.2
theorem retW_z {r : Int32} (F : FX p m c cc nL s args y (some .boolean) own meth) (hw : WD G A s ws H locs) (hn : narrow .boolean (.int r) = .int r) (hdg : decode cc pc = .ok (.ireturn, 1)) : W p l e R s m args below meth c H locs 0 0 (MQ below (QW G ws A (some (.int r))) args s 0 0 A) (F0 m pc ls [.int r]) :=
  W.zret F.1.1 F.1.2.1 F.2.1 hn (fun t ht _ => ⟨rfl, by rw [ht]; exact hw.2.1, hw.2.2.2.F ht⟩) hw.2.2.2.2.2 hdg F.2.2
theorem retW_l {r : Int64} (F : FX p m c cc nL s args y (some .long) own meth) (hw : WD G A s ws H locs) (hdg : decode cc pc = .ok (.lreturn, 1)) : W p l e R s m args below meth c H locs 0 0 (MQ below (QW G ws A (some (.long r))) args s 0 0 A) (F0 m pc ls [.long r]) :=
  W.lret F.1.1 F.1.2.1 F.2.1 (fun t ht _ => ⟨rfl, by rw [ht]; exact hw.2.1, hw.2.2.2.F ht⟩) hw.2.2.2.2.2 hdg F.2.2
theorem retW_v (F : FX p m c cc nL s args y none own meth) (hw : WD G A s ws H locs) (hdg : decode cc pc = .ok (.return_, 1)) : W p l e R s m args below meth c H locs 0 0 (MQ below (QW G ws A none) args s 0 0 A) (F0 m pc ls []) :=
  W.vret F.1.1 F.1.2.1 F.2.1 (fun t ht _ => ⟨rfl, by rw [ht]; exact hw.2.1, hw.2.2.2.F ht⟩) hw.2.2.2.2.2 hdg F.2.2
/-- a call that changes nothing -/
theorem callO {v : Option Value} {a : Array Value} {g : JFrame} (hr : va_Run p l e R s m args below meth c H locs cells slots 0 0 g rest (QO v a) (fun _ => False)) (kk : W p l e R s m args below meth c H locs cells slots Q { g with pc := g.pc + 3, stack := v.toList ++ rest }) : W p l e R s m args below meth c H locs cells slots Q g := by
  intro T hT X
  obtain ⟨v', st₀, t, T', L, h0, X', hL, e1, -, ⟨hv, hh⟩, st⟩ := hr T hT X
  cases hv
  obtain ⟨t2, a1, b1⟩ := kk T' (by rw [e1, hh, h0]) (Stand.forget X' (fun q h => (hL q h).elim))
  exact ⟨t2, st t2 a1, b1⟩
/-- a call that changes its world -/
theorem callW {v : Option Value} {a : Array Value} {g : JFrame} {A1 : Nat → Prop} {H0 : Heap} (hr : va_Run p l e R s m args below meth c H locs cells slots 0 0 g rest (QW G ws' A1 v a) A1) (hS : va_S A H0 H locs) (hA : ∀ q, A1 q → A q)
    (kk : ∀ (H1 : Heap) (locs1 : List Loc), va_P G.1 vcl ws' H1 → (∀ q : Nat, q < H.size → ¬ A1 q → H1[q]? = H[q]?) → va_S A H0 H1 locs1 → W p l e R s m args below meth c H1 locs1 cells slots Q { g with pc := g.pc + 3, stack := v.toList ++ rest }) : W p l e R s m args below meth c H locs cells slots Q g := by
  intro T hT X
  obtain ⟨v', st₀, t, T', L, h0, X', hL, e1, -, ⟨hv, hP, hz, hk⟩, st⟩ := hr T hT X
  cases hv
  rw [h0] at hz hk
  obtain ⟨t2, a1, b1⟩ := kk T'.heap (locs ++ L) (by rw [e1]; exact hP) (fun q h1 h2 => by rw [e1]; exact hk q h1 h2)
    ⟨Nat.le_trans hS.1 (by rw [e1]; exact hz), fun q h1 h2 => by rw [e1, hk q (Nat.lt_of_lt_of_le h1 hS.1) (fun z => h2 (hA q z))]; exact hS.2.1 q h1 h2, fun q hq => by
      rcases List.mem_append.mp hq with h | h
      · exact hS.2.2 q h
      · exact hA _ (hL q h)⟩ T' rfl X'
  exact ⟨t2, st t2 a1, b1⟩
theorem MO.of {n : Nat} {rm : Room} {av : List Value} {v : Option Value} (hy : plainName y.cls = true) (hn : (lg_sl av).length ≤ n)
    (body : ∀ (p : Program) (e : Env) (s : State) (m : MethodId) (below : List Frame) (meth : Method) (c : Code) (ls : Array Slot), FX p m c cc n s av.toArray y ret y.cls meth → WD G (fun _ => True) s ws s.heap [] → lv_has ls n (lv_args 0 av) →
      W p l e rm s m av.toArray below meth c s.heap [] 0 0 (MQ below (QO v) av.toArray s 0 0 (fun _ => False)) (F0 m 0 ls [])) : MO l y cc n ret rm G ws av v := by
  refine Met.ofW (cc := cc) (maxL := n) (ret := ret) hy rfl ?_
  intro p e s m args below meth c s₁ B hml hv
  obtain ⟨rfl, hP, hK, hD⟩ := hv
  rw [lg_entry_eq]
  exact body p e s m below meth c _ ⟨⟨B.exec, B.bytes, hml, findClass_of_methodNamed B.named, atoms_spec (ws := wM y cc n ret) B.pre⟩, B.returns, B.notSynchronized⟩ ⟨hK, hP, hD, va_S.rf⟩ (lv_entry av hn)
theorem MW.of {n : Nat} {rm : Room} {av : List Value} {v : Option Value} (hy : plainName y.cls = true) (hn : (lg_sl av).length ≤ n)
    (body : ∀ (p : Program) (e : Env) (s : State) (m : MethodId) (below : List Frame) (meth : Method) (c : Code) (ls : Array Slot), FX p m c cc n s av.toArray y ret y.cls meth → WD G (aw ws) s ws s.heap [] → lv_has ls n (lv_args 0 av) →
      W p l e rm s m av.toArray below meth c s.heap [] 0 0 (MQ below (QW G ws' (aw ws) v) av.toArray s 0 0 (aw ws)) (F0 m 0 ls [])) : MW l y cc n ret rm G ws ws' av v := by
  refine Met.ofW (cc := cc) (maxL := n) (ret := ret) hy rfl ?_
  intro p e s m args below meth c s₁ B hml hv
  obtain ⟨rfl, hP, hK, hD⟩ := hv
  rw [lg_entry_eq]
  exact body p e s m below meth c _ ⟨⟨B.exec, B.bytes, hml, findClass_of_methodNamed B.named, atoms_spec (ws := wM y cc n ret) B.pre⟩, B.returns, B.notSynchronized⟩ ⟨hK, hP, hD.own, va_S.rf⟩ (lv_entry av hn)
/-- what the tables say of a method that is called on an object -/
def YV (own : String) (idx : Nat) (y : MethodName) (cy : ByteArray) (n : Nat) (ret : Option FieldType) (k : Nat) : Prop := Cond.code y cy n ret ∈ lw_gt ∧ Cond.initialized y.cls ∈ lw_gt ∧ Cond.methodLink own idx y ∈ lw_gt ∧ Cond.instanceMethod y ∈ lw_gt ∧ Cond.selects y.cls y y ∈ lw_gt ∧ (y.cls ≠ "java/lang/invoke/MethodHandle" ∧ y.cls ≠ "java/lang/invoke/VarHandle" ∧ (parseMethodDescriptor y.desc).map (fun d => d.parameters.length) = some k)
def YS (own : String) (idx : Nat) (y : MethodName) (cy : ByteArray) (n : Nat) (ret : Option FieldType) (k : Nat) : Prop := Cond.code y cy n ret ∈ lw_gt ∧ Cond.initialized y.cls ∈ lw_gt ∧ Cond.methodLink own idx y ∈ lw_gt ∧ Cond.static y ∈ lw_gt ∧ (y.cls ≠ "java/lang/invoke/MethodHandle" ∧ y.cls ≠ "java/lang/invoke/VarHandle" ∧ (parseMethodDescriptor y.desc).map (fun d => d.parameters.length) = some k)
/-- a static method of a nest mate -/
def YN (own : String) (idx : Nat) (y : MethodName) (host : String) (cy : ByteArray) (n : Nat) (ret : Option FieldType) (k : Nat) : Prop := Cond.code y cy n ret ∈ lw_gt ∧ Cond.initialized y.cls ∈ lw_gt ∧ Cond.methodLinkNest own idx y host ∈ lw_gt ∧ Cond.static y ∈ lw_gt ∧ (y.cls ≠ "java/lang/invoke/MethodHandle" ∧ y.cls ≠ "java/lang/invoke/VarHandle" ∧ (parseMethodDescriptor y.desc).map (fun d => d.parameters.length) = some k)
variable {y2 : MethodName} {cy : ByteArray} {n2 k idx ci : Nat} {ret2 : Option FieldType} {rm : Room} {wc wc' : va_W} {b : Nat} {As st0 : List Value} {v : Option Value} {fs : List Value} {host : String}
theorem FX.tb (F : FX p m c cc nL s args y ret own meth) {w : Cond} (h : w ∈ lw_gt) : w.before args s = true := F.1.2.2.2.2 w (List.mem_cons_of_mem _ h)
theorem runV {Qc : Array Value → State → Outcome → State → Prop} {free : Addr → Prop} {q : vw_C} (F : FX p m c cc nL s args y ret own meth) (Y : YV own idx y2 cy n2 ret2 k) (hM : Met l y2 (wM y2 cy n2 ret2) rm (va_Pc (.ref b :: As) (PW G wc)) Qc 0 0 free) (hK : va_K G.1 vcl (tyL G) s) (hP : va_P G.1 vcl wc H) (hD : va_D A wc)
    (he : wc[0]? = some (b, .inr (ci, fs))) (hc : vcl[ci]? = some q) (hq : q.1 = y2.cls) (hrc : rm.cells = 0 ∧ rm.slots = 0) (hR : rm.frames + 1 ≤ R.frames ∧ 8 + (n2 + 11) + rm.locals ≤ R.locals) (hcs : cells ≤ R.cells ∧ slots ≤ R.slots) (hn : As.length = k) (hsz : ls.size = nL) (hst : st0 = As.reverse ++ .ref b :: rest) (hW : (rest.map fun v => v.category).sum ≤ 8) (hdg : decode cc pc = .ok (.invokevirtual idx, 3)) :
    va_Run p l e R s m args below meth c H locs cells slots 0 0 (F0 m pc ls st0) rest (Qc (Value.ref b :: As).toArray) free := by
  have h1 := F.tb Y.2.1
  refine va_runV F.1 hM ⟨callB_of k F.1.2.2.2.2 (wM_good Y.1) rfl hrc.1 hrc.2 h1 (F.tb Y.2.2.1) Y.2.2.2.2.2 hR, F.tb Y.2.2.2.1, F.tb Y.2.2.2.2.1⟩ ⟨PW.blind, ?_, fun U hU hW => ⟨rfl, by rw [hU]; exact hP, va_K.moved hW.alike hK, hD.any⟩⟩ rfl hn hsz hst (lv_room hW) hdg hcs
  have := va_recv hK hP hc he
  rw [hq] at this
  exact this
theorem runS {Qc : Array Value → State → Outcome → State → Prop} {free : Addr → Prop} (F : FX p m c cc nL s args y ret own meth) (Y : YS own idx y2 cy n2 ret2 k) (hM : Met l y2 (wM y2 cy n2 ret2) rm (va_Pc As (PW G wc)) Qc 0 0 free) (hK : va_K G.1 vcl (tyL G) s) (hP : va_P G.1 vcl wc H) (hD : va_D A wc)
    (hrc : rm.cells = 0 ∧ rm.slots = 0) (hR : rm.frames + 1 ≤ R.frames ∧ 8 + (n2 + 11) + rm.locals ≤ R.locals) (hcs : cells ≤ R.cells ∧ slots ≤ R.slots) (hn : As.length = k) (hsz : ls.size = nL) (hst : st0 = As.reverse ++ rest) (hW : (rest.map fun v => v.category).sum ≤ 8) (hdg : decode cc pc = .ok (.invokestatic idx, 3)) :
    va_Run p l e R s m args below meth c H locs cells slots 0 0 (F0 m pc ls st0) rest (Qc As.toArray) free :=
  va_runS F.1 hM ⟨callB_of k F.1.2.2.2.2 (wM_good Y.1) rfl hrc.1 hrc.2 (F.tb Y.2.1) (F.tb Y.2.2.1) Y.2.2.2.2 hR, F.tb Y.2.2.2.1⟩ ⟨PW.blind, fun U hU hW => ⟨rfl, by rw [hU]; exact hP, va_K.moved hW.alike hK, hD.any⟩⟩ rfl hn hsz hst (lv_room hW) hdg hcs
theorem runN {Qc : Array Value → State → Outcome → State → Prop} {free : Addr → Prop} (F : FX p m c cc nL s args y ret own meth) (Y : YN own idx y2 host cy n2 ret2 k) (hM : Met l y2 (wM y2 cy n2 ret2) rm (va_Pc As (PW G wc)) Qc 0 0 free) (hK : va_K G.1 vcl (tyL G) s) (hP : va_P G.1 vcl wc H) (hD : va_D A wc)
    (hrc : rm.cells = 0 ∧ rm.slots = 0) (hR : rm.frames + 1 ≤ R.frames ∧ 8 + (n2 + 11) + rm.locals ≤ R.locals) (hcs : cells ≤ R.cells ∧ slots ≤ R.slots) (hn : As.length = k) (hsz : ls.size = nL) (hst : st0 = As.reverse ++ rest) (hW : (rest.map fun v => v.category).sum ≤ 8) (hdg : decode cc pc = .ok (.invokestatic idx, 3)) :
    va_Run p l e R s m args below meth c H locs cells slots 0 0 (F0 m pc ls st0) rest (Qc As.toArray) free :=
  va_runSN F.1 hM ⟨va_cnB k F.1.2.2.2.2 (wM_good Y.1) rfl hrc.1 hrc.2 (va_Nw.of rfl (F.tb Y.2.2.1)) (F.tb Y.2.1) Y.2.2.2.2 hR, F.tb Y.2.2.2.1, trivial⟩ ⟨PW.blind, fun U hU hW => ⟨rfl, by rw [hU]; exact hP, va_K.moved hW.alike hK, hD.any⟩⟩ rfl hn hsz hst (lv_room hW) hdg hcs
end BASE
end
