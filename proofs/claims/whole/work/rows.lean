section
-- ===== PART A: goes FIRST, ahead of the names: the tables' words, and 'selects' of the private methods out of them =====
/-- a private method of a class that the tables say can be made, by its rows of tables_1 -/
def lw_okq (q : MethodName × Nat) : Prop := (q.1.cls ≠ "java/lang/invoke/MethodHandle" ∧ q.1.cls ≠ "java/lang/invoke/VarHandle") ∧ Cond.instantiable q.1.cls q.2 ∈ tables_1 ∧ Cond.privateMethod q.1 ∈ tables_1 ∧ Cond.instanceMethod q.1 ∈ tables_1
theorem lw_p0 : lw_okq (⟨"PaperLayers", "sheetAt", "(I)LPaperLayers$Sheet;"⟩, 7) := ⟨⟨by decide +kernel, by decide +kernel⟩, List.mem_of_getElem? (i := 12) (by decide +kernel), List.mem_of_getElem? (i := 144) (by decide +kernel), List.mem_of_getElem? (i := 145) (by decide +kernel)⟩
theorem lw_p1 : lw_okq (⟨"PaperLayers", "failed", "(I)I"⟩, 7) := ⟨⟨by decide +kernel, by decide +kernel⟩, List.mem_of_getElem? (i := 12) (by decide +kernel), List.mem_of_getElem? (i := 159) (by decide +kernel), List.mem_of_getElem? (i := 160) (by decide +kernel)⟩
theorem lw_p2 : lw_okq (⟨"PaperLayers$Wall", "begin", "(II)V"⟩, 4) := ⟨⟨by decide +kernel, by decide +kernel⟩, List.mem_of_getElem? (i := 20) (by decide +kernel), List.mem_of_getElem? (i := 187) (by decide +kernel), List.mem_of_getElem? (i := 188) (by decide +kernel)⟩
theorem lw_p3 : lw_okq (⟨"PaperLayers$Wall", "addBelow", "(III)V"⟩, 4) := ⟨⟨by decide +kernel, by decide +kernel⟩, List.mem_of_getElem? (i := 20) (by decide +kernel), List.mem_of_getElem? (i := 192) (by decide +kernel), List.mem_of_getElem? (i := 193) (by decide +kernel)⟩
theorem lw_p4 : lw_okq (⟨"PaperLayers$Wall", "votesOf", "(I)J"⟩, 4) := ⟨⟨by decide +kernel, by decide +kernel⟩, List.mem_of_getElem? (i := 20) (by decide +kernel), List.mem_of_getElem? (i := 257) (by decide +kernel), List.mem_of_getElem? (i := 258) (by decide +kernel)⟩
theorem lw_p5 : lw_okq (⟨"PaperLayers", "afterDays", "(LPaperLayers$Sheet;III)I"⟩, 7) := ⟨⟨by decide +kernel, by decide +kernel⟩, List.mem_of_getElem? (i := 12) (by decide +kernel), List.mem_of_getElem? (i := 312) (by decide +kernel), List.mem_of_getElem? (i := 313) (by decide +kernel)⟩
theorem lw_p6 : lw_okq (⟨"PaperLayers$Wall", "addLike", "(LPaperLayers$Layer;)V"⟩, 4) := ⟨⟨by decide +kernel, by decide +kernel⟩, List.mem_of_getElem? (i := 20) (by decide +kernel), List.mem_of_getElem? (i := 325) (by decide +kernel), List.mem_of_getElem? (i := 326) (by decide +kernel)⟩
theorem lw_p7 : lw_okq (⟨"PaperLayers", "countOrders", "()I"⟩, 7) := ⟨⟨by decide +kernel, by decide +kernel⟩, List.mem_of_getElem? (i := 12) (by decide +kernel), List.mem_of_getElem? (i := 370) (by decide +kernel), List.mem_of_getElem? (i := 371) (by decide +kernel)⟩
theorem lw_p8 : lw_okq (⟨"PaperLayers", "fitsInOrder", "()Z"⟩, 7) := ⟨⟨by decide +kernel, by decide +kernel⟩, List.mem_of_getElem? (i := 12) (by decide +kernel), List.mem_of_getElem? (i := 382) (by decide +kernel), List.mem_of_getElem? (i := 383) (by decide +kernel)⟩
theorem lw_p9 : lw_okq (⟨"PaperLayers$Order", "placeOfNextGreater", "(I)I"⟩, 2) := ⟨⟨by decide +kernel, by decide +kernel⟩, List.mem_of_getElem? (i := 83) (by decide +kernel), List.mem_of_getElem? (i := 403) (by decide +kernel), List.mem_of_getElem? (i := 404) (by decide +kernel)⟩
theorem lw_p10 : lw_okq (⟨"PaperLayers$Order", "swap", "(II)V"⟩, 2) := ⟨⟨by decide +kernel, by decide +kernel⟩, List.mem_of_getElem? (i := 83) (by decide +kernel), List.mem_of_getElem? (i := 407) (by decide +kernel), List.mem_of_getElem? (i := 408) (by decide +kernel)⟩
theorem lw_p11 : lw_okq (⟨"PaperLayers$Order", "reverseFrom", "(I)V"⟩, 2) := ⟨⟨by decide +kernel, by decide +kernel⟩, List.mem_of_getElem? (i := 83) (by decide +kernel), List.mem_of_getElem? (i := 411) (by decide +kernel), List.mem_of_getElem? (i := 412) (by decide +kernel)⟩
theorem lw_p12 : lw_okq (⟨"PaperLayers", "findOrder", "()Z"⟩, 7) := ⟨⟨by decide +kernel, by decide +kernel⟩, List.mem_of_getElem? (i := 12) (by decide +kernel), List.mem_of_getElem? (i := 415) (by decide +kernel), List.mem_of_getElem? (i := 416) (by decide +kernel)⟩
theorem lw_p13 : lw_okq (⟨"PaperLayers", "fitting", "(III)I"⟩, 7) := ⟨⟨by decide +kernel, by decide +kernel⟩, List.mem_of_getElem? (i := 12) (by decide +kernel), List.mem_of_getElem? (i := 424) (by decide +kernel), List.mem_of_getElem? (i := 425) (by decide +kernel)⟩
theorem lw_p14 : lw_okq (⟨"PaperLayers$Sheet", "cut", "(I)I"⟩, 4) := ⟨⟨by decide +kernel, by decide +kernel⟩, List.mem_of_getElem? (i := 97) (by decide +kernel), List.mem_of_getElem? (i := 474) (by decide +kernel), List.mem_of_getElem? (i := 475) (by decide +kernel)⟩
theorem lw_p15 : lw_okq (⟨"PaperLayers", "tellRed", "(LPaperLayers$Layer;)I"⟩, 7) := ⟨⟨by decide +kernel, by decide +kernel⟩, List.mem_of_getElem? (i := 12) (by decide +kernel), List.mem_of_getElem? (i := 498) (by decide +kernel), List.mem_of_getElem? (i := 499) (by decide +kernel)⟩
def lw_privs_1 : List (MethodName × Nat) := [(⟨"PaperLayers", "sheetAt", "(I)LPaperLayers$Sheet;"⟩, 7), (⟨"PaperLayers", "failed", "(I)I"⟩, 7), (⟨"PaperLayers$Wall", "begin", "(II)V"⟩, 4), (⟨"PaperLayers$Wall", "addBelow", "(III)V"⟩, 4), (⟨"PaperLayers$Wall", "votesOf", "(I)J"⟩, 4), (⟨"PaperLayers", "afterDays", "(LPaperLayers$Sheet;III)I"⟩, 7), (⟨"PaperLayers$Wall", "addLike", "(LPaperLayers$Layer;)V"⟩, 4), (⟨"PaperLayers", "countOrders", "()I"⟩, 7), (⟨"PaperLayers", "fitsInOrder", "()Z"⟩, 7), (⟨"PaperLayers$Order", "placeOfNextGreater", "(I)I"⟩, 2), (⟨"PaperLayers$Order", "swap", "(II)V"⟩, 2), (⟨"PaperLayers$Order", "reverseFrom", "(I)V"⟩, 2), (⟨"PaperLayers", "findOrder", "()Z"⟩, 7), (⟨"PaperLayers", "fitting", "(III)I"⟩, 7), (⟨"PaperLayers$Sheet", "cut", "(I)I"⟩, 4), (⟨"PaperLayers", "tellRed", "(LPaperLayers$Layer;)I"⟩, 7)]
theorem lw_r1 : ∀ q ∈ lw_privs_1, lw_okq q := List.forall_mem_cons.mpr ⟨lw_p0, List.forall_mem_cons.mpr ⟨lw_p1, List.forall_mem_cons.mpr ⟨lw_p2, List.forall_mem_cons.mpr ⟨lw_p3, List.forall_mem_cons.mpr ⟨lw_p4, List.forall_mem_cons.mpr ⟨lw_p5, List.forall_mem_cons.mpr ⟨lw_p6, List.forall_mem_cons.mpr ⟨lw_p7, List.forall_mem_cons.mpr ⟨lw_p8, List.forall_mem_cons.mpr ⟨lw_p9, List.forall_mem_cons.mpr ⟨lw_p10, List.forall_mem_cons.mpr ⟨lw_p11, List.forall_mem_cons.mpr ⟨lw_p12, List.forall_mem_cons.mpr ⟨lw_p13, List.forall_mem_cons.mpr ⟨lw_p14, List.forall_mem_cons.mpr ⟨lw_p15, fun _ h => absurd h List.not_mem_nil⟩⟩⟩⟩⟩⟩⟩⟩⟩⟩⟩⟩⟩⟩⟩⟩
theorem lw_p16 : lw_okq (⟨"PaperLayers", "leave", "(I)V"⟩, 7) := ⟨⟨by decide +kernel, by decide +kernel⟩, List.mem_of_getElem? (i := 12) (by decide +kernel), List.mem_of_getElem? (i := 502) (by decide +kernel), List.mem_of_getElem? (i := 503) (by decide +kernel)⟩
theorem lw_p17 : lw_okq (⟨"PaperLayers", "tellTrellis", "(LPaperLayers$Layer;)I"⟩, 7) := ⟨⟨by decide +kernel, by decide +kernel⟩, List.mem_of_getElem? (i := 12) (by decide +kernel), List.mem_of_getElem? (i := 506) (by decide +kernel), List.mem_of_getElem? (i := 507) (by decide +kernel)⟩
theorem lw_p18 : lw_okq (⟨"PaperLayers", "tellStripe", "(LPaperLayers$Layer;)I"⟩, 7) := ⟨⟨by decide +kernel, by decide +kernel⟩, List.mem_of_getElem? (i := 12) (by decide +kernel), List.mem_of_getElem? (i := 510) (by decide +kernel), List.mem_of_getElem? (i := 511) (by decide +kernel)⟩
theorem lw_p19 : lw_okq (⟨"PaperLayers", "strokeRed", "()I"⟩, 7) := ⟨⟨by decide +kernel, by decide +kernel⟩, List.mem_of_getElem? (i := 12) (by decide +kernel), List.mem_of_getElem? (i := 518) (by decide +kernel), List.mem_of_getElem? (i := 519) (by decide +kernel)⟩
theorem lw_p20 : lw_okq (⟨"PaperLayers", "strokeLent", "(LPaperLayers$Layer;)I"⟩, 7) := ⟨⟨by decide +kernel, by decide +kernel⟩, List.mem_of_getElem? (i := 12) (by decide +kernel), List.mem_of_getElem? (i := 522) (by decide +kernel), List.mem_of_getElem? (i := 523) (by decide +kernel)⟩
theorem lw_p21 : lw_okq (⟨"PaperLayersModel", "against", "(IIII)I"⟩, 26) := ⟨⟨by decide +kernel, by decide +kernel⟩, List.mem_of_getElem? (i := 546) (by decide +kernel), List.mem_of_getElem? (i := 644) (by decide +kernel), List.mem_of_getElem? (i := 645) (by decide +kernel)⟩
theorem lw_p22 : lw_okq (⟨"PaperLayersModel", "fails", "(I)I"⟩, 26) := ⟨⟨by decide +kernel, by decide +kernel⟩, List.mem_of_getElem? (i := 546) (by decide +kernel), List.mem_of_getElem? (i := 648) (by decide +kernel), List.mem_of_getElem? (i := 649) (by decide +kernel)⟩
theorem lw_p23 : lw_okq (⟨"PaperLayersModel", "readWall", "(I)Z"⟩, 26) := ⟨⟨by decide +kernel, by decide +kernel⟩, List.mem_of_getElem? (i := 546) (by decide +kernel), List.mem_of_getElem? (i := 652) (by decide +kernel), List.mem_of_getElem? (i := 653) (by decide +kernel)⟩
theorem lw_p24 : lw_okq (⟨"PaperLayersModel", "isSign", "(II)Z"⟩, 26) := ⟨⟨by decide +kernel, by decide +kernel⟩, List.mem_of_getElem? (i := 546) (by decide +kernel), List.mem_of_getElem? (i := 656) (by decide +kernel), List.mem_of_getElem? (i := 657) (by decide +kernel)⟩
theorem lw_p25 : lw_okq (⟨"PaperLayersModel", "digit", "(I)I"⟩, 26) := ⟨⟨by decide +kernel, by decide +kernel⟩, List.mem_of_getElem? (i := 546) (by decide +kernel), List.mem_of_getElem? (i := 660) (by decide +kernel), List.mem_of_getElem? (i := 661) (by decide +kernel)⟩
theorem lw_p26 : lw_okq (⟨"PaperLayersModel", "readLayer", "(I)Z"⟩, 26) := ⟨⟨by decide +kernel, by decide +kernel⟩, List.mem_of_getElem? (i := 546) (by decide +kernel), List.mem_of_getElem? (i := 664) (by decide +kernel), List.mem_of_getElem? (i := 665) (by decide +kernel)⟩
theorem lw_p27 : lw_okq (⟨"PaperLayersModel", "takeWall", "()V"⟩, 26) := ⟨⟨by decide +kernel, by decide +kernel⟩, List.mem_of_getElem? (i := 546) (by decide +kernel), List.mem_of_getElem? (i := 668) (by decide +kernel), List.mem_of_getElem? (i := 669) (by decide +kernel)⟩
theorem lw_p28 : lw_okq (⟨"PaperLayersModel", "isLayer", "(I)Z"⟩, 26) := ⟨⟨by decide +kernel, by decide +kernel⟩, List.mem_of_getElem? (i := 546) (by decide +kernel), List.mem_of_getElem? (i := 676) (by decide +kernel), List.mem_of_getElem? (i := 677) (by decide +kernel)⟩
theorem lw_p29 : lw_okq (⟨"PaperLayersModel", "gripOf", "(I)I"⟩, 26) := ⟨⟨by decide +kernel, by decide +kernel⟩, List.mem_of_getElem? (i := 546) (by decide +kernel), List.mem_of_getElem? (i := 680) (by decide +kernel), List.mem_of_getElem? (i := 681) (by decide +kernel)⟩
theorem lw_p30 : lw_okq (⟨"PaperLayersModel", "liftedNow", "()I"⟩, 26) := ⟨⟨by decide +kernel, by decide +kernel⟩, List.mem_of_getElem? (i := 546) (by decide +kernel), List.mem_of_getElem? (i := 684) (by decide +kernel), List.mem_of_getElem? (i := 685) (by decide +kernel)⟩
theorem lw_p31 : lw_okq (⟨"PaperLayersModel", "orderAsIs", "()V"⟩, 26) := ⟨⟨by decide +kernel, by decide +kernel⟩, List.mem_of_getElem? (i := 546) (by decide +kernel), List.mem_of_getElem? (i := 688) (by decide +kernel), List.mem_of_getElem? (i := 689) (by decide +kernel)⟩
def lw_privs_2 : List (MethodName × Nat) := [(⟨"PaperLayers", "leave", "(I)V"⟩, 7), (⟨"PaperLayers", "tellTrellis", "(LPaperLayers$Layer;)I"⟩, 7), (⟨"PaperLayers", "tellStripe", "(LPaperLayers$Layer;)I"⟩, 7), (⟨"PaperLayers", "strokeRed", "()I"⟩, 7), (⟨"PaperLayers", "strokeLent", "(LPaperLayers$Layer;)I"⟩, 7), (⟨"PaperLayersModel", "against", "(IIII)I"⟩, 26), (⟨"PaperLayersModel", "fails", "(I)I"⟩, 26), (⟨"PaperLayersModel", "readWall", "(I)Z"⟩, 26), (⟨"PaperLayersModel", "isSign", "(II)Z"⟩, 26), (⟨"PaperLayersModel", "digit", "(I)I"⟩, 26), (⟨"PaperLayersModel", "readLayer", "(I)Z"⟩, 26), (⟨"PaperLayersModel", "takeWall", "()V"⟩, 26), (⟨"PaperLayersModel", "isLayer", "(I)Z"⟩, 26), (⟨"PaperLayersModel", "gripOf", "(I)I"⟩, 26), (⟨"PaperLayersModel", "liftedNow", "()I"⟩, 26), (⟨"PaperLayersModel", "orderAsIs", "()V"⟩, 26)]
theorem lw_r2 : ∀ q ∈ lw_privs_2, lw_okq q := List.forall_mem_cons.mpr ⟨lw_p16, List.forall_mem_cons.mpr ⟨lw_p17, List.forall_mem_cons.mpr ⟨lw_p18, List.forall_mem_cons.mpr ⟨lw_p19, List.forall_mem_cons.mpr ⟨lw_p20, List.forall_mem_cons.mpr ⟨lw_p21, List.forall_mem_cons.mpr ⟨lw_p22, List.forall_mem_cons.mpr ⟨lw_p23, List.forall_mem_cons.mpr ⟨lw_p24, List.forall_mem_cons.mpr ⟨lw_p25, List.forall_mem_cons.mpr ⟨lw_p26, List.forall_mem_cons.mpr ⟨lw_p27, List.forall_mem_cons.mpr ⟨lw_p28, List.forall_mem_cons.mpr ⟨lw_p29, List.forall_mem_cons.mpr ⟨lw_p30, List.forall_mem_cons.mpr ⟨lw_p31, fun _ h => absurd h List.not_mem_nil⟩⟩⟩⟩⟩⟩⟩⟩⟩⟩⟩⟩⟩⟩⟩⟩
theorem lw_p32 : lw_okq (⟨"PaperLayersModel", "liftedBy", "(III)I"⟩, 26) := ⟨⟨by decide +kernel, by decide +kernel⟩, List.mem_of_getElem? (i := 546) (by decide +kernel), List.mem_of_getElem? (i := 692) (by decide +kernel), List.mem_of_getElem? (i := 693) (by decide +kernel)⟩
theorem lw_p33 : lw_okq (⟨"PaperLayersModel", "heardNow", "()I"⟩, 26) := ⟨⟨by decide +kernel, by decide +kernel⟩, List.mem_of_getElem? (i := 546) (by decide +kernel), List.mem_of_getElem? (i := 699) (by decide +kernel), List.mem_of_getElem? (i := 700) (by decide +kernel)⟩
theorem lw_p34 : lw_okq (⟨"PaperLayersModel", "heardBy", "(III)I"⟩, 26) := ⟨⟨by decide +kernel, by decide +kernel⟩, List.mem_of_getElem? (i := 546) (by decide +kernel), List.mem_of_getElem? (i := 703) (by decide +kernel), List.mem_of_getElem? (i := 704) (by decide +kernel)⟩
theorem lw_p35 : lw_okq (⟨"PaperLayersModel", "counselBy", "(III)I"⟩, 26) := ⟨⟨by decide +kernel, by decide +kernel⟩, List.mem_of_getElem? (i := 546) (by decide +kernel), List.mem_of_getElem? (i := 730) (by decide +kernel), List.mem_of_getElem? (i := 731) (by decide +kernel)⟩
theorem lw_p36 : lw_okq (⟨"PaperLayersModel", "givers", "(II)I"⟩, 26) := ⟨⟨by decide +kernel, by decide +kernel⟩, List.mem_of_getElem? (i := 546) (by decide +kernel), List.mem_of_getElem? (i := 734) (by decide +kernel), List.mem_of_getElem? (i := 735) (by decide +kernel)⟩
theorem lw_p37 : lw_okq (⟨"PaperLayersModel", "putOn", "(III)V"⟩, 26) := ⟨⟨by decide +kernel, by decide +kernel⟩, List.mem_of_getElem? (i := 546) (by decide +kernel), List.mem_of_getElem? (i := 749) (by decide +kernel), List.mem_of_getElem? (i := 750) (by decide +kernel)⟩
theorem lw_p38 : lw_okq (⟨"PaperLayersModel", "mayPeel", "()Z"⟩, 26) := ⟨⟨by decide +kernel, by decide +kernel⟩, List.mem_of_getElem? (i := 546) (by decide +kernel), List.mem_of_getElem? (i := 757) (by decide +kernel), List.mem_of_getElem? (i := 758) (by decide +kernel)⟩
theorem lw_p39 : lw_okq (⟨"PaperLayersModel", "takeOff", "()I"⟩, 26) := ⟨⟨by decide +kernel, by decide +kernel⟩, List.mem_of_getElem? (i := 546) (by decide +kernel), List.mem_of_getElem? (i := 761) (by decide +kernel), List.mem_of_getElem? (i := 762) (by decide +kernel)⟩
theorem lw_p40 : lw_okq (⟨"PaperLayersModel", "keep", "()V"⟩, 26) := ⟨⟨by decide +kernel, by decide +kernel⟩, List.mem_of_getElem? (i := 546) (by decide +kernel), List.mem_of_getElem? (i := 772) (by decide +kernel), List.mem_of_getElem? (i := 773) (by decide +kernel)⟩
theorem lw_p41 : lw_okq (⟨"PaperLayersModel", "goDays", "(II)I"⟩, 26) := ⟨⟨by decide +kernel, by decide +kernel⟩, List.mem_of_getElem? (i := 546) (by decide +kernel), List.mem_of_getElem? (i := 776) (by decide +kernel), List.mem_of_getElem? (i := 777) (by decide +kernel)⟩
theorem lw_p42 : lw_okq (⟨"PaperLayersModel", "does", "(II)Z"⟩, 26) := ⟨⟨by decide +kernel, by decide +kernel⟩, List.mem_of_getElem? (i := 546) (by decide +kernel), List.mem_of_getElem? (i := 780) (by decide +kernel), List.mem_of_getElem? (i := 781) (by decide +kernel)⟩
theorem lw_p43 : lw_okq (⟨"PaperLayersModel", "tellDays", "(I)I"⟩, 26) := ⟨⟨by decide +kernel, by decide +kernel⟩, List.mem_of_getElem? (i := 546) (by decide +kernel), List.mem_of_getElem? (i := 784) (by decide +kernel), List.mem_of_getElem? (i := 785) (by decide +kernel)⟩
theorem lw_p44 : lw_okq (⟨"PaperLayersModel", "putBack", "()V"⟩, 26) := ⟨⟨by decide +kernel, by decide +kernel⟩, List.mem_of_getElem? (i := 546) (by decide +kernel), List.mem_of_getElem? (i := 788) (by decide +kernel), List.mem_of_getElem? (i := 789) (by decide +kernel)⟩
theorem lw_p45 : lw_okq (⟨"PaperLayersModel", "orderBy", "(I)V"⟩, 26) := ⟨⟨by decide +kernel, by decide +kernel⟩, List.mem_of_getElem? (i := 546) (by decide +kernel), List.mem_of_getElem? (i := 819) (by decide +kernel), List.mem_of_getElem? (i := 820) (by decide +kernel)⟩
theorem lw_p46 : lw_okq (⟨"PaperLayersModel", "areSo", "()Z"⟩, 26) := ⟨⟨by decide +kernel, by decide +kernel⟩, List.mem_of_getElem? (i := 546) (by decide +kernel), List.mem_of_getElem? (i := 823) (by decide +kernel), List.mem_of_getElem? (i := 824) (by decide +kernel)⟩
theorem lw_p47 : lw_okq (⟨"PaperLayersModel", "lost", "(I)J"⟩, 26) := ⟨⟨by decide +kernel, by decide +kernel⟩, List.mem_of_getElem? (i := 546) (by decide +kernel), List.mem_of_getElem? (i := 864) (by decide +kernel), List.mem_of_getElem? (i := 865) (by decide +kernel)⟩
def lw_privs_3 : List (MethodName × Nat) := [(⟨"PaperLayersModel", "liftedBy", "(III)I"⟩, 26), (⟨"PaperLayersModel", "heardNow", "()I"⟩, 26), (⟨"PaperLayersModel", "heardBy", "(III)I"⟩, 26), (⟨"PaperLayersModel", "counselBy", "(III)I"⟩, 26), (⟨"PaperLayersModel", "givers", "(II)I"⟩, 26), (⟨"PaperLayersModel", "putOn", "(III)V"⟩, 26), (⟨"PaperLayersModel", "mayPeel", "()Z"⟩, 26), (⟨"PaperLayersModel", "takeOff", "()I"⟩, 26), (⟨"PaperLayersModel", "keep", "()V"⟩, 26), (⟨"PaperLayersModel", "goDays", "(II)I"⟩, 26), (⟨"PaperLayersModel", "does", "(II)Z"⟩, 26), (⟨"PaperLayersModel", "tellDays", "(I)I"⟩, 26), (⟨"PaperLayersModel", "putBack", "()V"⟩, 26), (⟨"PaperLayersModel", "orderBy", "(I)V"⟩, 26), (⟨"PaperLayersModel", "areSo", "()Z"⟩, 26), (⟨"PaperLayersModel", "lost", "(I)J"⟩, 26)]
theorem lw_r3 : ∀ q ∈ lw_privs_3, lw_okq q := List.forall_mem_cons.mpr ⟨lw_p32, List.forall_mem_cons.mpr ⟨lw_p33, List.forall_mem_cons.mpr ⟨lw_p34, List.forall_mem_cons.mpr ⟨lw_p35, List.forall_mem_cons.mpr ⟨lw_p36, List.forall_mem_cons.mpr ⟨lw_p37, List.forall_mem_cons.mpr ⟨lw_p38, List.forall_mem_cons.mpr ⟨lw_p39, List.forall_mem_cons.mpr ⟨lw_p40, List.forall_mem_cons.mpr ⟨lw_p41, List.forall_mem_cons.mpr ⟨lw_p42, List.forall_mem_cons.mpr ⟨lw_p43, List.forall_mem_cons.mpr ⟨lw_p44, List.forall_mem_cons.mpr ⟨lw_p45, List.forall_mem_cons.mpr ⟨lw_p46, List.forall_mem_cons.mpr ⟨lw_p47, fun _ h => absurd h List.not_mem_nil⟩⟩⟩⟩⟩⟩⟩⟩⟩⟩⟩⟩⟩⟩⟩⟩
theorem lw_p48 : lw_okq (⟨"PaperLayersModel", "begins", "(I)V"⟩, 26) := ⟨⟨by decide +kernel, by decide +kernel⟩, List.mem_of_getElem? (i := 546) (by decide +kernel), List.mem_of_getElem? (i := 876) (by decide +kernel), List.mem_of_getElem? (i := 877) (by decide +kernel)⟩
def lw_privs_4 : List (MethodName × Nat) := [(⟨"PaperLayersModel", "begins", "(I)V"⟩, 26)]
theorem lw_r4 : ∀ q ∈ lw_privs_4, lw_okq q := List.forall_mem_cons.mpr ⟨lw_p48, fun _ h => absurd h List.not_mem_nil⟩
def lw_privs : List (MethodName × Nat) := lw_privs_1 ++ (lw_privs_2 ++ (lw_privs_3 ++ (lw_privs_4)))
def lw_tbl : List Cond := k2_sels lw_privs ++ tables_1
theorem lw_privs_ok : ∀ q ∈ lw_privs, lw_okq q := by
  show ∀ q ∈ lw_privs_1 ++ (lw_privs_2 ++ (lw_privs_3 ++ (lw_privs_4))), lw_okq q
  exact List.forall_mem_append.mpr ⟨lw_r1, List.forall_mem_append.mpr ⟨lw_r2, List.forall_mem_append.mpr ⟨lw_r3, lw_r4⟩⟩⟩
end
section
/-! ===== BEGIN words of one list among another's, by their places ===== -/
theorem goodIn_r {big : List Cond} (ws : List Cond) (ps : List Nat) (hp : ws = ps.filterMap (fun i => big[i]?)) (h : ws.all goodWord = true) : GoodIn big ws := by
  intro w hw
  have h1 := List.all_eq_true.mp h w hw
  rw [hp] at hw
  obtain ⟨i, -, hi⟩ := List.mem_filterMap.mp hw
  have hm : w ∈ big := by first | exact List.mem_of_getElem? hi | exact List.getElem?_mem hi
  exact ⟨hm, good_of_word h1⟩
theorem goodIn_app {big a b : List Cond} (ha : GoodIn big a) (hb : GoodIn big b) : GoodIn big (a ++ b) := fun w h => (List.mem_append.mp h).elim (ha w) (hb w)
theorem goodIn_ca {big a b : List Cond} {c : Cond} (ha : GoodIn big (c :: a)) (hb : GoodIn big b) : GoodIn big (c :: (a ++ b)) := fun w h => (List.mem_cons.mp h).elim (fun e => ha w (List.mem_cons.mpr (Or.inl e))) (fun h => (List.mem_append.mp h).elim (fun h => ha w (List.mem_cons.mpr (Or.inr h))) (hb w))
theorem goodIn_sub {big ws : List Cond} (hm : ∀ w ∈ ws, w ∈ big) (h : ws.all goodWord = true) : GoodIn big ws := fun w hw => ⟨hm w hw, good_of_word (List.all_eq_true.mp h w hw)⟩
/-! ===== END ===== -/

/-! ===== BEGIN printed: names, fields, word lists, decode rows ===== -/
def RX0 : String := "PaperLayers$Layer"
def TX0 : u_T := fun k => match k with
  | 0 => ("PaperLayers$Layer", "kind", "I", false)
  | 1 => ("PaperLayers$Layer", "hold", "I", false)
  | _ => ("PaperLayers$Layer", "advice", "I", false)
def tyX0 : Nat → FieldType := fun k => match k with
  | 0 => .int
  | 1 => .int
  | _ => .int
abbrev wsX00 : List Cond := u_ws RX0 TX0 3
theorem nmX0 : ∀ a, a < 3 → ∀ b, b < 3 → a ≠ b → (TX0 a).2.1 ≠ (TX0 b).2.1 := by decide +kernel
theorem tyX0_ok : ∀ k, k < 3 → parseFieldDescriptor (TX0 k).2.2.1 = some (tyX0 k) := by decide +kernel
abbrev cX0_init : ByteArray := prog_2_method_1_code
def yX0_init : MethodName := ⟨RX0, "<init>", "()V"⟩
abbrev cX0_become : ByteArray := prog_2_method_2_code
def yX0_become : MethodName := ⟨RX0, "become", "(III)V"⟩
abbrev cX0_becomeLike : ByteArray := prog_2_method_3_code
def yX0_becomeLike : MethodName := ⟨RX0, "becomeLike", "(LPaperLayers$Layer;)V"⟩
abbrev cX0_grip : ByteArray := prog_2_method_4_code
def yX0_grip : MethodName := ⟨RX0, "grip", "()I"⟩
abbrev cX0_isA : ByteArray := prog_2_method_5_code
def yX0_isA : MethodName := ⟨RX0, "isA", "(I)Z"⟩
def RX1 : String := "PaperLayers$Order"
def TX1 : u_T := fun k => match k with
  | 0 => ("PaperLayers$Order", "row", "[I", true)
  | _ => ("PaperLayers$Order", "count", "I", false)
def tyX1 : Nat → FieldType := fun k => match k with
  | 0 => .array .int
  | _ => .int
abbrev wsX10 : List Cond := u_ws RX1 TX1 2
theorem nmX1 : ∀ a, a < 2 → ∀ b, b < 2 → a ≠ b → (TX1 a).2.1 ≠ (TX1 b).2.1 := by decide +kernel
theorem tyX1_ok : ∀ k, k < 2 → parseFieldDescriptor (TX1 k).2.2.1 = some (tyX1 k) := by decide +kernel
abbrev cX1_init : ByteArray := prog_3_method_1_code
def yX1_init : MethodName := ⟨RX1, "<init>", "()V"⟩
abbrev cX1_begin : ByteArray := prog_3_method_2_code
def yX1_begin : MethodName := ⟨RX1, "begin", "(I)V"⟩
abbrev cX1_layerIn : ByteArray := prog_3_method_3_code
def yX1_layerIn : MethodName := ⟨RX1, "layerIn", "(I)I"⟩
abbrev cX1_next : ByteArray := prog_3_method_4_code
def yX1_next : MethodName := ⟨RX1, "next", "()Z"⟩
abbrev cX1_placeOfNextGreater : ByteArray := prog_3_method_5_code
def yX1_placeOfNextGreater : MethodName := ⟨RX1, "placeOfNextGreater", "(I)I"⟩
abbrev cX1_reverseFrom : ByteArray := prog_3_method_6_code
def yX1_reverseFrom : MethodName := ⟨RX1, "reverseFrom", "(I)V"⟩
abbrev cX1_swap : ByteArray := prog_3_method_7_code
def yX1_swap : MethodName := ⟨RX1, "swap", "(II)V"⟩
def RX2 : String := "PaperLayers$Readings"
def TX2 : u_T := fun k => match k with
  | 0 => ("PaperLayers$Readings", "warmths", "[I", true)
  | 1 => ("PaperLayers$Readings", "counsels", "[I", true)
  | _ => ("PaperLayers$Readings", "count", "I", false)
def tyX2 : Nat → FieldType := fun k => match k with
  | 0 => .array .int
  | 1 => .array .int
  | _ => .int
abbrev wsX20 : List Cond := u_ws RX2 TX2 3
theorem nmX2 : ∀ a, a < 3 → ∀ b, b < 3 → a ≠ b → (TX2 a).2.1 ≠ (TX2 b).2.1 := by decide +kernel
theorem tyX2_ok : ∀ k, k < 3 → parseFieldDescriptor (TX2 k).2.2.1 = some (tyX2 k) := by decide +kernel
abbrev cX2_init : ByteArray := prog_4_method_1_code
def yX2_init : MethodName := ⟨RX2, "<init>", "()V"⟩
abbrev cX2_note : ByteArray := prog_4_method_2_code
def yX2_note : MethodName := ⟨RX2, "note", "(II)Z"⟩
abbrev cX2_agreeWith : ByteArray := prog_4_method_3_code
def yX2_agreeWith : MethodName := ⟨RX2, "agreeWith", "(LPaperLayers$Wall;)Z"⟩
def RX3 : String := "PaperLayers$Sheet"
def TX3 : u_T := fun k => match k with
  | 0 => ("PaperLayers$Sheet", "cells", "[I", true)
  | 1 => ("PaperLayers$Sheet", "hasRow", "Z", false)
  | 2 => ("PaperLayers$Sheet", "lane", "I", false)
  | _ => ("PaperLayers$Sheet", "length", "I", false)
def tyX3 : Nat → FieldType := fun k => match k with
  | 0 => .array .int
  | 1 => .boolean
  | 2 => .int
  | _ => .int
abbrev wsX30 : List Cond := u_ws RX3 TX3 4
theorem nmX3 : ∀ a, a < 4 → ∀ b, b < 4 → a ≠ b → (TX3 a).2.1 ≠ (TX3 b).2.1 := by decide +kernel
theorem tyX3_ok : ∀ k, k < 4 → parseFieldDescriptor (TX3 k).2.2.1 = some (tyX3 k) := by decide +kernel
abbrev cX3_init : ByteArray := prog_5_method_1_code
def yX3_init : MethodName := ⟨RX3, "<init>", "()V"⟩
abbrev cX3_begin : ByteArray := prog_5_method_2_code
def yX3_begin : MethodName := ⟨RX3, "begin", "(II)V"⟩
abbrev cX3_faultAsLane : ByteArray := prog_5_method_3_code
def yX3_faultAsLane : MethodName := ⟨RX3, "faultAsLane", "(I)I"⟩
abbrev cX3_faultOfCell : ByteArray := prog_5_method_4_code
def yX3_faultOfCell : MethodName := ⟨RX3, "faultOfCell", "(I)I"⟩
abbrev cX3_faultOfCells : ByteArray := prog_5_method_5_code
def yX3_faultOfCells : MethodName := ⟨RX3, "faultOfCells", "(II)I"⟩
abbrev cX3_faultOfCopy : ByteArray := prog_5_method_6_code
def yX3_faultOfCopy : MethodName := ⟨RX3, "faultOfCopy", "(ILPaperLayers$Sheet;II)I"⟩
abbrev cX3_getCell : ByteArray := prog_5_method_7_code
def yX3_getCell : MethodName := ⟨RX3, "getCell", "(I)I"⟩
abbrev cX3_setCell : ByteArray := prog_5_method_8_code
def yX3_setCell : MethodName := ⟨RX3, "setCell", "(II)V"⟩
abbrev cX3_cut : ByteArray := prog_5_method_9_code
def yX3_cut : MethodName := ⟨RX3, "cut", "(I)I"⟩
def RX4 : String := "PaperLayers$Wall"
def TX4 : u_T := fun k => match k with
  | 0 => ("PaperLayers$Wall", "layers", "[LPaperLayers$Layer;", true)
  | 1 => ("PaperLayers$Wall", "count", "I", false)
  | 2 => ("PaperLayers$Wall", "warm", "I", false)
  | _ => ("PaperLayers$Wall", "damp", "I", false)
def tyX4 : Nat → FieldType := fun k => match k with
  | 0 => .array (.object "PaperLayers$Layer")
  | 1 => .int
  | 2 => .int
  | _ => .int
abbrev wsX40 : List Cond := u_ws RX4 TX4 4
theorem nmX4 : ∀ a, a < 4 → ∀ b, b < 4 → a ≠ b → (TX4 a).2.1 ≠ (TX4 b).2.1 := by decide +kernel
theorem tyX4_ok : ∀ k, k < 4 → parseFieldDescriptor (TX4 k).2.2.1 = some (tyX4 k) := by decide +kernel
abbrev cX4_init : ByteArray := prog_6_method_1_code
def yX4_init : MethodName := ⟨RX4, "<init>", "()V"⟩
abbrev cX4_stands : ByteArray := prog_6_method_2_code
def yX4_stands : MethodName := ⟨RX4, "stands", "()Z"⟩
abbrev cX4_layerAt : ByteArray := prog_6_method_3_code
def yX4_layerAt : MethodName := ⟨RX4, "layerAt", "(I)LPaperLayers$Layer;"⟩
abbrev cX4_warmth : ByteArray := prog_6_method_4_code
def yX4_warmth : MethodName := ⟨RX4, "warmth", "()I"⟩
abbrev cX4_liftedBy : ByteArray := prog_6_method_5_code
def yX4_liftedBy : MethodName := ⟨RX4, "liftedBy", "(I)I"⟩
abbrev cX4_heardBy : ByteArray := prog_6_method_6_code
def yX4_heardBy : MethodName := ⟨RX4, "heardBy", "(I)I"⟩
abbrev cX4_counselBy : ByteArray := prog_6_method_7_code
def yX4_counselBy : MethodName := ⟨RX4, "counselBy", "(I)I"⟩
abbrev cX4_mostAlike : ByteArray := prog_6_method_8_code
def yX4_mostAlike : MethodName := ⟨RX4, "mostAlike", "(I)I"⟩
abbrev cX4_votesOf : ByteArray := prog_6_method_9_code
def yX4_votesOf : MethodName := ⟨RX4, "votesOf", "(I)J"⟩
abbrev cX4_votesFor : ByteArray := prog_6_method_10_code
def yX4_votesFor : MethodName := ⟨RX4, "votesFor", "(IJ)I"⟩
abbrev cX4_unlikeTwos : ByteArray := prog_6_method_11_code
def yX4_unlikeTwos : MethodName := ⟨RX4, "unlikeTwos", "(I)I"⟩
abbrev cX4_layOnTop : ByteArray := prog_6_method_12_code
def yX4_layOnTop : MethodName := ⟨RX4, "layOnTop", "(III)Z"⟩
abbrev cX4_peelTop : ByteArray := prog_6_method_13_code
def yX4_peelTop : MethodName := ⟨RX4, "peelTop", "()Z"⟩
abbrev cX4_doAct : ByteArray := prog_6_method_14_code
def yX4_doAct : MethodName := ⟨RX4, "doAct", "(II)Z"⟩
abbrev cX4_change : ByteArray := prog_6_method_15_code
def yX4_change : MethodName := ⟨RX4, "change", "(III)V"⟩
abbrev cX4_readText : ByteArray := prog_6_method_16_code
def yX4_readText : MethodName := ⟨RX4, "readText", "(LPaperLayers$Sheet;II)V"⟩
abbrev cX4_digitAt : ByteArray := prog_6_method_17_code
def yX4_digitAt : MethodName := ⟨RX4, "digitAt", "(LPaperLayers$Sheet;I)I"⟩
abbrev cX4_begin : ByteArray := prog_6_method_18_code
def yX4_begin : MethodName := ⟨RX4, "begin", "(II)V"⟩
abbrev cX4_addBelow : ByteArray := prog_6_method_19_code
def yX4_addBelow : MethodName := ⟨RX4, "addBelow", "(III)V"⟩
abbrev cX4_addLike : ByteArray := prog_6_method_20_code
def yX4_addLike : MethodName := ⟨RX4, "addLike", "(LPaperLayers$Layer;)V"⟩
abbrev cX4_become : ByteArray := prog_6_method_21_code
def yX4_become : MethodName := ⟨RX4, "become", "(LPaperLayers$Wall;)V"⟩
abbrev cX4_becomeLess : ByteArray := prog_6_method_22_code
def yX4_becomeLess : MethodName := ⟨RX4, "becomeLess", "(LPaperLayers$Wall;I)V"⟩
abbrev cX4_becomeOrdered : ByteArray := prog_6_method_23_code
def yX4_becomeOrdered : MethodName := ⟨RX4, "becomeOrdered", "(LPaperLayers$Wall;LPaperLayers$Order;)V"⟩
def RX5 : String := "PaperLayers"
def TX5 : u_T := fun k => match k with
  | 0 => ("PaperLayers", "now", "LPaperLayers$Wall;", true)
  | 1 => ("PaperLayers", "trial", "LPaperLayers$Wall;", true)
  | 2 => ("PaperLayers", "readings", "LPaperLayers$Readings;", true)
  | 3 => ("PaperLayers", "order", "LPaperLayers$Order;", true)
  | 4 => ("PaperLayers", "sheets", "[LPaperLayers$Sheet;", true)
  | 5 => ("PaperLayers", "traced", "I", false)
  | _ => ("PaperLayers", "latestFault", "I", false)
def tyX5 : Nat → FieldType := fun k => match k with
  | 0 => .object "PaperLayers$Wall"
  | 1 => .object "PaperLayers$Wall"
  | 2 => .object "PaperLayers$Readings"
  | 3 => .object "PaperLayers$Order"
  | 4 => .array (.object "PaperLayers$Sheet")
  | 5 => .int
  | _ => .int
abbrev wsX50 : List Cond := u_ws RX5 TX5 7
theorem nmX5 : ∀ a, a < 7 → ∀ b, b < 7 → a ≠ b → (TX5 a).2.1 ≠ (TX5 b).2.1 := by decide +kernel
theorem tyX5_ok : ∀ k, k < 7 → parseFieldDescriptor (TX5 k).2.2.1 = some (tyX5 k) := by decide +kernel
abbrev cX5_init : ByteArray := prog_1_method_1_code
def yX5_init : MethodName := ⟨RX5, "<init>", "()V"⟩
abbrev cX5_wall : ByteArray := prog_1_method_2_code
def yX5_wall : MethodName := ⟨RX5, "wall", "(IIII)I"⟩
abbrev cX5_ofLayer : ByteArray := prog_1_method_3_code
def yX5_ofLayer : MethodName := ⟨RX5, "ofLayer", "(II)I"⟩
abbrev cX5_heat : ByteArray := prog_1_method_4_code
def yX5_heat : MethodName := ⟨RX5, "heat", "(I)I"⟩
abbrev cX5_wet : ByteArray := prog_1_method_5_code
def yX5_wet : MethodName := ⟨RX5, "wet", "(I)I"⟩
abbrev cX5_paste : ByteArray := prog_1_method_6_code
def yX5_paste : MethodName := ⟨RX5, "paste", "(II)I"⟩
abbrev cX5_heard : ByteArray := prog_1_method_7_code
def yX5_heard : MethodName := ⟨RX5, "heard", "()I"⟩
abbrev cX5_counsel : ByteArray := prog_1_method_8_code
def yX5_counsel : MethodName := ⟨RX5, "counsel", "(II)I"⟩
abbrev cX5_clash : ByteArray := prog_1_method_9_code
def yX5_clash : MethodName := ⟨RX5, "clash", "(I)I"⟩
abbrev cX5_putUp : ByteArray := prog_1_method_10_code
def yX5_putUp : MethodName := ⟨RX5, "putUp", "(III)I"⟩
abbrev cX5_peel : ByteArray := prog_1_method_11_code
def yX5_peel : MethodName := ⟨RX5, "peel", "()I"⟩
abbrev cX5_days : ByteArray := prog_1_method_12_code
def yX5_days : MethodName := ⟨RX5, "days", "(IIIII)I"⟩
abbrev cX5_needs : ByteArray := prog_1_method_13_code
def yX5_needs : MethodName := ⟨RX5, "needs", "(I)I"⟩
abbrev cX5_gets : ByteArray := prog_1_method_14_code
def yX5_gets : MethodName := ⟨RX5, "gets", "(I)I"⟩
abbrev cX5_without : ByteArray := prog_1_method_15_code
def yX5_without : MethodName := ⟨RX5, "without", "(I)I"⟩
abbrev cX5_reading : ByteArray := prog_1_method_16_code
def yX5_reading : MethodName := ⟨RX5, "reading", "(III)I"⟩
abbrev cX5_back : ByteArray := prog_1_method_17_code
def yX5_back : MethodName := ⟨RX5, "back", "(I)I"⟩
abbrev cX5_orders : ByteArray := prog_1_method_18_code
def yX5_orders : MethodName := ⟨RX5, "orders", "(I)I"⟩
abbrev cX5_holds : ByteArray := prog_1_method_19_code
def yX5_holds : MethodName := ⟨RX5, "holds", "(I)I"⟩
abbrev cX5_advices : ByteArray := prog_1_method_20_code
def yX5_advices : MethodName := ⟨RX5, "advices", "(I)I"⟩
abbrev cX5_kinds : ByteArray := prog_1_method_21_code
def yX5_kinds : MethodName := ⟨RX5, "kinds", "(I)I"⟩
abbrev cX5_odds : ByteArray := prog_1_method_22_code
def yX5_odds : MethodName := ⟨RX5, "odds", "(II)J"⟩
abbrev cX5_sheet : ByteArray := prog_1_method_23_code
def yX5_sheet : MethodName := ⟨RX5, "sheet", "(III)I"⟩
abbrev cX5_lose : ByteArray := prog_1_method_24_code
def yX5_lose : MethodName := ⟨RX5, "lose", "(I)I"⟩
abbrev cX5_put : ByteArray := prog_1_method_25_code
def yX5_put : MethodName := ⟨RX5, "put", "(III)I"⟩
abbrev cX5_cell : ByteArray := prog_1_method_26_code
def yX5_cell : MethodName := ⟨RX5, "cell", "(III)J"⟩
abbrev cX5_copy : ByteArray := prog_1_method_27_code
def yX5_copy : MethodName := ⟨RX5, "copy", "(IIIII)I"⟩
abbrev cX5_tell : ByteArray := prog_1_method_28_code
def yX5_tell : MethodName := ⟨RX5, "tell", "(I)I"⟩
abbrev cX5_stroke : ByteArray := prog_1_method_29_code
def yX5_stroke : MethodName := ⟨RX5, "stroke", "(I)I"⟩
abbrev cX5_as : ByteArray := prog_1_method_30_code
def yX5_as : MethodName := ⟨RX5, "as", "(II)I"⟩
abbrev cX5_trace : ByteArray := prog_1_method_31_code
def yX5_trace : MethodName := ⟨RX5, "trace", "()I"⟩
abbrev cX5_fault : ByteArray := prog_1_method_32_code
def yX5_fault : MethodName := ⟨RX5, "fault", "()I"⟩
abbrev cX5_many : ByteArray := prog_1_method_33_code
def yX5_many : MethodName := ⟨RX5, "many", "(I)I"⟩
abbrev cX5_isUpTo : ByteArray := prog_1_method_34_code
def yX5_isUpTo : MethodName := ⟨RX5, "isUpTo", "(II)Z"⟩
abbrev cX5_setOfFirst : ByteArray := prog_1_method_35_code
def yX5_setOfFirst : MethodName := ⟨RX5, "setOfFirst", "(I)I"⟩
abbrev cX5_greatestShared : ByteArray := prog_1_method_36_code
def yX5_greatestShared : MethodName := ⟨RX5, "greatestShared", "(II)I"⟩
abbrev cX5_sheetAt : ByteArray := prog_1_method_37_code
def yX5_sheetAt : MethodName := ⟨RX5, "sheetAt", "(I)LPaperLayers$Sheet;"⟩
abbrev cX5_failed : ByteArray := prog_1_method_38_code
def yX5_failed : MethodName := ⟨RX5, "failed", "(I)I"⟩
abbrev cX5_firstFault : ByteArray := prog_1_method_39_code
def yX5_firstFault : MethodName := ⟨RX5, "firstFault", "(LPaperLayers$Sheet;II)I"⟩
abbrev cX5_goesOn : ByteArray := prog_1_method_40_code
def yX5_goesOn : MethodName := ⟨RX5, "goesOn", "(II)Z"⟩
abbrev cX5_isDigit : ByteArray := prog_1_method_41_code
def yX5_isDigit : MethodName := ⟨RX5, "isDigit", "(I)Z"⟩
abbrev cX5_kindOf : ByteArray := prog_1_method_42_code
def yX5_kindOf : MethodName := ⟨RX5, "kindOf", "(I)I"⟩
abbrev cX5_areActs : ByteArray := prog_1_method_43_code
def yX5_areActs : MethodName := ⟨RX5, "areActs", "(LPaperLayers$Sheet;II)Z"⟩
abbrev cX5_isAct : ByteArray := prog_1_method_44_code
def yX5_isAct : MethodName := ⟨RX5, "isAct", "(II)Z"⟩
abbrev cX5_afterDays : ByteArray := prog_1_method_45_code
def yX5_afterDays : MethodName := ⟨RX5, "afterDays", "(LPaperLayers$Sheet;III)I"⟩
abbrev cX5_fitsInOrder : ByteArray := prog_1_method_46_code
def yX5_fitsInOrder : MethodName := ⟨RX5, "fitsInOrder", "()Z"⟩
abbrev cX5_countOrders : ByteArray := prog_1_method_47_code
def yX5_countOrders : MethodName := ⟨RX5, "countOrders", "()I"⟩
abbrev cX5_findOrder : ByteArray := prog_1_method_48_code
def yX5_findOrder : MethodName := ⟨RX5, "findOrder", "()Z"⟩
abbrev cX5_fitting : ByteArray := prog_1_method_49_code
def yX5_fitting : MethodName := ⟨RX5, "fitting", "(III)I"⟩
abbrev cX5_leave : ByteArray := prog_1_method_50_code
def yX5_leave : MethodName := ⟨RX5, "leave", "(I)V"⟩
abbrev cX5_tellStripe : ByteArray := prog_1_method_51_code
def yX5_tellStripe : MethodName := ⟨RX5, "tellStripe", "(LPaperLayers$Layer;)I"⟩
abbrev cX5_tellTrellis : ByteArray := prog_1_method_52_code
def yX5_tellTrellis : MethodName := ⟨RX5, "tellTrellis", "(LPaperLayers$Layer;)I"⟩
abbrev cX5_tellRed : ByteArray := prog_1_method_53_code
def yX5_tellRed : MethodName := ⟨RX5, "tellRed", "(LPaperLayers$Layer;)I"⟩
abbrev cX5_strokeLent : ByteArray := prog_1_method_54_code
def yX5_strokeLent : MethodName := ⟨RX5, "strokeLent", "(LPaperLayers$Layer;)I"⟩
abbrev cX5_strokeRed : ByteArray := prog_1_method_55_code
def yX5_strokeRed : MethodName := ⟨RX5, "strokeRed", "()I"⟩
def RX6 : String := "PaperLayersModel"
def TX6 : u_T := fun k => match k with
  | 0 => ("PaperLayersModel", "fault", "I", false)
  | 1 => ("PaperLayersModel", "trace", "I", false)
  | 2 => ("PaperLayersModel", "sorts", "[I", true)
  | 3 => ("PaperLayersModel", "sheetLong", "[I", true)
  | 4 => ("PaperLayersModel", "cells", "[I", true)
  | 5 => ("PaperLayersModel", "layers", "I", false)
  | 6 => ("PaperLayersModel", "warmNow", "I", false)
  | 7 => ("PaperLayersModel", "dampNow", "I", false)
  | 8 => ("PaperLayersModel", "kind", "[I", true)
  | 9 => ("PaperLayersModel", "hold", "[I", true)
  | 10 => ("PaperLayersModel", "advice", "[I", true)
  | 11 => ("PaperLayersModel", "at", "I", false)
  | 12 => ("PaperLayersModel", "readWarm", "I", false)
  | 13 => ("PaperLayersModel", "readDamp", "I", false)
  | 14 => ("PaperLayersModel", "readLayers", "I", false)
  | 15 => ("PaperLayersModel", "read", "[I", true)
  | 16 => ("PaperLayersModel", "order", "[I", true)
  | 17 => ("PaperLayersModel", "kept", "[I", true)
  | 18 => ("PaperLayersModel", "keptLayers", "I", false)
  | 19 => ("PaperLayersModel", "keptWarm", "I", false)
  | 20 => ("PaperLayersModel", "keptDamp", "I", false)
  | 21 => ("PaperLayersModel", "often", "I", false)
  | 22 => ("PaperLayersModel", "readings", "I", false)
  | 23 => ("PaperLayersModel", "readWarms", "[I", true)
  | 24 => ("PaperLayersModel", "readDamps", "[I", true)
  | _ => ("PaperLayersModel", "readCounsel", "[I", true)
def tyX6 : Nat → FieldType := fun k => match k with
  | 0 => .int
  | 1 => .int
  | 2 => .array .int
  | 3 => .array .int
  | 4 => .array .int
  | 5 => .int
  | 6 => .int
  | 7 => .int
  | 8 => .array .int
  | 9 => .array .int
  | 10 => .array .int
  | 11 => .int
  | 12 => .int
  | 13 => .int
  | 14 => .int
  | 15 => .array .int
  | 16 => .array .int
  | 17 => .array .int
  | 18 => .int
  | 19 => .int
  | 20 => .int
  | 21 => .int
  | 22 => .int
  | 23 => .array .int
  | 24 => .array .int
  | _ => .array .int
abbrev wsX60 : List Cond := u_ws RX6 TX6 26
theorem nmX6 : ∀ a, a < 26 → ∀ b, b < 26 → a ≠ b → (TX6 a).2.1 ≠ (TX6 b).2.1 := by decide +kernel
theorem tyX6_ok : ∀ k, k < 26 → parseFieldDescriptor (TX6 k).2.2.1 = some (tyX6 k) := by decide +kernel
abbrev cX6_init : ByteArray := prog_8_method_1_code
def yX6_init : MethodName := ⟨RX6, "<init>", "()V"⟩
abbrev cX6_fails : ByteArray := prog_8_method_3_code
def yX6_fails : MethodName := ⟨RX6, "fails", "(I)I"⟩
abbrev cX6_lost : ByteArray := prog_8_method_4_code
def yX6_lost : MethodName := ⟨RX6, "lost", "(I)J"⟩
abbrev cX6_within : ByteArray := prog_8_method_5_code
def yX6_within : MethodName := ⟨RX6, "within", "(III)Z"⟩
abbrev cX6_isSheet : ByteArray := prog_8_method_6_code
def yX6_isSheet : MethodName := ⟨RX6, "isSheet", "(I)Z"⟩
abbrev cX6_isSort : ByteArray := prog_8_method_7_code
def yX6_isSort : MethodName := ⟨RX6, "isSort", "(I)Z"⟩
abbrev cX6_against : ByteArray := prog_8_method_8_code
def yX6_against : MethodName := ⟨RX6, "against", "(IIII)I"⟩
abbrev cX6_isLayer : ByteArray := prog_8_method_9_code
def yX6_isLayer : MethodName := ⟨RX6, "isLayer", "(I)Z"⟩
abbrev cX6_isDigit : ByteArray := prog_8_method_10_code
def yX6_isDigit : MethodName := ⟨RX6, "isDigit", "(I)Z"⟩
abbrev cX6_isOf : ByteArray := prog_8_method_11_code
def yX6_isOf : MethodName := ⟨RX6, "isOf", "(II)Z"⟩
abbrev cX6_size : ByteArray := prog_8_method_12_code
def yX6_size : MethodName := ⟨RX6, "size", "(I)I"⟩
abbrev cX6_digit : ByteArray := prog_8_method_13_code
def yX6_digit : MethodName := ⟨RX6, "digit", "(I)I"⟩
abbrev cX6_isSign : ByteArray := prog_8_method_14_code
def yX6_isSign : MethodName := ⟨RX6, "isSign", "(II)Z"⟩
abbrev cX6_wall : ByteArray := prog_8_method_15_code
def yX6_wall : MethodName := ⟨RX6, "wall", "(IIII)I"⟩
abbrev cX6_takeWall : ByteArray := prog_8_method_16_code
def yX6_takeWall : MethodName := ⟨RX6, "takeWall", "()V"⟩
abbrev cX6_readWall : ByteArray := prog_8_method_17_code
def yX6_readWall : MethodName := ⟨RX6, "readWall", "(I)Z"⟩
abbrev cX6_readLayer : ByteArray := prog_8_method_18_code
def yX6_readLayer : MethodName := ⟨RX6, "readLayer", "(I)Z"⟩
abbrev cX6_gripOf : ByteArray := prog_8_method_19_code
def yX6_gripOf : MethodName := ⟨RX6, "gripOf", "(I)I"⟩
abbrev cX6_orderAsIs : ByteArray := prog_8_method_20_code
def yX6_orderAsIs : MethodName := ⟨RX6, "orderAsIs", "()V"⟩
abbrev cX6_liftedBy : ByteArray := prog_8_method_21_code
def yX6_liftedBy : MethodName := ⟨RX6, "liftedBy", "(III)I"⟩
abbrev cX6_heardBy : ByteArray := prog_8_method_22_code
def yX6_heardBy : MethodName := ⟨RX6, "heardBy", "(III)I"⟩
abbrev cX6_givers : ByteArray := prog_8_method_23_code
def yX6_givers : MethodName := ⟨RX6, "givers", "(II)I"⟩
abbrev cX6_counselBy : ByteArray := prog_8_method_24_code
def yX6_counselBy : MethodName := ⟨RX6, "counselBy", "(III)I"⟩
abbrev cX6_heardNow : ByteArray := prog_8_method_25_code
def yX6_heardNow : MethodName := ⟨RX6, "heardNow", "()I"⟩
abbrev cX6_liftedNow : ByteArray := prog_8_method_26_code
def yX6_liftedNow : MethodName := ⟨RX6, "liftedNow", "()I"⟩
abbrev cX6_ofLayer : ByteArray := prog_8_method_27_code
def yX6_ofLayer : MethodName := ⟨RX6, "ofLayer", "(II)I"⟩
abbrev cX6_heat : ByteArray := prog_8_method_28_code
def yX6_heat : MethodName := ⟨RX6, "heat", "(I)I"⟩
abbrev cX6_wet : ByteArray := prog_8_method_29_code
def yX6_wet : MethodName := ⟨RX6, "wet", "(I)I"⟩
abbrev cX6_paste : ByteArray := prog_8_method_30_code
def yX6_paste : MethodName := ⟨RX6, "paste", "(II)I"⟩
abbrev cX6_heard : ByteArray := prog_8_method_31_code
def yX6_heard : MethodName := ⟨RX6, "heard", "()I"⟩
abbrev cX6_counsel : ByteArray := prog_8_method_32_code
def yX6_counsel : MethodName := ⟨RX6, "counsel", "(II)I"⟩
abbrev cX6_clash : ByteArray := prog_8_method_33_code
def yX6_clash : MethodName := ⟨RX6, "clash", "(I)I"⟩
abbrev cX6_putOn : ByteArray := prog_8_method_34_code
def yX6_putOn : MethodName := ⟨RX6, "putOn", "(III)V"⟩
abbrev cX6_takeOff : ByteArray := prog_8_method_35_code
def yX6_takeOff : MethodName := ⟨RX6, "takeOff", "()I"⟩
abbrev cX6_mayPeel : ByteArray := prog_8_method_36_code
def yX6_mayPeel : MethodName := ⟨RX6, "mayPeel", "()Z"⟩
abbrev cX6_putUp : ByteArray := prog_8_method_37_code
def yX6_putUp : MethodName := ⟨RX6, "putUp", "(III)I"⟩
abbrev cX6_peel : ByteArray := prog_8_method_38_code
def yX6_peel : MethodName := ⟨RX6, "peel", "()I"⟩
abbrev cX6_keep : ByteArray := prog_8_method_39_code
def yX6_keep : MethodName := ⟨RX6, "keep", "()V"⟩
abbrev cX6_putBack : ByteArray := prog_8_method_40_code
def yX6_putBack : MethodName := ⟨RX6, "putBack", "()V"⟩
abbrev cX6_isPair : ByteArray := prog_8_method_41_code
def yX6_isPair : MethodName := ⟨RX6, "isPair", "(II)Z"⟩
abbrev cX6_does : ByteArray := prog_8_method_42_code
def yX6_does : MethodName := ⟨RX6, "does", "(II)Z"⟩
abbrev cX6_goDays : ByteArray := prog_8_method_43_code
def yX6_goDays : MethodName := ⟨RX6, "goDays", "(II)I"⟩
abbrev cX6_days : ByteArray := prog_8_method_44_code
def yX6_days : MethodName := ⟨RX6, "days", "(IIIII)I"⟩
abbrev cX6_tellDays : ByteArray := prog_8_method_45_code
def yX6_tellDays : MethodName := ⟨RX6, "tellDays", "(I)I"⟩
abbrev cX6_needs : ByteArray := prog_8_method_46_code
def yX6_needs : MethodName := ⟨RX6, "needs", "(I)I"⟩
abbrev cX6_gets : ByteArray := prog_8_method_47_code
def yX6_gets : MethodName := ⟨RX6, "gets", "(I)I"⟩
abbrev cX6_without : ByteArray := prog_8_method_48_code
def yX6_without : MethodName := ⟨RX6, "without", "(I)I"⟩
abbrev cX6_reading : ByteArray := prog_8_method_49_code
def yX6_reading : MethodName := ⟨RX6, "reading", "(III)I"⟩
abbrev cX6_back : ByteArray := prog_8_method_50_code
def yX6_back : MethodName := ⟨RX6, "back", "(I)I"⟩
abbrev cX6_areSo : ByteArray := prog_8_method_51_code
def yX6_areSo : MethodName := ⟨RX6, "areSo", "()Z"⟩
abbrev cX6_ordersOf : ByteArray := prog_8_method_52_code
def yX6_ordersOf : MethodName := ⟨RX6, "ordersOf", "(I)I"⟩
abbrev cX6_orderBy : ByteArray := prog_8_method_53_code
def yX6_orderBy : MethodName := ⟨RX6, "orderBy", "(I)V"⟩
abbrev cX6_orders : ByteArray := prog_8_method_54_code
def yX6_orders : MethodName := ⟨RX6, "orders", "(I)I"⟩
abbrev cX6_holds : ByteArray := prog_8_method_55_code
def yX6_holds : MethodName := ⟨RX6, "holds", "(I)I"⟩
abbrev cX6_advices : ByteArray := prog_8_method_56_code
def yX6_advices : MethodName := ⟨RX6, "advices", "(I)I"⟩
abbrev cX6_kinds : ByteArray := prog_8_method_57_code
def yX6_kinds : MethodName := ⟨RX6, "kinds", "(I)I"⟩
abbrev cX6_inLeastTerms : ByteArray := prog_8_method_58_code
def yX6_inLeastTerms : MethodName := ⟨RX6, "inLeastTerms", "(JJI)J"⟩
abbrev cX6_odds : ByteArray := prog_8_method_59_code
def yX6_odds : MethodName := ⟨RX6, "odds", "(II)J"⟩
abbrev cX6_sheet : ByteArray := prog_8_method_60_code
def yX6_sheet : MethodName := ⟨RX6, "sheet", "(III)I"⟩
abbrev cX6_lose : ByteArray := prog_8_method_61_code
def yX6_lose : MethodName := ⟨RX6, "lose", "(I)I"⟩
abbrev cX6_put : ByteArray := prog_8_method_62_code
def yX6_put : MethodName := ⟨RX6, "put", "(III)I"⟩
abbrev cX6_cell : ByteArray := prog_8_method_63_code
def yX6_cell : MethodName := ⟨RX6, "cell", "(III)J"⟩
abbrev cX6_copy : ByteArray := prog_8_method_64_code
def yX6_copy : MethodName := ⟨RX6, "copy", "(IIIII)I"⟩
abbrev cX6_begins : ByteArray := prog_8_method_65_code
def yX6_begins : MethodName := ⟨RX6, "begins", "(I)V"⟩
abbrev cX6_tell : ByteArray := prog_8_method_66_code
def yX6_tell : MethodName := ⟨RX6, "tell", "(I)I"⟩
abbrev cX6_stroke : ByteArray := prog_8_method_67_code
def yX6_stroke : MethodName := ⟨RX6, "stroke", "(I)I"⟩
abbrev cX6_as : ByteArray := prog_8_method_68_code
def yX6_as : MethodName := ⟨RX6, "as", "(II)I"⟩
abbrev cX6_trace : ByteArray := prog_8_method_69_code
def yX6_trace : MethodName := ⟨RX6, "trace", "()I"⟩
abbrev cX6_fault : ByteArray := prog_8_method_70_code
def yX6_fault : MethodName := ⟨RX6, "fault", "()I"⟩
abbrev cX6_many : ByteArray := prog_8_method_71_code
def yX6_many : MethodName := ⟨RX6, "many", "(I)I"⟩
def RJ6 : String := "java/lang/Integer"
def TJ6 : u_T := fun k => match k with
  | _ => ("", "", "", false)
def tyJ6 : Nat → FieldType := fun k => match k with
  | _ => .int
abbrev wsJ60 : List Cond := u_ws RJ6 TJ6 0
theorem nmJ6 : ∀ a, a < 0 → ∀ b, b < 0 → a ≠ b → (TJ6 a).2.1 ≠ (TJ6 b).2.1 := by decide +kernel
theorem tyJ6_ok : ∀ k, k < 0 → parseFieldDescriptor (TJ6 k).2.2.1 = some (tyJ6 k) := by decide +kernel
abbrev cJ6_bitCount_0f7a4 : ByteArray := prog_9_method_49_code
def yJ6_bitCount_0f7a4 : MethodName := ⟨RJ6, "bitCount", "(I)I"⟩
def RJ9 : String := "java/lang/Math"
def TJ9 : u_T := fun k => match k with
  | _ => ("", "", "", false)
def tyJ9 : Nat → FieldType := fun k => match k with
  | _ => .int
abbrev wsJ90 : List Cond := u_ws RJ9 TJ9 0
theorem nmJ9 : ∀ a, a < 0 → ∀ b, b < 0 → a ≠ b → (TJ9 a).2.1 ≠ (TJ9 b).2.1 := by decide +kernel
theorem tyJ9_ok : ∀ k, k < 0 → parseFieldDescriptor (TJ9 k).2.2.1 = some (tyJ9 k) := by decide +kernel
abbrev cJ9_max_7cf53 : ByteArray := prog_10_method_65_code
def yJ9_max_7cf53 : MethodName := ⟨RJ9, "max", "(II)I"⟩
abbrev cJ9_min_7cf53 : ByteArray := prog_10_method_69_code
def yJ9_min_7cf53 : MethodName := ⟨RJ9, "min", "(II)I"⟩
def RJ10 : String := "java/lang/System"
def TJ10 : u_T := fun k => match k with
  | _ => ("", "", "", false)
def tyJ10 : Nat → FieldType := fun k => match k with
  | _ => .int
abbrev wsJ100 : List Cond := u_ws RJ10 TJ10 0
theorem nmJ10 : ∀ a, a < 0 → ∀ b, b < 0 → a ≠ b → (TJ10 a).2.1 ≠ (TJ10 b).2.1 := by decide +kernel
theorem tyJ10_ok : ∀ k, k < 0 → parseFieldDescriptor (TJ10 k).2.2.1 = some (tyJ10 k) := by decide +kernel
def RL : String := "PaperLayersLaw"
abbrev cL_law : ByteArray := code
def yL_law : MethodName := ⟨RL, "law", "([I)Z"⟩
def wsX0_init : List Cond := .code yX0_init cX0_init 1 none :: ([.methodLink RX0 3 objectInit, .instanceMethod objectInit, .code objectInit ⟨#[0xb1]⟩ 1 none])
def wsX0_become : List Cond := .code yX0_become cX0_become 4 none :: ([.fieldLink RX0 9 "PaperLayers$Layer" "kind" "I", .fieldLink RX0 15 "PaperLayers$Layer" "hold" "I", .fieldLink RX0 18 "PaperLayers$Layer" "advice" "I"] ++ wsX00)
def wsX0_becomeLike : List Cond := .code yX0_becomeLike cX0_becomeLike 2 none :: ([.fieldLink RX0 9 "PaperLayers$Layer" "kind" "I", .fieldLink RX0 15 "PaperLayers$Layer" "hold" "I", .fieldLink RX0 18 "PaperLayers$Layer" "advice" "I", .methodLink RX0 21 yX0_become, .instanceMethod yX0_become, .selects RX0 yX0_become yX0_become, .initialized RX0, .code yX0_become cX0_become 4 none] ++ wsX00)
def wsX0_grip : List Cond := .code yX0_grip cX0_grip 1 (some .int) :: ([.fieldLink RX0 9 "PaperLayers$Layer" "kind" "I", .fieldLink RX0 15 "PaperLayers$Layer" "hold" "I"] ++ wsX00)
def wsX0_isA : List Cond := .code yX0_isA cX0_isA 2 (some .boolean) :: ([.fieldLink RX0 9 "PaperLayers$Layer" "kind" "I"] ++ wsX00)
def wsX1_init : List Cond := .code yX1_init cX1_init 1 none :: ([.methodLink RX1 3 objectInit, .instanceMethod objectInit, .code objectInit ⟨#[0xb1]⟩ 1 none, .arrayClass .int, .fieldLink RX1 9 "PaperLayers$Order" "row" "[I"] ++ wsX10)
def wsX1_begin : List Cond := .code yX1_begin cX1_begin 3 none :: ([.methodLink RX1 15 Lib.Math.max.name, .static Lib.Math.max.name, .initialized "java/lang/Math", .code Lib.Math.max.name Lib.Math.max.code 2 (some .int), .methodLink RX1 21 Lib.Math.min.name, .static Lib.Math.min.name, .code Lib.Math.min.name Lib.Math.min.code 2 (some .int), .fieldLink RX1 24 "PaperLayers$Order" "count" "I", .fieldLink RX1 9 "PaperLayers$Order" "row" "[I"] ++ wsX10)
def wsX1_layerIn : List Cond := .code yX1_layerIn cX1_layerIn 2 (some .int) :: ([.fieldLink RX1 24 "PaperLayers$Order" "count" "I", .fieldLink RX1 9 "PaperLayers$Order" "row" "[I"] ++ wsX10)
def wsX1_placeOfNextGreater : List Cond := .code yX1_placeOfNextGreater cX1_placeOfNextGreater 3 (some .int) :: ([.fieldLink RX1 24 "PaperLayers$Order" "count" "I", .fieldLink RX1 9 "PaperLayers$Order" "row" "[I"] ++ wsX10)
def wsX1_swap : List Cond := .code yX1_swap cX1_swap 4 none :: ([.fieldLink RX1 9 "PaperLayers$Order" "row" "[I"] ++ wsX10)
def wsX1_reverseFrom : List Cond := .code yX1_reverseFrom cX1_reverseFrom 4 none :: ([.fieldLink RX1 24 "PaperLayers$Order" "count" "I", .methodLink RX1 32 yX1_swap, .instanceMethod yX1_swap, .selects RX1 yX1_swap yX1_swap, .initialized RX1, .code yX1_swap cX1_swap 4 none, .fieldLink RX1 9 "PaperLayers$Order" "row" "[I"] ++ wsX10)
def wsX1_next : List Cond := .code yX1_next cX1_next 2 (some .boolean) :: ([.fieldLink RX1 24 "PaperLayers$Order" "count" "I", .fieldLink RX1 9 "PaperLayers$Order" "row" "[I", .methodLink RX1 28 yX1_placeOfNextGreater, .instanceMethod yX1_placeOfNextGreater, .selects RX1 yX1_placeOfNextGreater yX1_placeOfNextGreater, .initialized RX1, .code yX1_placeOfNextGreater cX1_placeOfNextGreater 3 (some .int), .methodLink RX1 32 yX1_swap, .instanceMethod yX1_swap, .selects RX1 yX1_swap yX1_swap, .code yX1_swap cX1_swap 4 none, .methodLink RX1 36 yX1_reverseFrom, .instanceMethod yX1_reverseFrom, .selects RX1 yX1_reverseFrom yX1_reverseFrom, .code yX1_reverseFrom cX1_reverseFrom 4 none] ++ wsX10)
def wsX2_init : List Cond := .code yX2_init cX2_init 1 none :: ([.methodLink RX2 3 objectInit, .instanceMethod objectInit, .code objectInit ⟨#[0xb1]⟩ 1 none, .arrayClass .int, .fieldLink RX2 9 "PaperLayers$Readings" "warmths" "[I", .fieldLink RX2 15 "PaperLayers$Readings" "counsels" "[I"] ++ wsX20)
def wsX2_note : List Cond := .code yX2_note cX2_note 3 (some .boolean) :: ([.fieldLink RX2 18 "PaperLayers$Readings" "count" "I", .fieldLink RX2 9 "PaperLayers$Readings" "warmths" "[I", .fieldLink RX2 15 "PaperLayers$Readings" "counsels" "[I"] ++ wsX20)
def wsX4_heardBy : List Cond := .code yX4_heardBy cX4_heardBy 3 (some .int) :: ([.fieldLink RX4 18 "PaperLayers$Wall" "count" "I", .fieldLink RX4 11 "PaperLayers$Wall" "layers" "[LPaperLayers$Layer;", .fieldLink RX4 32 "PaperLayers$Layer" "kind" "I", .methodLink RX4 28 yX0_grip, .instanceMethod yX0_grip, .selects RX0 yX0_grip yX0_grip, .initialized RX0, .code yX0_grip cX0_grip 1 (some .int), .fieldLink RX0 9 "PaperLayers$Layer" "kind" "I", .fieldLink RX0 15 "PaperLayers$Layer" "hold" "I"] ++ wsX40 ++ wsX00)
def wsX4_votesOf : List Cond := .code yX4_votesOf cX4_votesOf 5 (some .long) :: ([.fieldLink RX4 11 "PaperLayers$Wall" "layers" "[LPaperLayers$Layer;", .fieldLink RX4 43 "PaperLayers$Layer" "advice" "I"] ++ wsX40 ++ wsX00)
def wsX4_votesFor : List Cond := .code yX4_votesFor cX4_votesFor 3 (some .int) :: ([])
def wsX4_counselBy : List Cond := .code yX4_counselBy cX4_counselBy 9 (some .int) :: ([.fieldLink RX4 11 "PaperLayers$Wall" "layers" "[LPaperLayers$Layer;", .fieldLink RX4 43 "PaperLayers$Layer" "advice" "I", .methodLink RX4 35 yX4_heardBy, .instanceMethod yX4_heardBy, .selects RX4 yX4_heardBy yX4_heardBy, .initialized RX4, .code yX4_heardBy cX4_heardBy 3 (some .int), .fieldLink RX4 18 "PaperLayers$Wall" "count" "I", .fieldLink RX4 32 "PaperLayers$Layer" "kind" "I", .methodLink RX4 28 yX0_grip, .instanceMethod yX0_grip, .selects RX0 yX0_grip yX0_grip, .initialized RX0, .code yX0_grip cX0_grip 1 (some .int), .fieldLink RX0 9 "PaperLayers$Layer" "kind" "I", .fieldLink RX0 15 "PaperLayers$Layer" "hold" "I", .methodLink RX4 39 yX4_votesOf, .instanceMethod yX4_votesOf, .selects RX4 yX4_votesOf yX4_votesOf, .code yX4_votesOf cX4_votesOf 5 (some .long), .methodLink RX4 46 yX4_votesFor, .static yX4_votesFor, .code yX4_votesFor cX4_votesFor 3 (some .int)] ++ wsX40 ++ wsX00)
def wsX2_agreeWith_r1 : List Cond := [Cond.fieldLink RX2 18 "PaperLayers$Readings" "count" "I", Cond.fieldLink RX2 9 "PaperLayers$Readings" "warmths" "[I", Cond.fieldLink RX2 15 "PaperLayers$Readings" "counsels" "[I", Cond.methodLink RX2 22 yX4_counselBy, Cond.instanceMethod yX4_counselBy, Cond.selects RX4 yX4_counselBy yX4_counselBy, Cond.initialized RX4, Cond.code yX4_counselBy cX4_counselBy 9 (some .int), Cond.fieldLink RX4 11 "PaperLayers$Wall" "layers" "[LPaperLayers$Layer;", Cond.fieldLink RX4 43 "PaperLayers$Layer" "advice" "I", Cond.methodLink RX4 35 yX4_heardBy, Cond.instanceMethod yX4_heardBy, Cond.selects RX4 yX4_heardBy yX4_heardBy, Cond.code yX4_heardBy cX4_heardBy 3 (some .int), Cond.fieldLink RX4 18 "PaperLayers$Wall" "count" "I", Cond.fieldLink RX4 32 "PaperLayers$Layer" "kind" "I", Cond.methodLink RX4 28 yX0_grip, Cond.instanceMethod yX0_grip, Cond.selects RX0 yX0_grip yX0_grip, Cond.initialized RX0, Cond.code yX0_grip cX0_grip 1 (some .int), Cond.fieldLink RX0 9 "PaperLayers$Layer" "kind" "I", Cond.fieldLink RX0 15 "PaperLayers$Layer" "hold" "I", Cond.methodLink RX4 39 yX4_votesOf]
def wsX2_agreeWith_r2 : List Cond := [Cond.instanceMethod yX4_votesOf, Cond.selects RX4 yX4_votesOf yX4_votesOf, Cond.code yX4_votesOf cX4_votesOf 5 (some .long), Cond.methodLink RX4 46 yX4_votesFor, Cond.static yX4_votesFor, Cond.code yX4_votesFor cX4_votesFor 3 (some .int)]
def wsX2_agreeWith : List Cond := .code yX2_agreeWith cX2_agreeWith 3 (some .boolean) :: ((wsX2_agreeWith_r1 ++ wsX2_agreeWith_r2) ++ wsX20 ++ wsX40 ++ wsX00)
def wsX3_init : List Cond := .code yX3_init cX3_init 1 none :: ([.methodLink RX3 3 objectInit, .instanceMethod objectInit, .code objectInit ⟨#[0xb1]⟩ 1 none, .arrayClass .int, .fieldLink RX3 9 "PaperLayers$Sheet" "cells" "[I"] ++ wsX30)
def wsX3_begin : List Cond := .code yX3_begin cX3_begin 4 none :: ([.fieldLink RX3 15 "PaperLayers$Sheet" "hasRow" "Z", .fieldLink RX3 19 "PaperLayers$Sheet" "lane" "I", .methodLink RX3 23 Lib.Math.max.name, .static Lib.Math.max.name, .initialized "java/lang/Math", .code Lib.Math.max.name Lib.Math.max.code 2 (some .int), .methodLink RX3 29 Lib.Math.min.name, .static Lib.Math.min.name, .code Lib.Math.min.name Lib.Math.min.code 2 (some .int), .fieldLink RX3 32 "PaperLayers$Sheet" "length" "I", .fieldLink RX3 9 "PaperLayers$Sheet" "cells" "[I"] ++ wsX30)
def wsX3_faultAsLane : List Cond := .code yX3_faultAsLane cX3_faultAsLane 2 (some .int) :: ([.fieldLink RX3 15 "PaperLayers$Sheet" "hasRow" "Z", .fieldLink RX3 19 "PaperLayers$Sheet" "lane" "I"] ++ wsX30)
def wsX3_faultOfCell : List Cond := .code yX3_faultOfCell cX3_faultOfCell 2 (some .int) :: ([.fieldLink RX3 15 "PaperLayers$Sheet" "hasRow" "Z", .fieldLink RX3 32 "PaperLayers$Sheet" "length" "I"] ++ wsX30)
def wsX3_faultOfCells : List Cond := .code yX3_faultOfCells cX3_faultOfCells 3 (some .int) :: ([.fieldLink RX3 15 "PaperLayers$Sheet" "hasRow" "Z", .fieldLink RX3 32 "PaperLayers$Sheet" "length" "I"] ++ wsX30)
def wsX3_faultOfCopy : List Cond := .code yX3_faultOfCopy cX3_faultOfCopy 6 (some .int) :: ([.fieldLink RX3 15 "PaperLayers$Sheet" "hasRow" "Z", .fieldLink RX3 19 "PaperLayers$Sheet" "lane" "I", .methodLink RX3 35 yX3_faultOfCells, .instanceMethod yX3_faultOfCells, .selects RX3 yX3_faultOfCells yX3_faultOfCells, .initialized RX3, .code yX3_faultOfCells cX3_faultOfCells 3 (some .int), .fieldLink RX3 32 "PaperLayers$Sheet" "length" "I"] ++ wsX30)
def wsX3_getCell : List Cond := .code yX3_getCell cX3_getCell 2 (some .int) :: ([.fieldLink RX3 32 "PaperLayers$Sheet" "length" "I", .fieldLink RX3 9 "PaperLayers$Sheet" "cells" "[I"] ++ wsX30)
def wsX3_cut : List Cond := .code yX3_cut cX3_cut 2 (some .int) :: ([.fieldLink RX3 19 "PaperLayers$Sheet" "lane" "I"] ++ wsX30)
def wsX3_setCell : List Cond := .code yX3_setCell cX3_setCell 3 none :: ([.fieldLink RX3 32 "PaperLayers$Sheet" "length" "I", .fieldLink RX3 9 "PaperLayers$Sheet" "cells" "[I", .methodLink RX3 38 yX3_cut, .instanceMethod yX3_cut, .selects RX3 yX3_cut yX3_cut, .initialized RX3, .code yX3_cut cX3_cut 2 (some .int), .fieldLink RX3 19 "PaperLayers$Sheet" "lane" "I"] ++ wsX30)
def wsX4_init : List Cond := .code yX4_init cX4_init 2 none :: ([.methodLink RX4 3 objectInit, .instanceMethod objectInit, .code objectInit ⟨#[0xb1]⟩ 1 none, .classLink RX4 9 RX0, .fieldLink RX4 11 "PaperLayers$Wall" "layers" "[LPaperLayers$Layer;", .instantiable RX0 3, .initialized RX0, .instanceMethod yX0_init, .code yX0_init cX0_init 1 none, .methodLink RX0 3 objectInit] ++ wsX40 ++ wsX00)
def wsX4_stands : List Cond := .code yX4_stands cX4_stands 1 (some .boolean) :: ([.fieldLink RX4 18 "PaperLayers$Wall" "count" "I"] ++ wsX40)
def wsX4_layerAt : List Cond := .code yX4_layerAt cX4_layerAt 2 (some (.object "PaperLayers$Layer")) :: ([.fieldLink RX4 18 "PaperLayers$Wall" "count" "I", .fieldLink RX4 11 "PaperLayers$Wall" "layers" "[LPaperLayers$Layer;"] ++ wsX40)
def wsX4_warmth : List Cond := .code yX4_warmth cX4_warmth 1 (some .int) :: ([.fieldLink RX4 22 "PaperLayers$Wall" "warm" "I", .fieldLink RX4 25 "PaperLayers$Wall" "damp" "I"] ++ wsX40)
def wsX4_liftedBy : List Cond := .code yX4_liftedBy cX4_liftedBy 3 (some .int) :: ([.fieldLink RX4 18 "PaperLayers$Wall" "count" "I", .fieldLink RX4 11 "PaperLayers$Wall" "layers" "[LPaperLayers$Layer;", .methodLink RX4 28 yX0_grip, .instanceMethod yX0_grip, .selects RX0 yX0_grip yX0_grip, .initialized RX0, .code yX0_grip cX0_grip 1 (some .int), .fieldLink RX0 9 "PaperLayers$Layer" "kind" "I", .fieldLink RX0 15 "PaperLayers$Layer" "hold" "I"] ++ wsX40 ++ wsX00)
def wsX4_mostAlike : List Cond := .code yX4_mostAlike cX4_mostAlike 6 (some .int) :: ([.fieldLink RX4 11 "PaperLayers$Wall" "layers" "[LPaperLayers$Layer;", .fieldLink RX4 43 "PaperLayers$Layer" "advice" "I", .methodLink RX4 50 Lib.Math.max.name, .static Lib.Math.max.name, .initialized "java/lang/Math", .code Lib.Math.max.name Lib.Math.max.code 2 (some .int), .methodLink RX4 39 yX4_votesOf, .instanceMethod yX4_votesOf, .selects RX4 yX4_votesOf yX4_votesOf, .initialized RX4, .code yX4_votesOf cX4_votesOf 5 (some .long), .methodLink RX4 46 yX4_votesFor, .static yX4_votesFor, .code yX4_votesFor cX4_votesFor 3 (some .int)] ++ wsX40 ++ wsX00)
def wsX4_unlikeTwos : List Cond := .code yX4_unlikeTwos cX4_unlikeTwos 5 (some .int) :: ([.fieldLink RX4 11 "PaperLayers$Wall" "layers" "[LPaperLayers$Layer;", .fieldLink RX4 43 "PaperLayers$Layer" "advice" "I"] ++ wsX40 ++ wsX00)
def wsX4_layOnTop : List Cond := .code yX4_layOnTop cX4_layOnTop 5 (some .boolean) :: ([.fieldLink RX4 18 "PaperLayers$Wall" "count" "I", .fieldLink RX4 11 "PaperLayers$Wall" "layers" "[LPaperLayers$Layer;", .methodLink RX4 56 yX0_becomeLike, .instanceMethod yX0_becomeLike, .selects RX0 yX0_becomeLike yX0_becomeLike, .initialized RX0, .code yX0_becomeLike cX0_becomeLike 2 none, .fieldLink RX0 9 "PaperLayers$Layer" "kind" "I", .fieldLink RX0 15 "PaperLayers$Layer" "hold" "I", .fieldLink RX0 18 "PaperLayers$Layer" "advice" "I", .methodLink RX0 21 yX0_become, .instanceMethod yX0_become, .selects RX0 yX0_become yX0_become, .code yX0_become cX0_become 4 none, .methodLink RX4 60 yX0_become] ++ wsX40 ++ wsX00)
def wsX4_peelTop_r1 : List Cond := [Cond.fieldLink RX4 18 "PaperLayers$Wall" "count" "I", Cond.fieldLink RX4 11 "PaperLayers$Wall" "layers" "[LPaperLayers$Layer;", Cond.methodLink RX4 64 yX4_warmth, Cond.instanceMethod yX4_warmth, Cond.selects RX4 yX4_warmth yX4_warmth, Cond.initialized RX4, Cond.code yX4_warmth cX4_warmth 1 (some .int), Cond.fieldLink RX4 22 "PaperLayers$Wall" "warm" "I", Cond.fieldLink RX4 25 "PaperLayers$Wall" "damp" "I", Cond.methodLink RX4 67 yX4_liftedBy, Cond.instanceMethod yX4_liftedBy, Cond.selects RX4 yX4_liftedBy yX4_liftedBy, Cond.code yX4_liftedBy cX4_liftedBy 3 (some .int), Cond.methodLink RX4 28 yX0_grip, Cond.instanceMethod yX0_grip, Cond.selects RX0 yX0_grip yX0_grip, Cond.initialized RX0, Cond.code yX0_grip cX0_grip 1 (some .int), Cond.fieldLink RX0 9 "PaperLayers$Layer" "kind" "I", Cond.fieldLink RX0 15 "PaperLayers$Layer" "hold" "I", Cond.methodLink RX4 56 yX0_becomeLike, Cond.instanceMethod yX0_becomeLike, Cond.selects RX0 yX0_becomeLike yX0_becomeLike, Cond.code yX0_becomeLike cX0_becomeLike 2 none]
def wsX4_peelTop_r2 : List Cond := [Cond.fieldLink RX0 18 "PaperLayers$Layer" "advice" "I", Cond.methodLink RX0 21 yX0_become, Cond.instanceMethod yX0_become, Cond.selects RX0 yX0_become yX0_become, Cond.code yX0_become cX0_become 4 none]
def wsX4_peelTop : List Cond := .code yX4_peelTop cX4_peelTop 2 (some .boolean) :: ((wsX4_peelTop_r1 ++ wsX4_peelTop_r2) ++ wsX40 ++ wsX00)
def wsX4_doAct_r1 : List Cond := [Cond.fieldLink RX4 22 "PaperLayers$Wall" "warm" "I", Cond.fieldLink RX4 25 "PaperLayers$Wall" "damp" "I", Cond.methodLink RX4 70 yX4_peelTop, Cond.instanceMethod yX4_peelTop, Cond.selects RX4 yX4_peelTop yX4_peelTop, Cond.initialized RX4, Cond.code yX4_peelTop cX4_peelTop 2 (some .boolean), Cond.fieldLink RX4 18 "PaperLayers$Wall" "count" "I", Cond.fieldLink RX4 11 "PaperLayers$Wall" "layers" "[LPaperLayers$Layer;", Cond.methodLink RX4 64 yX4_warmth, Cond.instanceMethod yX4_warmth, Cond.selects RX4 yX4_warmth yX4_warmth, Cond.code yX4_warmth cX4_warmth 1 (some .int), Cond.methodLink RX4 67 yX4_liftedBy, Cond.instanceMethod yX4_liftedBy, Cond.selects RX4 yX4_liftedBy yX4_liftedBy, Cond.code yX4_liftedBy cX4_liftedBy 3 (some .int), Cond.methodLink RX4 28 yX0_grip, Cond.instanceMethod yX0_grip, Cond.selects RX0 yX0_grip yX0_grip, Cond.initialized RX0, Cond.code yX0_grip cX0_grip 1 (some .int), Cond.fieldLink RX0 9 "PaperLayers$Layer" "kind" "I", Cond.fieldLink RX0 15 "PaperLayers$Layer" "hold" "I"]
def wsX4_doAct_r2 : List Cond := [Cond.methodLink RX4 56 yX0_becomeLike, Cond.instanceMethod yX0_becomeLike, Cond.selects RX0 yX0_becomeLike yX0_becomeLike, Cond.code yX0_becomeLike cX0_becomeLike 2 none, Cond.fieldLink RX0 18 "PaperLayers$Layer" "advice" "I", Cond.methodLink RX0 21 yX0_become, Cond.instanceMethod yX0_become, Cond.selects RX0 yX0_become yX0_become, Cond.code yX0_become cX0_become 4 none, Cond.methodLink RX4 74 yX4_layOnTop, Cond.instanceMethod yX4_layOnTop, Cond.selects RX4 yX4_layOnTop yX4_layOnTop, Cond.code yX4_layOnTop cX4_layOnTop 5 (some .boolean), Cond.methodLink RX4 60 yX0_become]
def wsX4_doAct : List Cond := .code yX4_doAct cX4_doAct 3 (some .boolean) :: ((wsX4_doAct_r1 ++ wsX4_doAct_r2) ++ wsX40 ++ wsX00)
def wsX4_change : List Cond := .code yX4_change cX4_change 5 none :: ([.fieldLink RX4 32 "PaperLayers$Layer" "kind" "I", .fieldLink RX4 82 "PaperLayers$Layer" "hold" "I", .fieldLink RX4 43 "PaperLayers$Layer" "advice" "I", .methodLink RX4 78 yX4_layerAt, .instanceMethod yX4_layerAt, .selects RX4 yX4_layerAt yX4_layerAt, .initialized RX4, .code yX4_layerAt cX4_layerAt 2 (some (.object "PaperLayers$Layer")), .fieldLink RX4 18 "PaperLayers$Wall" "count" "I", .fieldLink RX4 11 "PaperLayers$Wall" "layers" "[LPaperLayers$Layer;"] ++ wsX00 ++ wsX40)
def wsX4_digitAt : List Cond := .code yX4_digitAt cX4_digitAt 2 (some .int) :: ([.methodLink RX4 93 yX3_getCell, .instanceMethod yX3_getCell, .selects RX3 yX3_getCell yX3_getCell, .initialized RX3, .code yX3_getCell cX3_getCell 2 (some .int), .fieldLink RX3 32 "PaperLayers$Sheet" "length" "I", .fieldLink RX3 9 "PaperLayers$Sheet" "cells" "[I"] ++ wsX30)
def wsX4_begin : List Cond := .code yX4_begin cX4_begin 3 none :: ([.fieldLink RX4 18 "PaperLayers$Wall" "count" "I", .fieldLink RX4 22 "PaperLayers$Wall" "warm" "I", .fieldLink RX4 25 "PaperLayers$Wall" "damp" "I"] ++ wsX40)
def wsX5_kindOf : List Cond := .code yX5_kindOf cX5_kindOf 1 (some .int) :: ([])
def wsX4_addBelow : List Cond := .code yX4_addBelow cX4_addBelow 4 none :: ([.fieldLink RX4 18 "PaperLayers$Wall" "count" "I", .fieldLink RX4 11 "PaperLayers$Wall" "layers" "[LPaperLayers$Layer;", .methodLink RX4 60 yX0_become, .instanceMethod yX0_become, .selects RX0 yX0_become yX0_become, .initialized RX0, .code yX0_become cX0_become 4 none, .fieldLink RX0 9 "PaperLayers$Layer" "kind" "I", .fieldLink RX0 15 "PaperLayers$Layer" "hold" "I", .fieldLink RX0 18 "PaperLayers$Layer" "advice" "I"] ++ wsX40 ++ wsX00)
def wsX4_readText_r1 : List Cond := [Cond.methodLink RX4 85 yX4_digitAt, Cond.static yX4_digitAt, Cond.initialized RX4, Cond.code yX4_digitAt cX4_digitAt 2 (some .int), Cond.methodLink RX4 93 yX3_getCell, Cond.instanceMethod yX3_getCell, Cond.selects RX3 yX3_getCell yX3_getCell, Cond.initialized RX3, Cond.code yX3_getCell cX3_getCell 2 (some .int), Cond.fieldLink RX3 32 "PaperLayers$Sheet" "length" "I", Cond.fieldLink RX3 9 "PaperLayers$Sheet" "cells" "[I", Cond.methodLink RX4 89 yX4_begin, Cond.instanceMethod yX4_begin, Cond.selects RX4 yX4_begin yX4_begin, Cond.code yX4_begin cX4_begin 3 none, Cond.fieldLink RX4 18 "PaperLayers$Wall" "count" "I", Cond.fieldLink RX4 22 "PaperLayers$Wall" "warm" "I", Cond.fieldLink RX4 25 "PaperLayers$Wall" "damp" "I", Cond.static yX5_kindOf, Cond.initialized RX5, Cond.code yX5_kindOf cX5_kindOf 1 (some .int), Cond.methodLink RX4 101 yX4_addBelow, Cond.instanceMethod yX4_addBelow, Cond.selects RX4 yX4_addBelow yX4_addBelow]
def wsX4_readText_r2 : List Cond := [Cond.code yX4_addBelow cX4_addBelow 4 none, Cond.fieldLink RX4 11 "PaperLayers$Wall" "layers" "[LPaperLayers$Layer;", Cond.methodLink RX4 60 yX0_become, Cond.instanceMethod yX0_become, Cond.selects RX0 yX0_become yX0_become, Cond.initialized RX0, Cond.code yX0_become cX0_become 4 none, Cond.fieldLink RX0 9 "PaperLayers$Layer" "kind" "I", Cond.fieldLink RX0 15 "PaperLayers$Layer" "hold" "I", Cond.fieldLink RX0 18 "PaperLayers$Layer" "advice" "I"]
def wsX4_readText : List Cond := .code yX4_readText cX4_readText 5 none :: ((wsX4_readText_r1 ++ wsX4_readText_r2) ++ wsX30 ++ wsX40 ++ wsX00)
def wsX4_addLike : List Cond := .code yX4_addLike cX4_addLike 2 none :: ([.fieldLink RX4 32 "PaperLayers$Layer" "kind" "I", .fieldLink RX4 82 "PaperLayers$Layer" "hold" "I", .fieldLink RX4 43 "PaperLayers$Layer" "advice" "I", .methodLink RX4 101 yX4_addBelow, .instanceMethod yX4_addBelow, .selects RX4 yX4_addBelow yX4_addBelow, .initialized RX4, .code yX4_addBelow cX4_addBelow 4 none, .fieldLink RX4 18 "PaperLayers$Wall" "count" "I", .fieldLink RX4 11 "PaperLayers$Wall" "layers" "[LPaperLayers$Layer;", .methodLink RX4 60 yX0_become, .instanceMethod yX0_become, .selects RX0 yX0_become yX0_become, .initialized RX0, .code yX0_become cX0_become 4 none, .fieldLink RX0 9 "PaperLayers$Layer" "kind" "I", .fieldLink RX0 15 "PaperLayers$Layer" "hold" "I", .fieldLink RX0 18 "PaperLayers$Layer" "advice" "I"] ++ wsX00 ++ wsX40)
def wsX4_becomeLess_r1 : List Cond := [Cond.fieldLink RX4 22 "PaperLayers$Wall" "warm" "I", Cond.fieldLink RX4 25 "PaperLayers$Wall" "damp" "I", Cond.fieldLink RX4 18 "PaperLayers$Wall" "count" "I", Cond.methodLink RX4 89 yX4_begin, Cond.instanceMethod yX4_begin, Cond.selects RX4 yX4_begin yX4_begin, Cond.initialized RX4, Cond.code yX4_begin cX4_begin 3 none, Cond.methodLink RX4 78 yX4_layerAt, Cond.instanceMethod yX4_layerAt, Cond.selects RX4 yX4_layerAt yX4_layerAt, Cond.code yX4_layerAt cX4_layerAt 2 (some (.object "PaperLayers$Layer")), Cond.fieldLink RX4 11 "PaperLayers$Wall" "layers" "[LPaperLayers$Layer;", Cond.methodLink RX4 108 yX4_addLike, Cond.instanceMethod yX4_addLike, Cond.selects RX4 yX4_addLike yX4_addLike, Cond.code yX4_addLike cX4_addLike 2 none, Cond.fieldLink RX4 32 "PaperLayers$Layer" "kind" "I", Cond.fieldLink RX4 82 "PaperLayers$Layer" "hold" "I", Cond.fieldLink RX4 43 "PaperLayers$Layer" "advice" "I", Cond.methodLink RX4 101 yX4_addBelow, Cond.instanceMethod yX4_addBelow, Cond.selects RX4 yX4_addBelow yX4_addBelow, Cond.code yX4_addBelow cX4_addBelow 4 none]
def wsX4_becomeLess_r2 : List Cond := [Cond.methodLink RX4 60 yX0_become, Cond.instanceMethod yX0_become, Cond.selects RX0 yX0_become yX0_become, Cond.initialized RX0, Cond.code yX0_become cX0_become 4 none, Cond.fieldLink RX0 9 "PaperLayers$Layer" "kind" "I", Cond.fieldLink RX0 15 "PaperLayers$Layer" "hold" "I", Cond.fieldLink RX0 18 "PaperLayers$Layer" "advice" "I"]
def wsX4_becomeLess : List Cond := .code yX4_becomeLess cX4_becomeLess 4 none :: ((wsX4_becomeLess_r1 ++ wsX4_becomeLess_r2) ++ wsX40 ++ wsX00)
def wsX4_become_r1 : List Cond := [Cond.methodLink RX4 104 yX4_becomeLess, Cond.instanceMethod yX4_becomeLess, Cond.selects RX4 yX4_becomeLess yX4_becomeLess, Cond.initialized RX4, Cond.code yX4_becomeLess cX4_becomeLess 4 none, Cond.fieldLink RX4 22 "PaperLayers$Wall" "warm" "I", Cond.fieldLink RX4 25 "PaperLayers$Wall" "damp" "I", Cond.fieldLink RX4 18 "PaperLayers$Wall" "count" "I", Cond.methodLink RX4 89 yX4_begin, Cond.instanceMethod yX4_begin, Cond.selects RX4 yX4_begin yX4_begin, Cond.code yX4_begin cX4_begin 3 none, Cond.methodLink RX4 78 yX4_layerAt, Cond.instanceMethod yX4_layerAt, Cond.selects RX4 yX4_layerAt yX4_layerAt, Cond.code yX4_layerAt cX4_layerAt 2 (some (.object "PaperLayers$Layer")), Cond.fieldLink RX4 11 "PaperLayers$Wall" "layers" "[LPaperLayers$Layer;", Cond.methodLink RX4 108 yX4_addLike, Cond.instanceMethod yX4_addLike, Cond.selects RX4 yX4_addLike yX4_addLike, Cond.code yX4_addLike cX4_addLike 2 none, Cond.fieldLink RX4 32 "PaperLayers$Layer" "kind" "I", Cond.fieldLink RX4 82 "PaperLayers$Layer" "hold" "I", Cond.fieldLink RX4 43 "PaperLayers$Layer" "advice" "I"]
def wsX4_become_r2 : List Cond := [Cond.methodLink RX4 101 yX4_addBelow, Cond.instanceMethod yX4_addBelow, Cond.selects RX4 yX4_addBelow yX4_addBelow, Cond.code yX4_addBelow cX4_addBelow 4 none, Cond.methodLink RX4 60 yX0_become, Cond.instanceMethod yX0_become, Cond.selects RX0 yX0_become yX0_become, Cond.initialized RX0, Cond.code yX0_become cX0_become 4 none, Cond.fieldLink RX0 9 "PaperLayers$Layer" "kind" "I", Cond.fieldLink RX0 15 "PaperLayers$Layer" "hold" "I", Cond.fieldLink RX0 18 "PaperLayers$Layer" "advice" "I"]
def wsX4_become : List Cond := .code yX4_become cX4_become 2 none :: ((wsX4_become_r1 ++ wsX4_become_r2) ++ wsX40 ++ wsX00)
def wsX4_becomeOrdered_r1 : List Cond := [Cond.fieldLink RX4 22 "PaperLayers$Wall" "warm" "I", Cond.fieldLink RX4 25 "PaperLayers$Wall" "damp" "I", Cond.fieldLink RX4 18 "PaperLayers$Wall" "count" "I", Cond.methodLink RX4 89 yX4_begin, Cond.instanceMethod yX4_begin, Cond.selects RX4 yX4_begin yX4_begin, Cond.initialized RX4, Cond.code yX4_begin cX4_begin 3 none, Cond.methodLink RX4 111 yX1_layerIn, Cond.instanceMethod yX1_layerIn, Cond.selects RX1 yX1_layerIn yX1_layerIn, Cond.initialized RX1, Cond.code yX1_layerIn cX1_layerIn 2 (some .int), Cond.fieldLink RX1 24 "PaperLayers$Order" "count" "I", Cond.fieldLink RX1 9 "PaperLayers$Order" "row" "[I", Cond.methodLink RX4 78 yX4_layerAt, Cond.instanceMethod yX4_layerAt, Cond.selects RX4 yX4_layerAt yX4_layerAt, Cond.code yX4_layerAt cX4_layerAt 2 (some (.object "PaperLayers$Layer")), Cond.fieldLink RX4 11 "PaperLayers$Wall" "layers" "[LPaperLayers$Layer;", Cond.methodLink RX4 108 yX4_addLike, Cond.instanceMethod yX4_addLike, Cond.selects RX4 yX4_addLike yX4_addLike, Cond.code yX4_addLike cX4_addLike 2 none]
def wsX4_becomeOrdered_r2 : List Cond := [Cond.fieldLink RX4 32 "PaperLayers$Layer" "kind" "I", Cond.fieldLink RX4 82 "PaperLayers$Layer" "hold" "I", Cond.fieldLink RX4 43 "PaperLayers$Layer" "advice" "I", Cond.methodLink RX4 101 yX4_addBelow, Cond.instanceMethod yX4_addBelow, Cond.selects RX4 yX4_addBelow yX4_addBelow, Cond.code yX4_addBelow cX4_addBelow 4 none, Cond.methodLink RX4 60 yX0_become, Cond.instanceMethod yX0_become, Cond.selects RX0 yX0_become yX0_become, Cond.initialized RX0, Cond.code yX0_become cX0_become 4 none, Cond.fieldLink RX0 9 "PaperLayers$Layer" "kind" "I", Cond.fieldLink RX0 15 "PaperLayers$Layer" "hold" "I", Cond.fieldLink RX0 18 "PaperLayers$Layer" "advice" "I"]
def wsX4_becomeOrdered : List Cond := .code yX4_becomeOrdered cX4_becomeOrdered 4 none :: ((wsX4_becomeOrdered_r1 ++ wsX4_becomeOrdered_r2) ++ wsX40 ++ wsX10 ++ wsX00)
def wsX5_init_r1 : List Cond := [Cond.methodLink RX5 3 objectInit, Cond.instanceMethod objectInit, Cond.code objectInit ⟨#[0xb1]⟩ 1 none, Cond.classLink RX5 9 RX4, Cond.instantiable RX4 4, Cond.initialized RX4, Cond.fieldLink RX5 12 "PaperLayers" "now" "LPaperLayers$Wall;", Cond.fieldLink RX5 18 "PaperLayers" "trial" "LPaperLayers$Wall;", Cond.classLink RX5 21 RX2, Cond.instantiable RX2 3, Cond.initialized RX2, Cond.fieldLink RX5 24 "PaperLayers" "readings" "LPaperLayers$Readings;", Cond.classLink RX5 28 RX1, Cond.instantiable RX1 2, Cond.initialized RX1, Cond.fieldLink RX5 31 "PaperLayers" "order" "LPaperLayers$Order;", Cond.classLink RX5 35 RX3, Cond.fieldLink RX5 37 "PaperLayers" "sheets" "[LPaperLayers$Sheet;", Cond.instantiable RX3 4, Cond.initialized RX3, Cond.methodLink RX5 11 yX4_init, Cond.instanceMethod yX4_init, Cond.code yX4_init cX4_init 2 none, Cond.methodLink RX4 3 objectInit]
def wsX5_init_r2 : List Cond := [Cond.classLink RX4 9 RX0, Cond.fieldLink RX4 11 "PaperLayers$Wall" "layers" "[LPaperLayers$Layer;", Cond.instantiable RX0 3, Cond.initialized RX0, Cond.instanceMethod yX0_init, Cond.code yX0_init cX0_init 1 none, Cond.methodLink RX0 3 objectInit, Cond.instanceMethod yX2_init, Cond.code yX2_init cX2_init 1 none, Cond.methodLink RX2 3 objectInit, Cond.arrayClass .int, Cond.fieldLink RX2 9 "PaperLayers$Readings" "warmths" "[I", Cond.fieldLink RX2 15 "PaperLayers$Readings" "counsels" "[I", Cond.instanceMethod yX1_init, Cond.code yX1_init cX1_init 1 none, Cond.methodLink RX1 3 objectInit, Cond.fieldLink RX1 9 "PaperLayers$Order" "row" "[I", Cond.instanceMethod yX3_init, Cond.code yX3_init cX3_init 1 none, Cond.methodLink RX3 3 objectInit, Cond.fieldLink RX3 9 "PaperLayers$Sheet" "cells" "[I"]
def wsX5_init : List Cond := .code yX5_init cX5_init 2 none :: ((wsX5_init_r1 ++ wsX5_init_r2) ++ wsX40 ++ wsX50 ++ wsX20 ++ wsX10 ++ wsX30 ++ wsX00)
def wsX5_isUpTo : List Cond := .code yX5_isUpTo cX5_isUpTo 2 (some .boolean) :: ([])
def wsX5_sheetAt : List Cond := .code yX5_sheetAt cX5_sheetAt 2 (some (.object "PaperLayers$Sheet")) :: ([.fieldLink RX5 37 "PaperLayers" "sheets" "[LPaperLayers$Sheet;", .methodLink RX5 50 yX5_isUpTo, .static yX5_isUpTo, .initialized RX5, .code yX5_isUpTo cX5_isUpTo 2 (some .boolean)] ++ wsX50)
def wsX5_failed : List Cond := .code yX5_failed cX5_failed 2 (some .int) :: ([.fieldLink RX5 42 "PaperLayers" "latestFault" "I"] ++ wsX50)
def wsX5_isDigit : List Cond := .code yX5_isDigit cX5_isDigit 1 (some .boolean) :: ([])
def wsX5_goesOn : List Cond := .code yX5_goesOn cX5_goesOn 3 (some .boolean) :: ([.methodLink RX5 229 yX5_isDigit, .static yX5_isDigit, .initialized RX5, .code yX5_isDigit cX5_isDigit 1 (some .boolean), .methodLink RX5 232 yX5_kindOf, .static yX5_kindOf, .code yX5_kindOf cX5_kindOf 1 (some .int)])
def wsX5_firstFault : List Cond := .code yX5_firstFault cX5_firstFault 4 (some .int) :: ([.methodLink RX5 186 yX3_getCell, .instanceMethod yX3_getCell, .selects RX3 yX3_getCell yX3_getCell, .initialized RX3, .code yX3_getCell cX3_getCell 2 (some .int), .fieldLink RX3 32 "PaperLayers$Sheet" "length" "I", .fieldLink RX3 9 "PaperLayers$Sheet" "cells" "[I", .methodLink RX5 226 yX5_goesOn, .static yX5_goesOn, .initialized RX5, .code yX5_goesOn cX5_goesOn 3 (some .boolean), .methodLink RX5 229 yX5_isDigit, .static yX5_isDigit, .code yX5_isDigit cX5_isDigit 1 (some .boolean), .methodLink RX5 232 yX5_kindOf, .static yX5_kindOf, .code yX5_kindOf cX5_kindOf 1 (some .int)] ++ wsX30)
def wsX5_wall_r1 : List Cond := [Cond.fieldLink RX5 42 "PaperLayers" "latestFault" "I", Cond.fieldLink RX5 12 "PaperLayers" "now" "LPaperLayers$Wall;", Cond.fieldLink RX5 24 "PaperLayers" "readings" "LPaperLayers$Readings;", Cond.fieldLink RX5 73 "PaperLayers$Readings" "count" "I", Cond.fieldLink RX5 76 "PaperLayers$Wall" "count" "I", Cond.methodLink RX5 46 yX5_sheetAt, Cond.instanceMethod yX5_sheetAt, Cond.selects RX5 yX5_sheetAt yX5_sheetAt, Cond.initialized RX5, Cond.code yX5_sheetAt cX5_sheetAt 2 (some (.object "PaperLayers$Sheet")), Cond.fieldLink RX5 37 "PaperLayers" "sheets" "[LPaperLayers$Sheet;", Cond.methodLink RX5 50 yX5_isUpTo, Cond.static yX5_isUpTo, Cond.code yX5_isUpTo cX5_isUpTo 2 (some .boolean), Cond.methodLink RX5 54 yX3_faultAsLane, Cond.instanceMethod yX3_faultAsLane, Cond.selects RX3 yX3_faultAsLane yX3_faultAsLane, Cond.initialized RX3, Cond.code yX3_faultAsLane cX3_faultAsLane 2 (some .int), Cond.fieldLink RX3 15 "PaperLayers$Sheet" "hasRow" "Z", Cond.fieldLink RX3 19 "PaperLayers$Sheet" "lane" "I", Cond.methodLink RX5 58 yX3_faultOfCells, Cond.instanceMethod yX3_faultOfCells, Cond.selects RX3 yX3_faultOfCells yX3_faultOfCells]
def wsX5_wall_r2 : List Cond := [Cond.code yX3_faultOfCells cX3_faultOfCells 3 (some .int), Cond.fieldLink RX3 32 "PaperLayers$Sheet" "length" "I", Cond.methodLink RX5 62 yX5_failed, Cond.instanceMethod yX5_failed, Cond.selects RX5 yX5_failed yX5_failed, Cond.code yX5_failed cX5_failed 2 (some .int), Cond.methodLink RX5 65 yX5_firstFault, Cond.static yX5_firstFault, Cond.code yX5_firstFault cX5_firstFault 4 (some .int), Cond.methodLink RX5 186 yX3_getCell, Cond.instanceMethod yX3_getCell, Cond.selects RX3 yX3_getCell yX3_getCell, Cond.code yX3_getCell cX3_getCell 2 (some .int), Cond.fieldLink RX3 9 "PaperLayers$Sheet" "cells" "[I", Cond.methodLink RX5 226 yX5_goesOn, Cond.static yX5_goesOn, Cond.code yX5_goesOn cX5_goesOn 3 (some .boolean), Cond.methodLink RX5 229 yX5_isDigit, Cond.static yX5_isDigit, Cond.code yX5_isDigit cX5_isDigit 1 (some .boolean), Cond.methodLink RX5 232 yX5_kindOf, Cond.static yX5_kindOf, Cond.code yX5_kindOf cX5_kindOf 1 (some .int), Cond.methodLink RX5 69 yX4_readText]
def wsX5_wall_r3 : List Cond := [Cond.instanceMethod yX4_readText, Cond.selects RX4 yX4_readText yX4_readText, Cond.initialized RX4, Cond.code yX4_readText cX4_readText 5 none, Cond.methodLink RX4 85 yX4_digitAt, Cond.static yX4_digitAt, Cond.code yX4_digitAt cX4_digitAt 2 (some .int), Cond.methodLink RX4 93 yX3_getCell, Cond.methodLink RX4 89 yX4_begin, Cond.instanceMethod yX4_begin, Cond.selects RX4 yX4_begin yX4_begin, Cond.code yX4_begin cX4_begin 3 none, Cond.fieldLink RX4 18 "PaperLayers$Wall" "count" "I", Cond.fieldLink RX4 22 "PaperLayers$Wall" "warm" "I", Cond.fieldLink RX4 25 "PaperLayers$Wall" "damp" "I", Cond.methodLink RX4 101 yX4_addBelow, Cond.instanceMethod yX4_addBelow, Cond.selects RX4 yX4_addBelow yX4_addBelow, Cond.code yX4_addBelow cX4_addBelow 4 none, Cond.fieldLink RX4 11 "PaperLayers$Wall" "layers" "[LPaperLayers$Layer;", Cond.methodLink RX4 60 yX0_become, Cond.instanceMethod yX0_become, Cond.selects RX0 yX0_become yX0_become, Cond.initialized RX0]
def wsX5_wall_r4 : List Cond := [Cond.code yX0_become cX0_become 4 none, Cond.fieldLink RX0 9 "PaperLayers$Layer" "kind" "I", Cond.fieldLink RX0 15 "PaperLayers$Layer" "hold" "I", Cond.fieldLink RX0 18 "PaperLayers$Layer" "advice" "I"]
def wsX5_wall : List Cond := .code yX5_wall cX5_wall 8 (some .int) :: ((wsX5_wall_r1 ++ (wsX5_wall_r2 ++ (wsX5_wall_r3 ++ wsX5_wall_r4))) ++ wsX50 ++ wsX20 ++ wsX40 ++ wsX30 ++ wsX00)
def wsX5_ofLayer_r1 : List Cond := [Cond.fieldLink RX5 12 "PaperLayers" "now" "LPaperLayers$Wall;", Cond.fieldLink RX5 81 "PaperLayers$Layer" "kind" "I", Cond.fieldLink RX5 86 "PaperLayers$Layer" "hold" "I", Cond.fieldLink RX5 89 "PaperLayers$Layer" "advice" "I", Cond.methodLink RX5 77 yX4_layerAt, Cond.instanceMethod yX4_layerAt, Cond.selects RX4 yX4_layerAt yX4_layerAt, Cond.initialized RX4, Cond.code yX4_layerAt cX4_layerAt 2 (some (.object "PaperLayers$Layer")), Cond.fieldLink RX4 18 "PaperLayers$Wall" "count" "I", Cond.fieldLink RX4 11 "PaperLayers$Wall" "layers" "[LPaperLayers$Layer;", Cond.methodLink RX5 92 yX0_grip, Cond.instanceMethod yX0_grip, Cond.selects RX0 yX0_grip yX0_grip, Cond.initialized RX0, Cond.code yX0_grip cX0_grip 1 (some .int), Cond.fieldLink RX0 9 "PaperLayers$Layer" "kind" "I", Cond.fieldLink RX0 15 "PaperLayers$Layer" "hold" "I", Cond.methodLink RX5 96 yX4_warmth, Cond.instanceMethod yX4_warmth, Cond.selects RX4 yX4_warmth yX4_warmth, Cond.code yX4_warmth cX4_warmth 1 (some .int), Cond.fieldLink RX4 22 "PaperLayers$Wall" "warm" "I", Cond.fieldLink RX4 25 "PaperLayers$Wall" "damp" "I"]
def wsX5_ofLayer_r2 : List Cond := [Cond.methodLink RX5 99 yX4_liftedBy, Cond.instanceMethod yX4_liftedBy, Cond.selects RX4 yX4_liftedBy yX4_liftedBy, Cond.code yX4_liftedBy cX4_liftedBy 3 (some .int), Cond.methodLink RX4 28 yX0_grip, Cond.methodLink RX5 102 yX4_heardBy, Cond.instanceMethod yX4_heardBy, Cond.selects RX4 yX4_heardBy yX4_heardBy, Cond.code yX4_heardBy cX4_heardBy 3 (some .int), Cond.fieldLink RX4 32 "PaperLayers$Layer" "kind" "I"]
def wsX5_ofLayer : List Cond := .code yX5_ofLayer cX5_ofLayer 4 (some .int) :: ((wsX5_ofLayer_r1 ++ wsX5_ofLayer_r2) ++ wsX50 ++ wsX00 ++ wsX40)
def wsX5_heat : List Cond := .code yX5_heat cX5_heat 3 (some .int) :: ([.fieldLink RX5 12 "PaperLayers" "now" "LPaperLayers$Wall;", .fieldLink RX5 109 "PaperLayers$Wall" "warm" "I", .methodLink RX5 50 yX5_isUpTo, .static yX5_isUpTo, .initialized RX5, .code yX5_isUpTo cX5_isUpTo 2 (some .boolean), .methodLink RX5 105 yX4_stands, .instanceMethod yX4_stands, .selects RX4 yX4_stands yX4_stands, .initialized RX4, .code yX4_stands cX4_stands 1 (some .boolean), .fieldLink RX4 18 "PaperLayers$Wall" "count" "I"] ++ wsX50 ++ wsX40)
def wsX5_wet : List Cond := .code yX5_wet cX5_wet 3 (some .int) :: ([.fieldLink RX5 12 "PaperLayers" "now" "LPaperLayers$Wall;", .fieldLink RX5 112 "PaperLayers$Wall" "damp" "I", .methodLink RX5 50 yX5_isUpTo, .static yX5_isUpTo, .initialized RX5, .code yX5_isUpTo cX5_isUpTo 2 (some .boolean), .methodLink RX5 105 yX4_stands, .instanceMethod yX4_stands, .selects RX4 yX4_stands yX4_stands, .initialized RX4, .code yX4_stands cX4_stands 1 (some .boolean), .fieldLink RX4 18 "PaperLayers$Wall" "count" "I"] ++ wsX50 ++ wsX40)
def wsX5_paste : List Cond := .code yX5_paste cX5_paste 5 (some .int) :: ([.fieldLink RX5 12 "PaperLayers" "now" "LPaperLayers$Wall;", .fieldLink RX5 86 "PaperLayers$Layer" "hold" "I", .methodLink RX5 77 yX4_layerAt, .instanceMethod yX4_layerAt, .selects RX4 yX4_layerAt yX4_layerAt, .initialized RX4, .code yX4_layerAt cX4_layerAt 2 (some (.object "PaperLayers$Layer")), .fieldLink RX4 18 "PaperLayers$Wall" "count" "I", .fieldLink RX4 11 "PaperLayers$Wall" "layers" "[LPaperLayers$Layer;", .methodLink RX5 50 yX5_isUpTo, .static yX5_isUpTo, .initialized RX5, .code yX5_isUpTo cX5_isUpTo 2 (some .boolean)] ++ wsX50 ++ wsX00 ++ wsX40)
def wsX5_setOfFirst : List Cond := .code yX5_setOfFirst cX5_setOfFirst 1 (some .int) :: ([])
def wsX5_heard_r1 : List Cond := [Cond.fieldLink RX5 12 "PaperLayers" "now" "LPaperLayers$Wall;", Cond.methodLink RX5 105 yX4_stands, Cond.instanceMethod yX4_stands, Cond.selects RX4 yX4_stands yX4_stands, Cond.initialized RX4, Cond.code yX4_stands cX4_stands 1 (some .boolean), Cond.fieldLink RX4 18 "PaperLayers$Wall" "count" "I", Cond.methodLink RX5 96 yX4_warmth, Cond.instanceMethod yX4_warmth, Cond.selects RX4 yX4_warmth yX4_warmth, Cond.code yX4_warmth cX4_warmth 1 (some .int), Cond.fieldLink RX4 22 "PaperLayers$Wall" "warm" "I", Cond.fieldLink RX4 25 "PaperLayers$Wall" "damp" "I", Cond.methodLink RX5 102 yX4_heardBy, Cond.instanceMethod yX4_heardBy, Cond.selects RX4 yX4_heardBy yX4_heardBy, Cond.code yX4_heardBy cX4_heardBy 3 (some .int), Cond.fieldLink RX4 11 "PaperLayers$Wall" "layers" "[LPaperLayers$Layer;", Cond.fieldLink RX4 32 "PaperLayers$Layer" "kind" "I", Cond.methodLink RX4 28 yX0_grip, Cond.instanceMethod yX0_grip, Cond.selects RX0 yX0_grip yX0_grip, Cond.initialized RX0, Cond.code yX0_grip cX0_grip 1 (some .int)]
def wsX5_heard_r2 : List Cond := [Cond.fieldLink RX0 9 "PaperLayers$Layer" "kind" "I", Cond.fieldLink RX0 15 "PaperLayers$Layer" "hold" "I", Cond.methodLink RX5 115 yX5_setOfFirst, Cond.static yX5_setOfFirst, Cond.initialized RX5, Cond.code yX5_setOfFirst cX5_setOfFirst 1 (some .int)]
def wsX5_heard : List Cond := .code yX5_heard cX5_heard 1 (some .int) :: ((wsX5_heard_r1 ++ wsX5_heard_r2) ++ wsX50 ++ wsX40 ++ wsX00)
def wsX5_counsel_r1 : List Cond := [Cond.fieldLink RX5 12 "PaperLayers" "now" "LPaperLayers$Wall;", Cond.methodLink RX5 50 yX5_isUpTo, Cond.static yX5_isUpTo, Cond.initialized RX5, Cond.code yX5_isUpTo cX5_isUpTo 2 (some .boolean), Cond.methodLink RX5 105 yX4_stands, Cond.instanceMethod yX4_stands, Cond.selects RX4 yX4_stands yX4_stands, Cond.initialized RX4, Cond.code yX4_stands cX4_stands 1 (some .boolean), Cond.fieldLink RX4 18 "PaperLayers$Wall" "count" "I", Cond.methodLink RX5 118 yX4_counselBy, Cond.instanceMethod yX4_counselBy, Cond.selects RX4 yX4_counselBy yX4_counselBy, Cond.code yX4_counselBy cX4_counselBy 9 (some .int), Cond.fieldLink RX4 11 "PaperLayers$Wall" "layers" "[LPaperLayers$Layer;", Cond.fieldLink RX4 43 "PaperLayers$Layer" "advice" "I", Cond.methodLink RX4 35 yX4_heardBy, Cond.instanceMethod yX4_heardBy, Cond.selects RX4 yX4_heardBy yX4_heardBy, Cond.code yX4_heardBy cX4_heardBy 3 (some .int), Cond.fieldLink RX4 32 "PaperLayers$Layer" "kind" "I", Cond.methodLink RX4 28 yX0_grip, Cond.instanceMethod yX0_grip]
def wsX5_counsel_r2 : List Cond := [Cond.selects RX0 yX0_grip yX0_grip, Cond.initialized RX0, Cond.code yX0_grip cX0_grip 1 (some .int), Cond.fieldLink RX0 9 "PaperLayers$Layer" "kind" "I", Cond.fieldLink RX0 15 "PaperLayers$Layer" "hold" "I", Cond.methodLink RX4 39 yX4_votesOf, Cond.instanceMethod yX4_votesOf, Cond.selects RX4 yX4_votesOf yX4_votesOf, Cond.code yX4_votesOf cX4_votesOf 5 (some .long), Cond.methodLink RX4 46 yX4_votesFor, Cond.static yX4_votesFor, Cond.code yX4_votesFor cX4_votesFor 3 (some .int)]
def wsX5_counsel : List Cond := .code yX5_counsel cX5_counsel 3 (some .int) :: ((wsX5_counsel_r1 ++ wsX5_counsel_r2) ++ wsX50 ++ wsX40 ++ wsX00)
def wsX5_clash_r1 : List Cond := [Cond.fieldLink RX5 12 "PaperLayers" "now" "LPaperLayers$Wall;", Cond.methodLink RX5 50 yX5_isUpTo, Cond.static yX5_isUpTo, Cond.initialized RX5, Cond.code yX5_isUpTo cX5_isUpTo 2 (some .boolean), Cond.methodLink RX5 105 yX4_stands, Cond.instanceMethod yX4_stands, Cond.selects RX4 yX4_stands yX4_stands, Cond.initialized RX4, Cond.code yX4_stands cX4_stands 1 (some .boolean), Cond.fieldLink RX4 18 "PaperLayers$Wall" "count" "I", Cond.methodLink RX5 96 yX4_warmth, Cond.instanceMethod yX4_warmth, Cond.selects RX4 yX4_warmth yX4_warmth, Cond.code yX4_warmth cX4_warmth 1 (some .int), Cond.fieldLink RX4 22 "PaperLayers$Wall" "warm" "I", Cond.fieldLink RX4 25 "PaperLayers$Wall" "damp" "I", Cond.methodLink RX5 102 yX4_heardBy, Cond.instanceMethod yX4_heardBy, Cond.selects RX4 yX4_heardBy yX4_heardBy, Cond.code yX4_heardBy cX4_heardBy 3 (some .int), Cond.fieldLink RX4 11 "PaperLayers$Wall" "layers" "[LPaperLayers$Layer;", Cond.fieldLink RX4 32 "PaperLayers$Layer" "kind" "I", Cond.methodLink RX4 28 yX0_grip]
def wsX5_clash_r2 : List Cond := [Cond.instanceMethod yX0_grip, Cond.selects RX0 yX0_grip yX0_grip, Cond.initialized RX0, Cond.code yX0_grip cX0_grip 1 (some .int), Cond.fieldLink RX0 9 "PaperLayers$Layer" "kind" "I", Cond.fieldLink RX0 15 "PaperLayers$Layer" "hold" "I", Cond.methodLink RX5 121 yX4_unlikeTwos, Cond.instanceMethod yX4_unlikeTwos, Cond.selects RX4 yX4_unlikeTwos yX4_unlikeTwos, Cond.code yX4_unlikeTwos cX4_unlikeTwos 5 (some .int), Cond.fieldLink RX4 43 "PaperLayers$Layer" "advice" "I", Cond.methodLink RX5 124 yX4_mostAlike, Cond.instanceMethod yX4_mostAlike, Cond.selects RX4 yX4_mostAlike yX4_mostAlike, Cond.code yX4_mostAlike cX4_mostAlike 6 (some .int), Cond.methodLink RX4 50 Lib.Math.max.name, Cond.static Lib.Math.max.name, Cond.initialized "java/lang/Math", Cond.code Lib.Math.max.name Lib.Math.max.code 2 (some .int), Cond.methodLink RX4 39 yX4_votesOf, Cond.instanceMethod yX4_votesOf, Cond.selects RX4 yX4_votesOf yX4_votesOf, Cond.code yX4_votesOf cX4_votesOf 5 (some .long), Cond.methodLink RX4 46 yX4_votesFor]
def wsX5_clash_r3 : List Cond := [Cond.static yX4_votesFor, Cond.code yX4_votesFor cX4_votesFor 3 (some .int)]
def wsX5_clash : List Cond := .code yX5_clash cX5_clash 3 (some .int) :: ((wsX5_clash_r1 ++ (wsX5_clash_r2 ++ wsX5_clash_r3)) ++ wsX50 ++ wsX40 ++ wsX00)
def wsX5_putUp_r1 : List Cond := [Cond.fieldLink RX5 12 "PaperLayers" "now" "LPaperLayers$Wall;", Cond.fieldLink RX5 76 "PaperLayers$Wall" "count" "I", Cond.methodLink RX5 50 yX5_isUpTo, Cond.static yX5_isUpTo, Cond.initialized RX5, Cond.code yX5_isUpTo cX5_isUpTo 2 (some .boolean), Cond.methodLink RX5 105 yX4_stands, Cond.instanceMethod yX4_stands, Cond.selects RX4 yX4_stands yX4_stands, Cond.initialized RX4, Cond.code yX4_stands cX4_stands 1 (some .boolean), Cond.fieldLink RX4 18 "PaperLayers$Wall" "count" "I", Cond.methodLink RX5 127 yX4_layOnTop, Cond.instanceMethod yX4_layOnTop, Cond.selects RX4 yX4_layOnTop yX4_layOnTop, Cond.code yX4_layOnTop cX4_layOnTop 5 (some .boolean), Cond.fieldLink RX4 11 "PaperLayers$Wall" "layers" "[LPaperLayers$Layer;", Cond.methodLink RX4 56 yX0_becomeLike, Cond.instanceMethod yX0_becomeLike, Cond.selects RX0 yX0_becomeLike yX0_becomeLike, Cond.initialized RX0, Cond.code yX0_becomeLike cX0_becomeLike 2 none, Cond.fieldLink RX0 9 "PaperLayers$Layer" "kind" "I", Cond.fieldLink RX0 15 "PaperLayers$Layer" "hold" "I"]
def wsX5_putUp_r2 : List Cond := [Cond.fieldLink RX0 18 "PaperLayers$Layer" "advice" "I", Cond.methodLink RX0 21 yX0_become, Cond.instanceMethod yX0_become, Cond.selects RX0 yX0_become yX0_become, Cond.code yX0_become cX0_become 4 none, Cond.methodLink RX4 60 yX0_become]
def wsX5_putUp : List Cond := .code yX5_putUp cX5_putUp 4 (some .int) :: ((wsX5_putUp_r1 ++ wsX5_putUp_r2) ++ wsX50 ++ wsX40 ++ wsX00)
def wsX5_peel_r1 : List Cond := [Cond.fieldLink RX5 12 "PaperLayers" "now" "LPaperLayers$Wall;", Cond.fieldLink RX5 89 "PaperLayers$Layer" "advice" "I", Cond.methodLink RX5 77 yX4_layerAt, Cond.instanceMethod yX4_layerAt, Cond.selects RX4 yX4_layerAt yX4_layerAt, Cond.initialized RX4, Cond.code yX4_layerAt cX4_layerAt 2 (some (.object "PaperLayers$Layer")), Cond.fieldLink RX4 18 "PaperLayers$Wall" "count" "I", Cond.fieldLink RX4 11 "PaperLayers$Wall" "layers" "[LPaperLayers$Layer;", Cond.methodLink RX5 131 yX4_peelTop, Cond.instanceMethod yX4_peelTop, Cond.selects RX4 yX4_peelTop yX4_peelTop, Cond.code yX4_peelTop cX4_peelTop 2 (some .boolean), Cond.methodLink RX4 64 yX4_warmth, Cond.instanceMethod yX4_warmth, Cond.selects RX4 yX4_warmth yX4_warmth, Cond.code yX4_warmth cX4_warmth 1 (some .int), Cond.fieldLink RX4 22 "PaperLayers$Wall" "warm" "I", Cond.fieldLink RX4 25 "PaperLayers$Wall" "damp" "I", Cond.methodLink RX4 67 yX4_liftedBy, Cond.instanceMethod yX4_liftedBy, Cond.selects RX4 yX4_liftedBy yX4_liftedBy, Cond.code yX4_liftedBy cX4_liftedBy 3 (some .int), Cond.methodLink RX4 28 yX0_grip]
def wsX5_peel_r2 : List Cond := [Cond.instanceMethod yX0_grip, Cond.selects RX0 yX0_grip yX0_grip, Cond.initialized RX0, Cond.code yX0_grip cX0_grip 1 (some .int), Cond.fieldLink RX0 9 "PaperLayers$Layer" "kind" "I", Cond.fieldLink RX0 15 "PaperLayers$Layer" "hold" "I", Cond.methodLink RX4 56 yX0_becomeLike, Cond.instanceMethod yX0_becomeLike, Cond.selects RX0 yX0_becomeLike yX0_becomeLike, Cond.code yX0_becomeLike cX0_becomeLike 2 none, Cond.fieldLink RX0 18 "PaperLayers$Layer" "advice" "I", Cond.methodLink RX0 21 yX0_become, Cond.instanceMethod yX0_become, Cond.selects RX0 yX0_become yX0_become, Cond.code yX0_become cX0_become 4 none]
def wsX5_peel : List Cond := .code yX5_peel cX5_peel 3 (some .int) :: ((wsX5_peel_r1 ++ wsX5_peel_r2) ++ wsX50 ++ wsX00 ++ wsX40)
def wsX5_isAct : List Cond := .code yX5_isAct cX5_isAct 2 (some .boolean) :: ([.methodLink RX5 50 yX5_isUpTo, .static yX5_isUpTo, .initialized RX5, .code yX5_isUpTo cX5_isUpTo 2 (some .boolean)])
def wsX5_areActs : List Cond := .code yX5_areActs cX5_areActs 5 (some .boolean) :: ([.methodLink RX5 186 yX3_getCell, .instanceMethod yX3_getCell, .selects RX3 yX3_getCell yX3_getCell, .initialized RX3, .code yX3_getCell cX3_getCell 2 (some .int), .fieldLink RX3 32 "PaperLayers$Sheet" "length" "I", .fieldLink RX3 9 "PaperLayers$Sheet" "cells" "[I", .methodLink RX5 235 yX5_isAct, .static yX5_isAct, .initialized RX5, .code yX5_isAct cX5_isAct 2 (some .boolean), .methodLink RX5 50 yX5_isUpTo, .static yX5_isUpTo, .code yX5_isUpTo cX5_isUpTo 2 (some .boolean)] ++ wsX30)
def wsX5_afterDays_r1 : List Cond := [Cond.fieldLink RX5 18 "PaperLayers" "trial" "LPaperLayers$Wall;", Cond.fieldLink RX5 12 "PaperLayers" "now" "LPaperLayers$Wall;", Cond.fieldLink RX5 76 "PaperLayers$Wall" "count" "I", Cond.methodLink RX5 238 yX4_become, Cond.instanceMethod yX4_become, Cond.selects RX4 yX4_become yX4_become, Cond.initialized RX4, Cond.code yX4_become cX4_become 2 none, Cond.methodLink RX4 104 yX4_becomeLess, Cond.instanceMethod yX4_becomeLess, Cond.selects RX4 yX4_becomeLess yX4_becomeLess, Cond.code yX4_becomeLess cX4_becomeLess 4 none, Cond.fieldLink RX4 22 "PaperLayers$Wall" "warm" "I", Cond.fieldLink RX4 25 "PaperLayers$Wall" "damp" "I", Cond.fieldLink RX4 18 "PaperLayers$Wall" "count" "I", Cond.methodLink RX4 89 yX4_begin, Cond.instanceMethod yX4_begin, Cond.selects RX4 yX4_begin yX4_begin, Cond.code yX4_begin cX4_begin 3 none, Cond.methodLink RX4 78 yX4_layerAt, Cond.instanceMethod yX4_layerAt, Cond.selects RX4 yX4_layerAt yX4_layerAt, Cond.code yX4_layerAt cX4_layerAt 2 (some (.object "PaperLayers$Layer")), Cond.fieldLink RX4 11 "PaperLayers$Wall" "layers" "[LPaperLayers$Layer;"]
def wsX5_afterDays_r2 : List Cond := [Cond.methodLink RX4 108 yX4_addLike, Cond.instanceMethod yX4_addLike, Cond.selects RX4 yX4_addLike yX4_addLike, Cond.code yX4_addLike cX4_addLike 2 none, Cond.fieldLink RX4 32 "PaperLayers$Layer" "kind" "I", Cond.fieldLink RX4 82 "PaperLayers$Layer" "hold" "I", Cond.fieldLink RX4 43 "PaperLayers$Layer" "advice" "I", Cond.methodLink RX4 101 yX4_addBelow, Cond.instanceMethod yX4_addBelow, Cond.selects RX4 yX4_addBelow yX4_addBelow, Cond.code yX4_addBelow cX4_addBelow 4 none, Cond.methodLink RX4 60 yX0_become, Cond.instanceMethod yX0_become, Cond.selects RX0 yX0_become yX0_become, Cond.initialized RX0, Cond.code yX0_become cX0_become 4 none, Cond.fieldLink RX0 9 "PaperLayers$Layer" "kind" "I", Cond.fieldLink RX0 15 "PaperLayers$Layer" "hold" "I", Cond.fieldLink RX0 18 "PaperLayers$Layer" "advice" "I", Cond.methodLink RX5 186 yX3_getCell, Cond.instanceMethod yX3_getCell, Cond.selects RX3 yX3_getCell yX3_getCell, Cond.initialized RX3, Cond.code yX3_getCell cX3_getCell 2 (some .int)]
def wsX5_afterDays_r3 : List Cond := [Cond.fieldLink RX3 32 "PaperLayers$Sheet" "length" "I", Cond.fieldLink RX3 9 "PaperLayers$Sheet" "cells" "[I", Cond.methodLink RX5 242 yX4_doAct, Cond.instanceMethod yX4_doAct, Cond.selects RX4 yX4_doAct yX4_doAct, Cond.code yX4_doAct cX4_doAct 3 (some .boolean), Cond.methodLink RX4 70 yX4_peelTop, Cond.instanceMethod yX4_peelTop, Cond.selects RX4 yX4_peelTop yX4_peelTop, Cond.code yX4_peelTop cX4_peelTop 2 (some .boolean), Cond.methodLink RX4 64 yX4_warmth, Cond.instanceMethod yX4_warmth, Cond.selects RX4 yX4_warmth yX4_warmth, Cond.code yX4_warmth cX4_warmth 1 (some .int), Cond.methodLink RX4 67 yX4_liftedBy, Cond.instanceMethod yX4_liftedBy, Cond.selects RX4 yX4_liftedBy yX4_liftedBy, Cond.code yX4_liftedBy cX4_liftedBy 3 (some .int), Cond.methodLink RX4 28 yX0_grip, Cond.instanceMethod yX0_grip, Cond.selects RX0 yX0_grip yX0_grip, Cond.code yX0_grip cX0_grip 1 (some .int), Cond.methodLink RX4 56 yX0_becomeLike, Cond.instanceMethod yX0_becomeLike]
def wsX5_afterDays_r4 : List Cond := [Cond.selects RX0 yX0_becomeLike yX0_becomeLike, Cond.code yX0_becomeLike cX0_becomeLike 2 none, Cond.methodLink RX0 21 yX0_become, Cond.methodLink RX4 74 yX4_layOnTop, Cond.instanceMethod yX4_layOnTop, Cond.selects RX4 yX4_layOnTop yX4_layOnTop, Cond.code yX4_layOnTop cX4_layOnTop 5 (some .boolean), Cond.methodLink RX5 96 yX4_warmth, Cond.methodLink RX5 102 yX4_heardBy, Cond.instanceMethod yX4_heardBy, Cond.selects RX4 yX4_heardBy yX4_heardBy, Cond.code yX4_heardBy cX4_heardBy 3 (some .int), Cond.methodLink RX5 118 yX4_counselBy, Cond.instanceMethod yX4_counselBy, Cond.selects RX4 yX4_counselBy yX4_counselBy, Cond.code yX4_counselBy cX4_counselBy 9 (some .int), Cond.methodLink RX4 35 yX4_heardBy, Cond.methodLink RX4 39 yX4_votesOf, Cond.instanceMethod yX4_votesOf, Cond.selects RX4 yX4_votesOf yX4_votesOf, Cond.code yX4_votesOf cX4_votesOf 5 (some .long), Cond.methodLink RX4 46 yX4_votesFor, Cond.static yX4_votesFor, Cond.code yX4_votesFor cX4_votesFor 3 (some .int)]
def wsX5_afterDays_r5 : List Cond := [Cond.methodLink RX5 115 yX5_setOfFirst, Cond.static yX5_setOfFirst, Cond.initialized RX5, Cond.code yX5_setOfFirst cX5_setOfFirst 1 (some .int)]
def wsX5_afterDays : List Cond := .code yX5_afterDays cX5_afterDays 8 (some .int) :: ((wsX5_afterDays_r1 ++ (wsX5_afterDays_r2 ++ (wsX5_afterDays_r3 ++ (wsX5_afterDays_r4 ++ wsX5_afterDays_r5)))) ++ wsX50 ++ wsX40 ++ wsX00 ++ wsX30)
def wsX5_days_r1 : List Cond := [Cond.fieldLink RX5 42 "PaperLayers" "latestFault" "I", Cond.fieldLink RX5 12 "PaperLayers" "now" "LPaperLayers$Wall;", Cond.methodLink RX5 46 yX5_sheetAt, Cond.instanceMethod yX5_sheetAt, Cond.selects RX5 yX5_sheetAt yX5_sheetAt, Cond.initialized RX5, Cond.code yX5_sheetAt cX5_sheetAt 2 (some (.object "PaperLayers$Sheet")), Cond.fieldLink RX5 37 "PaperLayers" "sheets" "[LPaperLayers$Sheet;", Cond.methodLink RX5 50 yX5_isUpTo, Cond.static yX5_isUpTo, Cond.code yX5_isUpTo cX5_isUpTo 2 (some .boolean), Cond.methodLink RX5 54 yX3_faultAsLane, Cond.instanceMethod yX3_faultAsLane, Cond.selects RX3 yX3_faultAsLane yX3_faultAsLane, Cond.initialized RX3, Cond.code yX3_faultAsLane cX3_faultAsLane 2 (some .int), Cond.fieldLink RX3 15 "PaperLayers$Sheet" "hasRow" "Z", Cond.fieldLink RX3 19 "PaperLayers$Sheet" "lane" "I", Cond.methodLink RX5 58 yX3_faultOfCells, Cond.instanceMethod yX3_faultOfCells, Cond.selects RX3 yX3_faultOfCells yX3_faultOfCells, Cond.code yX3_faultOfCells cX3_faultOfCells 3 (some .int), Cond.fieldLink RX3 32 "PaperLayers$Sheet" "length" "I", Cond.methodLink RX5 62 yX5_failed]
def wsX5_days_r2 : List Cond := [Cond.instanceMethod yX5_failed, Cond.selects RX5 yX5_failed yX5_failed, Cond.code yX5_failed cX5_failed 2 (some .int), Cond.methodLink RX5 105 yX4_stands, Cond.instanceMethod yX4_stands, Cond.selects RX4 yX4_stands yX4_stands, Cond.initialized RX4, Cond.code yX4_stands cX4_stands 1 (some .boolean), Cond.fieldLink RX4 18 "PaperLayers$Wall" "count" "I", Cond.methodLink RX5 134 yX5_areActs, Cond.static yX5_areActs, Cond.code yX5_areActs cX5_areActs 5 (some .boolean), Cond.methodLink RX5 186 yX3_getCell, Cond.instanceMethod yX3_getCell, Cond.selects RX3 yX3_getCell yX3_getCell, Cond.code yX3_getCell cX3_getCell 2 (some .int), Cond.fieldLink RX3 9 "PaperLayers$Sheet" "cells" "[I", Cond.methodLink RX5 235 yX5_isAct, Cond.static yX5_isAct, Cond.code yX5_isAct cX5_isAct 2 (some .boolean), Cond.methodLink RX5 138 yX5_afterDays, Cond.instanceMethod yX5_afterDays, Cond.selects RX5 yX5_afterDays yX5_afterDays, Cond.code yX5_afterDays cX5_afterDays 8 (some .int)]
def wsX5_days_r3 : List Cond := [Cond.fieldLink RX5 18 "PaperLayers" "trial" "LPaperLayers$Wall;", Cond.fieldLink RX5 76 "PaperLayers$Wall" "count" "I", Cond.methodLink RX5 238 yX4_become, Cond.instanceMethod yX4_become, Cond.selects RX4 yX4_become yX4_become, Cond.code yX4_become cX4_become 2 none, Cond.methodLink RX4 104 yX4_becomeLess, Cond.instanceMethod yX4_becomeLess, Cond.selects RX4 yX4_becomeLess yX4_becomeLess, Cond.code yX4_becomeLess cX4_becomeLess 4 none, Cond.fieldLink RX4 22 "PaperLayers$Wall" "warm" "I", Cond.fieldLink RX4 25 "PaperLayers$Wall" "damp" "I", Cond.methodLink RX4 89 yX4_begin, Cond.instanceMethod yX4_begin, Cond.selects RX4 yX4_begin yX4_begin, Cond.code yX4_begin cX4_begin 3 none, Cond.methodLink RX4 78 yX4_layerAt, Cond.instanceMethod yX4_layerAt, Cond.selects RX4 yX4_layerAt yX4_layerAt, Cond.code yX4_layerAt cX4_layerAt 2 (some (.object "PaperLayers$Layer")), Cond.fieldLink RX4 11 "PaperLayers$Wall" "layers" "[LPaperLayers$Layer;", Cond.methodLink RX4 108 yX4_addLike, Cond.instanceMethod yX4_addLike, Cond.selects RX4 yX4_addLike yX4_addLike]
def wsX5_days_r4 : List Cond := [Cond.code yX4_addLike cX4_addLike 2 none, Cond.fieldLink RX4 32 "PaperLayers$Layer" "kind" "I", Cond.fieldLink RX4 82 "PaperLayers$Layer" "hold" "I", Cond.fieldLink RX4 43 "PaperLayers$Layer" "advice" "I", Cond.methodLink RX4 101 yX4_addBelow, Cond.instanceMethod yX4_addBelow, Cond.selects RX4 yX4_addBelow yX4_addBelow, Cond.code yX4_addBelow cX4_addBelow 4 none, Cond.methodLink RX4 60 yX0_become, Cond.instanceMethod yX0_become, Cond.selects RX0 yX0_become yX0_become, Cond.initialized RX0, Cond.code yX0_become cX0_become 4 none, Cond.fieldLink RX0 9 "PaperLayers$Layer" "kind" "I", Cond.fieldLink RX0 15 "PaperLayers$Layer" "hold" "I", Cond.fieldLink RX0 18 "PaperLayers$Layer" "advice" "I", Cond.methodLink RX5 242 yX4_doAct, Cond.instanceMethod yX4_doAct, Cond.selects RX4 yX4_doAct yX4_doAct, Cond.code yX4_doAct cX4_doAct 3 (some .boolean), Cond.methodLink RX4 70 yX4_peelTop, Cond.instanceMethod yX4_peelTop, Cond.selects RX4 yX4_peelTop yX4_peelTop, Cond.code yX4_peelTop cX4_peelTop 2 (some .boolean)]
def wsX5_days_r5 : List Cond := [Cond.methodLink RX4 64 yX4_warmth, Cond.instanceMethod yX4_warmth, Cond.selects RX4 yX4_warmth yX4_warmth, Cond.code yX4_warmth cX4_warmth 1 (some .int), Cond.methodLink RX4 67 yX4_liftedBy, Cond.instanceMethod yX4_liftedBy, Cond.selects RX4 yX4_liftedBy yX4_liftedBy, Cond.code yX4_liftedBy cX4_liftedBy 3 (some .int), Cond.methodLink RX4 28 yX0_grip, Cond.instanceMethod yX0_grip, Cond.selects RX0 yX0_grip yX0_grip, Cond.code yX0_grip cX0_grip 1 (some .int), Cond.methodLink RX4 56 yX0_becomeLike, Cond.instanceMethod yX0_becomeLike, Cond.selects RX0 yX0_becomeLike yX0_becomeLike, Cond.code yX0_becomeLike cX0_becomeLike 2 none, Cond.methodLink RX0 21 yX0_become, Cond.methodLink RX4 74 yX4_layOnTop, Cond.instanceMethod yX4_layOnTop, Cond.selects RX4 yX4_layOnTop yX4_layOnTop, Cond.code yX4_layOnTop cX4_layOnTop 5 (some .boolean), Cond.methodLink RX5 96 yX4_warmth, Cond.methodLink RX5 102 yX4_heardBy, Cond.instanceMethod yX4_heardBy]
def wsX5_days_r6 : List Cond := [Cond.selects RX4 yX4_heardBy yX4_heardBy, Cond.code yX4_heardBy cX4_heardBy 3 (some .int), Cond.methodLink RX5 118 yX4_counselBy, Cond.instanceMethod yX4_counselBy, Cond.selects RX4 yX4_counselBy yX4_counselBy, Cond.code yX4_counselBy cX4_counselBy 9 (some .int), Cond.methodLink RX4 35 yX4_heardBy, Cond.methodLink RX4 39 yX4_votesOf, Cond.instanceMethod yX4_votesOf, Cond.selects RX4 yX4_votesOf yX4_votesOf, Cond.code yX4_votesOf cX4_votesOf 5 (some .long), Cond.methodLink RX4 46 yX4_votesFor, Cond.static yX4_votesFor, Cond.code yX4_votesFor cX4_votesFor 3 (some .int), Cond.methodLink RX5 115 yX5_setOfFirst, Cond.static yX5_setOfFirst, Cond.code yX5_setOfFirst cX5_setOfFirst 1 (some .int)]
def wsX5_days : List Cond := .code yX5_days cX5_days 8 (some .int) :: ((wsX5_days_r1 ++ (wsX5_days_r2 ++ (wsX5_days_r3 ++ (wsX5_days_r4 ++ (wsX5_days_r5 ++ wsX5_days_r6))))) ++ wsX50 ++ wsX30 ++ wsX40 ++ wsX00)
def wsX5_needs : List Cond := .code yX5_needs cX5_needs 3 (some .int) :: ([.fieldLink RX5 12 "PaperLayers" "now" "LPaperLayers$Wall;", .fieldLink RX5 112 "PaperLayers$Wall" "damp" "I", .methodLink RX5 77 yX4_layerAt, .instanceMethod yX4_layerAt, .selects RX4 yX4_layerAt yX4_layerAt, .initialized RX4, .code yX4_layerAt cX4_layerAt 2 (some (.object "PaperLayers$Layer")), .fieldLink RX4 18 "PaperLayers$Wall" "count" "I", .fieldLink RX4 11 "PaperLayers$Wall" "layers" "[LPaperLayers$Layer;", .methodLink RX5 102 yX4_heardBy, .instanceMethod yX4_heardBy, .selects RX4 yX4_heardBy yX4_heardBy, .code yX4_heardBy cX4_heardBy 3 (some .int), .fieldLink RX4 32 "PaperLayers$Layer" "kind" "I", .methodLink RX4 28 yX0_grip, .instanceMethod yX0_grip, .selects RX0 yX0_grip yX0_grip, .initialized RX0, .code yX0_grip cX0_grip 1 (some .int), .fieldLink RX0 9 "PaperLayers$Layer" "kind" "I", .fieldLink RX0 15 "PaperLayers$Layer" "hold" "I"] ++ wsX50 ++ wsX40 ++ wsX00)
def wsX5_gets_r1 : List Cond := [Cond.fieldLink RX5 12 "PaperLayers" "now" "LPaperLayers$Wall;", Cond.fieldLink RX5 112 "PaperLayers$Wall" "damp" "I", Cond.methodLink RX5 50 yX5_isUpTo, Cond.static yX5_isUpTo, Cond.initialized RX5, Cond.code yX5_isUpTo cX5_isUpTo 2 (some .boolean), Cond.methodLink RX5 105 yX4_stands, Cond.instanceMethod yX4_stands, Cond.selects RX4 yX4_stands yX4_stands, Cond.initialized RX4, Cond.code yX4_stands cX4_stands 1 (some .boolean), Cond.fieldLink RX4 18 "PaperLayers$Wall" "count" "I", Cond.methodLink RX5 118 yX4_counselBy, Cond.instanceMethod yX4_counselBy, Cond.selects RX4 yX4_counselBy yX4_counselBy, Cond.code yX4_counselBy cX4_counselBy 9 (some .int), Cond.fieldLink RX4 11 "PaperLayers$Wall" "layers" "[LPaperLayers$Layer;", Cond.fieldLink RX4 43 "PaperLayers$Layer" "advice" "I", Cond.methodLink RX4 35 yX4_heardBy, Cond.instanceMethod yX4_heardBy, Cond.selects RX4 yX4_heardBy yX4_heardBy, Cond.code yX4_heardBy cX4_heardBy 3 (some .int), Cond.fieldLink RX4 32 "PaperLayers$Layer" "kind" "I", Cond.methodLink RX4 28 yX0_grip]
def wsX5_gets_r2 : List Cond := [Cond.instanceMethod yX0_grip, Cond.selects RX0 yX0_grip yX0_grip, Cond.initialized RX0, Cond.code yX0_grip cX0_grip 1 (some .int), Cond.fieldLink RX0 9 "PaperLayers$Layer" "kind" "I", Cond.fieldLink RX0 15 "PaperLayers$Layer" "hold" "I", Cond.methodLink RX4 39 yX4_votesOf, Cond.instanceMethod yX4_votesOf, Cond.selects RX4 yX4_votesOf yX4_votesOf, Cond.code yX4_votesOf cX4_votesOf 5 (some .long), Cond.methodLink RX4 46 yX4_votesFor, Cond.static yX4_votesFor, Cond.code yX4_votesFor cX4_votesFor 3 (some .int)]
def wsX5_gets : List Cond := .code yX5_gets cX5_gets 3 (some .int) :: ((wsX5_gets_r1 ++ wsX5_gets_r2) ++ wsX50 ++ wsX40 ++ wsX00)
def wsJ6_bitCount_0f7a4 : List Cond := .code yJ6_bitCount_0f7a4 cJ6_bitCount_0f7a4 1 (some .int) :: ([.constant RJ6 265 (1431655765), .constant RJ6 266 (858993459), .constant RJ6 267 (252645135)])
def wsX5_without_r1 : List Cond := [Cond.fieldLink RX5 12 "PaperLayers" "now" "LPaperLayers$Wall;", Cond.fieldLink RX5 76 "PaperLayers$Wall" "count" "I", Cond.fieldLink RX5 18 "PaperLayers" "trial" "LPaperLayers$Wall;", Cond.methodLink RX5 50 yX5_isUpTo, Cond.static yX5_isUpTo, Cond.initialized RX5, Cond.code yX5_isUpTo cX5_isUpTo 2 (some .boolean), Cond.methodLink RX5 105 yX4_stands, Cond.instanceMethod yX4_stands, Cond.selects RX4 yX4_stands yX4_stands, Cond.initialized RX4, Cond.code yX4_stands cX4_stands 1 (some .boolean), Cond.fieldLink RX4 18 "PaperLayers$Wall" "count" "I", Cond.methodLink RX5 142 yJ6_bitCount_0f7a4, Cond.static yJ6_bitCount_0f7a4, Cond.initialized RJ6, Cond.code yJ6_bitCount_0f7a4 cJ6_bitCount_0f7a4 1 (some .int), Cond.constant RJ6 265 (1431655765), Cond.constant RJ6 266 (858993459), Cond.constant RJ6 267 (252645135), Cond.methodLink RX5 147 yX4_becomeLess, Cond.instanceMethod yX4_becomeLess, Cond.selects RX4 yX4_becomeLess yX4_becomeLess, Cond.code yX4_becomeLess cX4_becomeLess 4 none]
def wsX5_without_r2 : List Cond := [Cond.fieldLink RX4 22 "PaperLayers$Wall" "warm" "I", Cond.fieldLink RX4 25 "PaperLayers$Wall" "damp" "I", Cond.methodLink RX4 89 yX4_begin, Cond.instanceMethod yX4_begin, Cond.selects RX4 yX4_begin yX4_begin, Cond.code yX4_begin cX4_begin 3 none, Cond.methodLink RX4 78 yX4_layerAt, Cond.instanceMethod yX4_layerAt, Cond.selects RX4 yX4_layerAt yX4_layerAt, Cond.code yX4_layerAt cX4_layerAt 2 (some (.object "PaperLayers$Layer")), Cond.fieldLink RX4 11 "PaperLayers$Wall" "layers" "[LPaperLayers$Layer;", Cond.methodLink RX4 108 yX4_addLike, Cond.instanceMethod yX4_addLike, Cond.selects RX4 yX4_addLike yX4_addLike, Cond.code yX4_addLike cX4_addLike 2 none, Cond.fieldLink RX4 32 "PaperLayers$Layer" "kind" "I", Cond.fieldLink RX4 82 "PaperLayers$Layer" "hold" "I", Cond.fieldLink RX4 43 "PaperLayers$Layer" "advice" "I", Cond.methodLink RX4 101 yX4_addBelow, Cond.instanceMethod yX4_addBelow, Cond.selects RX4 yX4_addBelow yX4_addBelow, Cond.code yX4_addBelow cX4_addBelow 4 none, Cond.methodLink RX4 60 yX0_become, Cond.instanceMethod yX0_become]
def wsX5_without_r3 : List Cond := [Cond.selects RX0 yX0_become yX0_become, Cond.initialized RX0, Cond.code yX0_become cX0_become 4 none, Cond.fieldLink RX0 9 "PaperLayers$Layer" "kind" "I", Cond.fieldLink RX0 15 "PaperLayers$Layer" "hold" "I", Cond.fieldLink RX0 18 "PaperLayers$Layer" "advice" "I", Cond.methodLink RX5 96 yX4_warmth, Cond.instanceMethod yX4_warmth, Cond.selects RX4 yX4_warmth yX4_warmth, Cond.code yX4_warmth cX4_warmth 1 (some .int), Cond.methodLink RX5 118 yX4_counselBy, Cond.instanceMethod yX4_counselBy, Cond.selects RX4 yX4_counselBy yX4_counselBy, Cond.code yX4_counselBy cX4_counselBy 9 (some .int), Cond.methodLink RX4 35 yX4_heardBy, Cond.instanceMethod yX4_heardBy, Cond.selects RX4 yX4_heardBy yX4_heardBy, Cond.code yX4_heardBy cX4_heardBy 3 (some .int), Cond.methodLink RX4 28 yX0_grip, Cond.instanceMethod yX0_grip, Cond.selects RX0 yX0_grip yX0_grip, Cond.code yX0_grip cX0_grip 1 (some .int), Cond.methodLink RX4 39 yX4_votesOf, Cond.instanceMethod yX4_votesOf]
def wsX5_without_r4 : List Cond := [Cond.selects RX4 yX4_votesOf yX4_votesOf, Cond.code yX4_votesOf cX4_votesOf 5 (some .long), Cond.methodLink RX4 46 yX4_votesFor, Cond.static yX4_votesFor, Cond.code yX4_votesFor cX4_votesFor 3 (some .int)]
def wsX5_without : List Cond := .code yX5_without cX5_without 4 (some .int) :: ((wsX5_without_r1 ++ (wsX5_without_r2 ++ (wsX5_without_r3 ++ wsX5_without_r4))) ++ wsX50 ++ wsX40 ++ wsX00)
def wsX5_reading : List Cond := .code yX5_reading cX5_reading 4 (some .int) :: ([.fieldLink RX5 12 "PaperLayers" "now" "LPaperLayers$Wall;", .fieldLink RX5 24 "PaperLayers" "readings" "LPaperLayers$Readings;", .fieldLink RX5 73 "PaperLayers$Readings" "count" "I", .methodLink RX5 50 yX5_isUpTo, .static yX5_isUpTo, .initialized RX5, .code yX5_isUpTo cX5_isUpTo 2 (some .boolean), .methodLink RX5 105 yX4_stands, .instanceMethod yX4_stands, .selects RX4 yX4_stands yX4_stands, .initialized RX4, .code yX4_stands cX4_stands 1 (some .boolean), .fieldLink RX4 18 "PaperLayers$Wall" "count" "I", .methodLink RX5 151 yX2_note, .instanceMethod yX2_note, .selects RX2 yX2_note yX2_note, .initialized RX2, .code yX2_note cX2_note 3 (some .boolean), .fieldLink RX2 18 "PaperLayers$Readings" "count" "I", .fieldLink RX2 9 "PaperLayers$Readings" "warmths" "[I", .fieldLink RX2 15 "PaperLayers$Readings" "counsels" "[I"] ++ wsX50 ++ wsX20 ++ wsX40)
def wsX5_back : List Cond := .code yX5_back cX5_back 2 (some .int) :: ([.fieldLink RX5 24 "PaperLayers" "readings" "LPaperLayers$Readings;", .fieldLink RX5 73 "PaperLayers$Readings" "count" "I", .methodLink RX5 50 yX5_isUpTo, .static yX5_isUpTo, .initialized RX5, .code yX5_isUpTo cX5_isUpTo 2 (some .boolean)] ++ wsX50 ++ wsX20)
def wsX5_fitsInOrder_r1 : List Cond := [Cond.fieldLink RX5 18 "PaperLayers" "trial" "LPaperLayers$Wall;", Cond.fieldLink RX5 12 "PaperLayers" "now" "LPaperLayers$Wall;", Cond.fieldLink RX5 31 "PaperLayers" "order" "LPaperLayers$Order;", Cond.fieldLink RX5 24 "PaperLayers" "readings" "LPaperLayers$Readings;", Cond.methodLink RX5 245 yX4_becomeOrdered, Cond.instanceMethod yX4_becomeOrdered, Cond.selects RX4 yX4_becomeOrdered yX4_becomeOrdered, Cond.initialized RX4, Cond.code yX4_becomeOrdered cX4_becomeOrdered 4 none, Cond.fieldLink RX4 22 "PaperLayers$Wall" "warm" "I", Cond.fieldLink RX4 25 "PaperLayers$Wall" "damp" "I", Cond.fieldLink RX4 18 "PaperLayers$Wall" "count" "I", Cond.methodLink RX4 89 yX4_begin, Cond.instanceMethod yX4_begin, Cond.selects RX4 yX4_begin yX4_begin, Cond.code yX4_begin cX4_begin 3 none, Cond.methodLink RX4 111 yX1_layerIn, Cond.instanceMethod yX1_layerIn, Cond.selects RX1 yX1_layerIn yX1_layerIn, Cond.initialized RX1, Cond.code yX1_layerIn cX1_layerIn 2 (some .int), Cond.fieldLink RX1 24 "PaperLayers$Order" "count" "I", Cond.fieldLink RX1 9 "PaperLayers$Order" "row" "[I", Cond.methodLink RX4 78 yX4_layerAt]
def wsX5_fitsInOrder_r2 : List Cond := [Cond.instanceMethod yX4_layerAt, Cond.selects RX4 yX4_layerAt yX4_layerAt, Cond.code yX4_layerAt cX4_layerAt 2 (some (.object "PaperLayers$Layer")), Cond.fieldLink RX4 11 "PaperLayers$Wall" "layers" "[LPaperLayers$Layer;", Cond.methodLink RX4 108 yX4_addLike, Cond.instanceMethod yX4_addLike, Cond.selects RX4 yX4_addLike yX4_addLike, Cond.code yX4_addLike cX4_addLike 2 none, Cond.fieldLink RX4 32 "PaperLayers$Layer" "kind" "I", Cond.fieldLink RX4 82 "PaperLayers$Layer" "hold" "I", Cond.fieldLink RX4 43 "PaperLayers$Layer" "advice" "I", Cond.methodLink RX4 101 yX4_addBelow, Cond.instanceMethod yX4_addBelow, Cond.selects RX4 yX4_addBelow yX4_addBelow, Cond.code yX4_addBelow cX4_addBelow 4 none, Cond.methodLink RX4 60 yX0_become, Cond.instanceMethod yX0_become, Cond.selects RX0 yX0_become yX0_become, Cond.initialized RX0, Cond.code yX0_become cX0_become 4 none, Cond.fieldLink RX0 9 "PaperLayers$Layer" "kind" "I", Cond.fieldLink RX0 15 "PaperLayers$Layer" "hold" "I", Cond.fieldLink RX0 18 "PaperLayers$Layer" "advice" "I", Cond.methodLink RX5 249 yX2_agreeWith]
def wsX5_fitsInOrder_r3 : List Cond := [Cond.instanceMethod yX2_agreeWith, Cond.selects RX2 yX2_agreeWith yX2_agreeWith, Cond.initialized RX2, Cond.code yX2_agreeWith cX2_agreeWith 3 (some .boolean), Cond.fieldLink RX2 18 "PaperLayers$Readings" "count" "I", Cond.fieldLink RX2 9 "PaperLayers$Readings" "warmths" "[I", Cond.fieldLink RX2 15 "PaperLayers$Readings" "counsels" "[I", Cond.methodLink RX2 22 yX4_counselBy, Cond.instanceMethod yX4_counselBy, Cond.selects RX4 yX4_counselBy yX4_counselBy, Cond.code yX4_counselBy cX4_counselBy 9 (some .int), Cond.methodLink RX4 35 yX4_heardBy, Cond.instanceMethod yX4_heardBy, Cond.selects RX4 yX4_heardBy yX4_heardBy, Cond.code yX4_heardBy cX4_heardBy 3 (some .int), Cond.methodLink RX4 28 yX0_grip, Cond.instanceMethod yX0_grip, Cond.selects RX0 yX0_grip yX0_grip, Cond.code yX0_grip cX0_grip 1 (some .int), Cond.methodLink RX4 39 yX4_votesOf, Cond.instanceMethod yX4_votesOf, Cond.selects RX4 yX4_votesOf yX4_votesOf, Cond.code yX4_votesOf cX4_votesOf 5 (some .long), Cond.methodLink RX4 46 yX4_votesFor]
def wsX5_fitsInOrder_r4 : List Cond := [Cond.static yX4_votesFor, Cond.code yX4_votesFor cX4_votesFor 3 (some .int)]
def wsX5_fitsInOrder : List Cond := .code yX5_fitsInOrder cX5_fitsInOrder 1 (some .boolean) :: ((wsX5_fitsInOrder_r1 ++ (wsX5_fitsInOrder_r2 ++ (wsX5_fitsInOrder_r3 ++ wsX5_fitsInOrder_r4))) ++ wsX50 ++ wsX40 ++ wsX10 ++ wsX00 ++ wsX20)
def wsX5_countOrders_r1 : List Cond := [Cond.fieldLink RX5 31 "PaperLayers" "order" "LPaperLayers$Order;", Cond.fieldLink RX5 12 "PaperLayers" "now" "LPaperLayers$Wall;", Cond.fieldLink RX5 76 "PaperLayers$Wall" "count" "I", Cond.methodLink RX5 253 yX1_begin, Cond.instanceMethod yX1_begin, Cond.selects RX1 yX1_begin yX1_begin, Cond.initialized RX1, Cond.code yX1_begin cX1_begin 3 none, Cond.methodLink RX1 15 Lib.Math.max.name, Cond.static Lib.Math.max.name, Cond.initialized "java/lang/Math", Cond.code Lib.Math.max.name Lib.Math.max.code 2 (some .int), Cond.methodLink RX1 21 Lib.Math.min.name, Cond.static Lib.Math.min.name, Cond.code Lib.Math.min.name Lib.Math.min.code 2 (some .int), Cond.fieldLink RX1 24 "PaperLayers$Order" "count" "I", Cond.fieldLink RX1 9 "PaperLayers$Order" "row" "[I", Cond.methodLink RX5 256 yX5_fitsInOrder, Cond.instanceMethod yX5_fitsInOrder, Cond.selects RX5 yX5_fitsInOrder yX5_fitsInOrder, Cond.initialized RX5, Cond.code yX5_fitsInOrder cX5_fitsInOrder 1 (some .boolean), Cond.fieldLink RX5 18 "PaperLayers" "trial" "LPaperLayers$Wall;", Cond.fieldLink RX5 24 "PaperLayers" "readings" "LPaperLayers$Readings;"]
def wsX5_countOrders_r2 : List Cond := [Cond.methodLink RX5 245 yX4_becomeOrdered, Cond.instanceMethod yX4_becomeOrdered, Cond.selects RX4 yX4_becomeOrdered yX4_becomeOrdered, Cond.initialized RX4, Cond.code yX4_becomeOrdered cX4_becomeOrdered 4 none, Cond.fieldLink RX4 22 "PaperLayers$Wall" "warm" "I", Cond.fieldLink RX4 25 "PaperLayers$Wall" "damp" "I", Cond.fieldLink RX4 18 "PaperLayers$Wall" "count" "I", Cond.methodLink RX4 89 yX4_begin, Cond.instanceMethod yX4_begin, Cond.selects RX4 yX4_begin yX4_begin, Cond.code yX4_begin cX4_begin 3 none, Cond.methodLink RX4 111 yX1_layerIn, Cond.instanceMethod yX1_layerIn, Cond.selects RX1 yX1_layerIn yX1_layerIn, Cond.code yX1_layerIn cX1_layerIn 2 (some .int), Cond.methodLink RX4 78 yX4_layerAt, Cond.instanceMethod yX4_layerAt, Cond.selects RX4 yX4_layerAt yX4_layerAt, Cond.code yX4_layerAt cX4_layerAt 2 (some (.object "PaperLayers$Layer")), Cond.fieldLink RX4 11 "PaperLayers$Wall" "layers" "[LPaperLayers$Layer;", Cond.methodLink RX4 108 yX4_addLike, Cond.instanceMethod yX4_addLike, Cond.selects RX4 yX4_addLike yX4_addLike]
def wsX5_countOrders_r3 : List Cond := [Cond.code yX4_addLike cX4_addLike 2 none, Cond.fieldLink RX4 32 "PaperLayers$Layer" "kind" "I", Cond.fieldLink RX4 82 "PaperLayers$Layer" "hold" "I", Cond.fieldLink RX4 43 "PaperLayers$Layer" "advice" "I", Cond.methodLink RX4 101 yX4_addBelow, Cond.instanceMethod yX4_addBelow, Cond.selects RX4 yX4_addBelow yX4_addBelow, Cond.code yX4_addBelow cX4_addBelow 4 none, Cond.methodLink RX4 60 yX0_become, Cond.instanceMethod yX0_become, Cond.selects RX0 yX0_become yX0_become, Cond.initialized RX0, Cond.code yX0_become cX0_become 4 none, Cond.fieldLink RX0 9 "PaperLayers$Layer" "kind" "I", Cond.fieldLink RX0 15 "PaperLayers$Layer" "hold" "I", Cond.fieldLink RX0 18 "PaperLayers$Layer" "advice" "I", Cond.methodLink RX5 249 yX2_agreeWith, Cond.instanceMethod yX2_agreeWith, Cond.selects RX2 yX2_agreeWith yX2_agreeWith, Cond.initialized RX2, Cond.code yX2_agreeWith cX2_agreeWith 3 (some .boolean), Cond.fieldLink RX2 18 "PaperLayers$Readings" "count" "I", Cond.fieldLink RX2 9 "PaperLayers$Readings" "warmths" "[I", Cond.fieldLink RX2 15 "PaperLayers$Readings" "counsels" "[I"]
def wsX5_countOrders_r4 : List Cond := [Cond.methodLink RX2 22 yX4_counselBy, Cond.instanceMethod yX4_counselBy, Cond.selects RX4 yX4_counselBy yX4_counselBy, Cond.code yX4_counselBy cX4_counselBy 9 (some .int), Cond.methodLink RX4 35 yX4_heardBy, Cond.instanceMethod yX4_heardBy, Cond.selects RX4 yX4_heardBy yX4_heardBy, Cond.code yX4_heardBy cX4_heardBy 3 (some .int), Cond.methodLink RX4 28 yX0_grip, Cond.instanceMethod yX0_grip, Cond.selects RX0 yX0_grip yX0_grip, Cond.code yX0_grip cX0_grip 1 (some .int), Cond.methodLink RX4 39 yX4_votesOf, Cond.instanceMethod yX4_votesOf, Cond.selects RX4 yX4_votesOf yX4_votesOf, Cond.code yX4_votesOf cX4_votesOf 5 (some .long), Cond.methodLink RX4 46 yX4_votesFor, Cond.static yX4_votesFor, Cond.code yX4_votesFor cX4_votesFor 3 (some .int), Cond.methodLink RX5 259 yX1_next, Cond.instanceMethod yX1_next, Cond.selects RX1 yX1_next yX1_next, Cond.code yX1_next cX1_next 2 (some .boolean), Cond.methodLink RX1 28 yX1_placeOfNextGreater]
def wsX5_countOrders_r5 : List Cond := [Cond.instanceMethod yX1_placeOfNextGreater, Cond.selects RX1 yX1_placeOfNextGreater yX1_placeOfNextGreater, Cond.code yX1_placeOfNextGreater cX1_placeOfNextGreater 3 (some .int), Cond.methodLink RX1 32 yX1_swap, Cond.instanceMethod yX1_swap, Cond.selects RX1 yX1_swap yX1_swap, Cond.code yX1_swap cX1_swap 4 none, Cond.methodLink RX1 36 yX1_reverseFrom, Cond.instanceMethod yX1_reverseFrom, Cond.selects RX1 yX1_reverseFrom yX1_reverseFrom, Cond.code yX1_reverseFrom cX1_reverseFrom 4 none]
def wsX5_countOrders : List Cond := .code yX5_countOrders cX5_countOrders 3 (some .int) :: ((wsX5_countOrders_r1 ++ (wsX5_countOrders_r2 ++ (wsX5_countOrders_r3 ++ (wsX5_countOrders_r4 ++ wsX5_countOrders_r5)))) ++ wsX50 ++ wsX40 ++ wsX10 ++ wsX00 ++ wsX20)
def wsX5_findOrder_r1 : List Cond := [Cond.fieldLink RX5 31 "PaperLayers" "order" "LPaperLayers$Order;", Cond.fieldLink RX5 12 "PaperLayers" "now" "LPaperLayers$Wall;", Cond.fieldLink RX5 76 "PaperLayers$Wall" "count" "I", Cond.methodLink RX5 253 yX1_begin, Cond.instanceMethod yX1_begin, Cond.selects RX1 yX1_begin yX1_begin, Cond.initialized RX1, Cond.code yX1_begin cX1_begin 3 none, Cond.methodLink RX1 15 Lib.Math.max.name, Cond.static Lib.Math.max.name, Cond.initialized "java/lang/Math", Cond.code Lib.Math.max.name Lib.Math.max.code 2 (some .int), Cond.methodLink RX1 21 Lib.Math.min.name, Cond.static Lib.Math.min.name, Cond.code Lib.Math.min.name Lib.Math.min.code 2 (some .int), Cond.fieldLink RX1 24 "PaperLayers$Order" "count" "I", Cond.fieldLink RX1 9 "PaperLayers$Order" "row" "[I", Cond.methodLink RX5 256 yX5_fitsInOrder, Cond.instanceMethod yX5_fitsInOrder, Cond.selects RX5 yX5_fitsInOrder yX5_fitsInOrder, Cond.initialized RX5, Cond.code yX5_fitsInOrder cX5_fitsInOrder 1 (some .boolean), Cond.fieldLink RX5 18 "PaperLayers" "trial" "LPaperLayers$Wall;", Cond.fieldLink RX5 24 "PaperLayers" "readings" "LPaperLayers$Readings;"]
def wsX5_findOrder_r2 : List Cond := [Cond.methodLink RX5 245 yX4_becomeOrdered, Cond.instanceMethod yX4_becomeOrdered, Cond.selects RX4 yX4_becomeOrdered yX4_becomeOrdered, Cond.initialized RX4, Cond.code yX4_becomeOrdered cX4_becomeOrdered 4 none, Cond.fieldLink RX4 22 "PaperLayers$Wall" "warm" "I", Cond.fieldLink RX4 25 "PaperLayers$Wall" "damp" "I", Cond.fieldLink RX4 18 "PaperLayers$Wall" "count" "I", Cond.methodLink RX4 89 yX4_begin, Cond.instanceMethod yX4_begin, Cond.selects RX4 yX4_begin yX4_begin, Cond.code yX4_begin cX4_begin 3 none, Cond.methodLink RX4 111 yX1_layerIn, Cond.instanceMethod yX1_layerIn, Cond.selects RX1 yX1_layerIn yX1_layerIn, Cond.code yX1_layerIn cX1_layerIn 2 (some .int), Cond.methodLink RX4 78 yX4_layerAt, Cond.instanceMethod yX4_layerAt, Cond.selects RX4 yX4_layerAt yX4_layerAt, Cond.code yX4_layerAt cX4_layerAt 2 (some (.object "PaperLayers$Layer")), Cond.fieldLink RX4 11 "PaperLayers$Wall" "layers" "[LPaperLayers$Layer;", Cond.methodLink RX4 108 yX4_addLike, Cond.instanceMethod yX4_addLike, Cond.selects RX4 yX4_addLike yX4_addLike]
def wsX5_findOrder_r3 : List Cond := [Cond.code yX4_addLike cX4_addLike 2 none, Cond.fieldLink RX4 32 "PaperLayers$Layer" "kind" "I", Cond.fieldLink RX4 82 "PaperLayers$Layer" "hold" "I", Cond.fieldLink RX4 43 "PaperLayers$Layer" "advice" "I", Cond.methodLink RX4 101 yX4_addBelow, Cond.instanceMethod yX4_addBelow, Cond.selects RX4 yX4_addBelow yX4_addBelow, Cond.code yX4_addBelow cX4_addBelow 4 none, Cond.methodLink RX4 60 yX0_become, Cond.instanceMethod yX0_become, Cond.selects RX0 yX0_become yX0_become, Cond.initialized RX0, Cond.code yX0_become cX0_become 4 none, Cond.fieldLink RX0 9 "PaperLayers$Layer" "kind" "I", Cond.fieldLink RX0 15 "PaperLayers$Layer" "hold" "I", Cond.fieldLink RX0 18 "PaperLayers$Layer" "advice" "I", Cond.methodLink RX5 249 yX2_agreeWith, Cond.instanceMethod yX2_agreeWith, Cond.selects RX2 yX2_agreeWith yX2_agreeWith, Cond.initialized RX2, Cond.code yX2_agreeWith cX2_agreeWith 3 (some .boolean), Cond.fieldLink RX2 18 "PaperLayers$Readings" "count" "I", Cond.fieldLink RX2 9 "PaperLayers$Readings" "warmths" "[I", Cond.fieldLink RX2 15 "PaperLayers$Readings" "counsels" "[I"]
def wsX5_findOrder_r4 : List Cond := [Cond.methodLink RX2 22 yX4_counselBy, Cond.instanceMethod yX4_counselBy, Cond.selects RX4 yX4_counselBy yX4_counselBy, Cond.code yX4_counselBy cX4_counselBy 9 (some .int), Cond.methodLink RX4 35 yX4_heardBy, Cond.instanceMethod yX4_heardBy, Cond.selects RX4 yX4_heardBy yX4_heardBy, Cond.code yX4_heardBy cX4_heardBy 3 (some .int), Cond.methodLink RX4 28 yX0_grip, Cond.instanceMethod yX0_grip, Cond.selects RX0 yX0_grip yX0_grip, Cond.code yX0_grip cX0_grip 1 (some .int), Cond.methodLink RX4 39 yX4_votesOf, Cond.instanceMethod yX4_votesOf, Cond.selects RX4 yX4_votesOf yX4_votesOf, Cond.code yX4_votesOf cX4_votesOf 5 (some .long), Cond.methodLink RX4 46 yX4_votesFor, Cond.static yX4_votesFor, Cond.code yX4_votesFor cX4_votesFor 3 (some .int), Cond.methodLink RX5 259 yX1_next, Cond.instanceMethod yX1_next, Cond.selects RX1 yX1_next yX1_next, Cond.code yX1_next cX1_next 2 (some .boolean), Cond.methodLink RX1 28 yX1_placeOfNextGreater]
def wsX5_findOrder_r5 : List Cond := [Cond.instanceMethod yX1_placeOfNextGreater, Cond.selects RX1 yX1_placeOfNextGreater yX1_placeOfNextGreater, Cond.code yX1_placeOfNextGreater cX1_placeOfNextGreater 3 (some .int), Cond.methodLink RX1 32 yX1_swap, Cond.instanceMethod yX1_swap, Cond.selects RX1 yX1_swap yX1_swap, Cond.code yX1_swap cX1_swap 4 none, Cond.methodLink RX1 36 yX1_reverseFrom, Cond.instanceMethod yX1_reverseFrom, Cond.selects RX1 yX1_reverseFrom yX1_reverseFrom, Cond.code yX1_reverseFrom cX1_reverseFrom 4 none]
def wsX5_findOrder : List Cond := .code yX5_findOrder cX5_findOrder 2 (some .boolean) :: ((wsX5_findOrder_r1 ++ (wsX5_findOrder_r2 ++ (wsX5_findOrder_r3 ++ (wsX5_findOrder_r4 ++ wsX5_findOrder_r5)))) ++ wsX50 ++ wsX40 ++ wsX10 ++ wsX00 ++ wsX20)
def wsX5_orders_r1 : List Cond := [Cond.fieldLink RX5 12 "PaperLayers" "now" "LPaperLayers$Wall;", Cond.fieldLink RX5 76 "PaperLayers$Wall" "count" "I", Cond.fieldLink RX5 31 "PaperLayers" "order" "LPaperLayers$Order;", Cond.methodLink RX5 105 yX4_stands, Cond.instanceMethod yX4_stands, Cond.selects RX4 yX4_stands yX4_stands, Cond.initialized RX4, Cond.code yX4_stands cX4_stands 1 (some .boolean), Cond.fieldLink RX4 18 "PaperLayers$Wall" "count" "I", Cond.methodLink RX5 154 yX5_countOrders, Cond.instanceMethod yX5_countOrders, Cond.selects RX5 yX5_countOrders yX5_countOrders, Cond.initialized RX5, Cond.code yX5_countOrders cX5_countOrders 3 (some .int), Cond.methodLink RX5 253 yX1_begin, Cond.instanceMethod yX1_begin, Cond.selects RX1 yX1_begin yX1_begin, Cond.initialized RX1, Cond.code yX1_begin cX1_begin 3 none, Cond.methodLink RX1 15 Lib.Math.max.name, Cond.static Lib.Math.max.name, Cond.initialized "java/lang/Math", Cond.code Lib.Math.max.name Lib.Math.max.code 2 (some .int), Cond.methodLink RX1 21 Lib.Math.min.name]
def wsX5_orders_r2 : List Cond := [Cond.static Lib.Math.min.name, Cond.code Lib.Math.min.name Lib.Math.min.code 2 (some .int), Cond.fieldLink RX1 24 "PaperLayers$Order" "count" "I", Cond.fieldLink RX1 9 "PaperLayers$Order" "row" "[I", Cond.methodLink RX5 256 yX5_fitsInOrder, Cond.instanceMethod yX5_fitsInOrder, Cond.selects RX5 yX5_fitsInOrder yX5_fitsInOrder, Cond.code yX5_fitsInOrder cX5_fitsInOrder 1 (some .boolean), Cond.fieldLink RX5 18 "PaperLayers" "trial" "LPaperLayers$Wall;", Cond.fieldLink RX5 24 "PaperLayers" "readings" "LPaperLayers$Readings;", Cond.methodLink RX5 245 yX4_becomeOrdered, Cond.instanceMethod yX4_becomeOrdered, Cond.selects RX4 yX4_becomeOrdered yX4_becomeOrdered, Cond.code yX4_becomeOrdered cX4_becomeOrdered 4 none, Cond.fieldLink RX4 22 "PaperLayers$Wall" "warm" "I", Cond.fieldLink RX4 25 "PaperLayers$Wall" "damp" "I", Cond.methodLink RX4 89 yX4_begin, Cond.instanceMethod yX4_begin, Cond.selects RX4 yX4_begin yX4_begin, Cond.code yX4_begin cX4_begin 3 none, Cond.methodLink RX4 111 yX1_layerIn, Cond.instanceMethod yX1_layerIn, Cond.selects RX1 yX1_layerIn yX1_layerIn, Cond.code yX1_layerIn cX1_layerIn 2 (some .int)]
def wsX5_orders_r3 : List Cond := [Cond.methodLink RX4 78 yX4_layerAt, Cond.instanceMethod yX4_layerAt, Cond.selects RX4 yX4_layerAt yX4_layerAt, Cond.code yX4_layerAt cX4_layerAt 2 (some (.object "PaperLayers$Layer")), Cond.fieldLink RX4 11 "PaperLayers$Wall" "layers" "[LPaperLayers$Layer;", Cond.methodLink RX4 108 yX4_addLike, Cond.instanceMethod yX4_addLike, Cond.selects RX4 yX4_addLike yX4_addLike, Cond.code yX4_addLike cX4_addLike 2 none, Cond.fieldLink RX4 32 "PaperLayers$Layer" "kind" "I", Cond.fieldLink RX4 82 "PaperLayers$Layer" "hold" "I", Cond.fieldLink RX4 43 "PaperLayers$Layer" "advice" "I", Cond.methodLink RX4 101 yX4_addBelow, Cond.instanceMethod yX4_addBelow, Cond.selects RX4 yX4_addBelow yX4_addBelow, Cond.code yX4_addBelow cX4_addBelow 4 none, Cond.methodLink RX4 60 yX0_become, Cond.instanceMethod yX0_become, Cond.selects RX0 yX0_become yX0_become, Cond.initialized RX0, Cond.code yX0_become cX0_become 4 none, Cond.fieldLink RX0 9 "PaperLayers$Layer" "kind" "I", Cond.fieldLink RX0 15 "PaperLayers$Layer" "hold" "I", Cond.fieldLink RX0 18 "PaperLayers$Layer" "advice" "I"]
def wsX5_orders_r4 : List Cond := [Cond.methodLink RX5 249 yX2_agreeWith, Cond.instanceMethod yX2_agreeWith, Cond.selects RX2 yX2_agreeWith yX2_agreeWith, Cond.initialized RX2, Cond.code yX2_agreeWith cX2_agreeWith 3 (some .boolean), Cond.fieldLink RX2 18 "PaperLayers$Readings" "count" "I", Cond.fieldLink RX2 9 "PaperLayers$Readings" "warmths" "[I", Cond.fieldLink RX2 15 "PaperLayers$Readings" "counsels" "[I", Cond.methodLink RX2 22 yX4_counselBy, Cond.instanceMethod yX4_counselBy, Cond.selects RX4 yX4_counselBy yX4_counselBy, Cond.code yX4_counselBy cX4_counselBy 9 (some .int), Cond.methodLink RX4 35 yX4_heardBy, Cond.instanceMethod yX4_heardBy, Cond.selects RX4 yX4_heardBy yX4_heardBy, Cond.code yX4_heardBy cX4_heardBy 3 (some .int), Cond.methodLink RX4 28 yX0_grip, Cond.instanceMethod yX0_grip, Cond.selects RX0 yX0_grip yX0_grip, Cond.code yX0_grip cX0_grip 1 (some .int), Cond.methodLink RX4 39 yX4_votesOf, Cond.instanceMethod yX4_votesOf, Cond.selects RX4 yX4_votesOf yX4_votesOf, Cond.code yX4_votesOf cX4_votesOf 5 (some .long)]
def wsX5_orders_r5 : List Cond := [Cond.methodLink RX4 46 yX4_votesFor, Cond.static yX4_votesFor, Cond.code yX4_votesFor cX4_votesFor 3 (some .int), Cond.methodLink RX5 259 yX1_next, Cond.instanceMethod yX1_next, Cond.selects RX1 yX1_next yX1_next, Cond.code yX1_next cX1_next 2 (some .boolean), Cond.methodLink RX1 28 yX1_placeOfNextGreater, Cond.instanceMethod yX1_placeOfNextGreater, Cond.selects RX1 yX1_placeOfNextGreater yX1_placeOfNextGreater, Cond.code yX1_placeOfNextGreater cX1_placeOfNextGreater 3 (some .int), Cond.methodLink RX1 32 yX1_swap, Cond.instanceMethod yX1_swap, Cond.selects RX1 yX1_swap yX1_swap, Cond.code yX1_swap cX1_swap 4 none, Cond.methodLink RX1 36 yX1_reverseFrom, Cond.instanceMethod yX1_reverseFrom, Cond.selects RX1 yX1_reverseFrom yX1_reverseFrom, Cond.code yX1_reverseFrom cX1_reverseFrom 4 none, Cond.methodLink RX5 157 yX5_findOrder, Cond.instanceMethod yX5_findOrder, Cond.selects RX5 yX5_findOrder yX5_findOrder, Cond.code yX5_findOrder cX5_findOrder 2 (some .boolean), Cond.methodLink RX5 160 yX1_layerIn]
def wsX5_orders : List Cond := .code yX5_orders cX5_orders 2 (some .int) :: ((wsX5_orders_r1 ++ (wsX5_orders_r2 ++ (wsX5_orders_r3 ++ (wsX5_orders_r4 ++ wsX5_orders_r5)))) ++ wsX50 ++ wsX40 ++ wsX10 ++ wsX00 ++ wsX20)
def wsX5_fitting_r1 : List Cond := [Cond.fieldLink RX5 18 "PaperLayers" "trial" "LPaperLayers$Wall;", Cond.fieldLink RX5 12 "PaperLayers" "now" "LPaperLayers$Wall;", Cond.fieldLink RX5 24 "PaperLayers" "readings" "LPaperLayers$Readings;", Cond.methodLink RX5 238 yX4_become, Cond.instanceMethod yX4_become, Cond.selects RX4 yX4_become yX4_become, Cond.initialized RX4, Cond.code yX4_become cX4_become 2 none, Cond.methodLink RX4 104 yX4_becomeLess, Cond.instanceMethod yX4_becomeLess, Cond.selects RX4 yX4_becomeLess yX4_becomeLess, Cond.code yX4_becomeLess cX4_becomeLess 4 none, Cond.fieldLink RX4 22 "PaperLayers$Wall" "warm" "I", Cond.fieldLink RX4 25 "PaperLayers$Wall" "damp" "I", Cond.fieldLink RX4 18 "PaperLayers$Wall" "count" "I", Cond.methodLink RX4 89 yX4_begin, Cond.instanceMethod yX4_begin, Cond.selects RX4 yX4_begin yX4_begin, Cond.code yX4_begin cX4_begin 3 none, Cond.methodLink RX4 78 yX4_layerAt, Cond.instanceMethod yX4_layerAt, Cond.selects RX4 yX4_layerAt yX4_layerAt, Cond.code yX4_layerAt cX4_layerAt 2 (some (.object "PaperLayers$Layer")), Cond.fieldLink RX4 11 "PaperLayers$Wall" "layers" "[LPaperLayers$Layer;"]
def wsX5_fitting_r2 : List Cond := [Cond.methodLink RX4 108 yX4_addLike, Cond.instanceMethod yX4_addLike, Cond.selects RX4 yX4_addLike yX4_addLike, Cond.code yX4_addLike cX4_addLike 2 none, Cond.fieldLink RX4 32 "PaperLayers$Layer" "kind" "I", Cond.fieldLink RX4 82 "PaperLayers$Layer" "hold" "I", Cond.fieldLink RX4 43 "PaperLayers$Layer" "advice" "I", Cond.methodLink RX4 101 yX4_addBelow, Cond.instanceMethod yX4_addBelow, Cond.selects RX4 yX4_addBelow yX4_addBelow, Cond.code yX4_addBelow cX4_addBelow 4 none, Cond.methodLink RX4 60 yX0_become, Cond.instanceMethod yX0_become, Cond.selects RX0 yX0_become yX0_become, Cond.initialized RX0, Cond.code yX0_become cX0_become 4 none, Cond.fieldLink RX0 9 "PaperLayers$Layer" "kind" "I", Cond.fieldLink RX0 15 "PaperLayers$Layer" "hold" "I", Cond.fieldLink RX0 18 "PaperLayers$Layer" "advice" "I", Cond.methodLink RX5 262 yX4_change, Cond.instanceMethod yX4_change, Cond.selects RX4 yX4_change yX4_change, Cond.code yX4_change cX4_change 5 none, Cond.methodLink RX5 249 yX2_agreeWith]
def wsX5_fitting_r3 : List Cond := [Cond.instanceMethod yX2_agreeWith, Cond.selects RX2 yX2_agreeWith yX2_agreeWith, Cond.initialized RX2, Cond.code yX2_agreeWith cX2_agreeWith 3 (some .boolean), Cond.fieldLink RX2 18 "PaperLayers$Readings" "count" "I", Cond.fieldLink RX2 9 "PaperLayers$Readings" "warmths" "[I", Cond.fieldLink RX2 15 "PaperLayers$Readings" "counsels" "[I", Cond.methodLink RX2 22 yX4_counselBy, Cond.instanceMethod yX4_counselBy, Cond.selects RX4 yX4_counselBy yX4_counselBy, Cond.code yX4_counselBy cX4_counselBy 9 (some .int), Cond.methodLink RX4 35 yX4_heardBy, Cond.instanceMethod yX4_heardBy, Cond.selects RX4 yX4_heardBy yX4_heardBy, Cond.code yX4_heardBy cX4_heardBy 3 (some .int), Cond.methodLink RX4 28 yX0_grip, Cond.instanceMethod yX0_grip, Cond.selects RX0 yX0_grip yX0_grip, Cond.code yX0_grip cX0_grip 1 (some .int), Cond.methodLink RX4 39 yX4_votesOf, Cond.instanceMethod yX4_votesOf, Cond.selects RX4 yX4_votesOf yX4_votesOf, Cond.code yX4_votesOf cX4_votesOf 5 (some .long), Cond.methodLink RX4 46 yX4_votesFor]
def wsX5_fitting_r4 : List Cond := [Cond.static yX4_votesFor, Cond.code yX4_votesFor cX4_votesFor 3 (some .int)]
def wsX5_fitting : List Cond := .code yX5_fitting cX5_fitting 6 (some .int) :: ((wsX5_fitting_r1 ++ (wsX5_fitting_r2 ++ (wsX5_fitting_r3 ++ wsX5_fitting_r4))) ++ wsX50 ++ wsX40 ++ wsX00 ++ wsX20)
def wsX5_holds_r1 : List Cond := [Cond.fieldLink RX5 12 "PaperLayers" "now" "LPaperLayers$Wall;", Cond.methodLink RX5 77 yX4_layerAt, Cond.instanceMethod yX4_layerAt, Cond.selects RX4 yX4_layerAt yX4_layerAt, Cond.initialized RX4, Cond.code yX4_layerAt cX4_layerAt 2 (some (.object "PaperLayers$Layer")), Cond.fieldLink RX4 18 "PaperLayers$Wall" "count" "I", Cond.fieldLink RX4 11 "PaperLayers$Wall" "layers" "[LPaperLayers$Layer;", Cond.methodLink RX5 163 yX5_fitting, Cond.instanceMethod yX5_fitting, Cond.selects RX5 yX5_fitting yX5_fitting, Cond.initialized RX5, Cond.code yX5_fitting cX5_fitting 6 (some .int), Cond.fieldLink RX5 18 "PaperLayers" "trial" "LPaperLayers$Wall;", Cond.fieldLink RX5 24 "PaperLayers" "readings" "LPaperLayers$Readings;", Cond.methodLink RX5 238 yX4_become, Cond.instanceMethod yX4_become, Cond.selects RX4 yX4_become yX4_become, Cond.code yX4_become cX4_become 2 none, Cond.methodLink RX4 104 yX4_becomeLess, Cond.instanceMethod yX4_becomeLess, Cond.selects RX4 yX4_becomeLess yX4_becomeLess, Cond.code yX4_becomeLess cX4_becomeLess 4 none, Cond.fieldLink RX4 22 "PaperLayers$Wall" "warm" "I"]
def wsX5_holds_r2 : List Cond := [Cond.fieldLink RX4 25 "PaperLayers$Wall" "damp" "I", Cond.methodLink RX4 89 yX4_begin, Cond.instanceMethod yX4_begin, Cond.selects RX4 yX4_begin yX4_begin, Cond.code yX4_begin cX4_begin 3 none, Cond.methodLink RX4 78 yX4_layerAt, Cond.methodLink RX4 108 yX4_addLike, Cond.instanceMethod yX4_addLike, Cond.selects RX4 yX4_addLike yX4_addLike, Cond.code yX4_addLike cX4_addLike 2 none, Cond.fieldLink RX4 32 "PaperLayers$Layer" "kind" "I", Cond.fieldLink RX4 82 "PaperLayers$Layer" "hold" "I", Cond.fieldLink RX4 43 "PaperLayers$Layer" "advice" "I", Cond.methodLink RX4 101 yX4_addBelow, Cond.instanceMethod yX4_addBelow, Cond.selects RX4 yX4_addBelow yX4_addBelow, Cond.code yX4_addBelow cX4_addBelow 4 none, Cond.methodLink RX4 60 yX0_become, Cond.instanceMethod yX0_become, Cond.selects RX0 yX0_become yX0_become, Cond.initialized RX0, Cond.code yX0_become cX0_become 4 none, Cond.fieldLink RX0 9 "PaperLayers$Layer" "kind" "I", Cond.fieldLink RX0 15 "PaperLayers$Layer" "hold" "I"]
def wsX5_holds_r3 : List Cond := [Cond.fieldLink RX0 18 "PaperLayers$Layer" "advice" "I", Cond.methodLink RX5 262 yX4_change, Cond.instanceMethod yX4_change, Cond.selects RX4 yX4_change yX4_change, Cond.code yX4_change cX4_change 5 none, Cond.methodLink RX5 249 yX2_agreeWith, Cond.instanceMethod yX2_agreeWith, Cond.selects RX2 yX2_agreeWith yX2_agreeWith, Cond.initialized RX2, Cond.code yX2_agreeWith cX2_agreeWith 3 (some .boolean), Cond.fieldLink RX2 18 "PaperLayers$Readings" "count" "I", Cond.fieldLink RX2 9 "PaperLayers$Readings" "warmths" "[I", Cond.fieldLink RX2 15 "PaperLayers$Readings" "counsels" "[I", Cond.methodLink RX2 22 yX4_counselBy, Cond.instanceMethod yX4_counselBy, Cond.selects RX4 yX4_counselBy yX4_counselBy, Cond.code yX4_counselBy cX4_counselBy 9 (some .int), Cond.methodLink RX4 35 yX4_heardBy, Cond.instanceMethod yX4_heardBy, Cond.selects RX4 yX4_heardBy yX4_heardBy, Cond.code yX4_heardBy cX4_heardBy 3 (some .int), Cond.methodLink RX4 28 yX0_grip, Cond.instanceMethod yX0_grip, Cond.selects RX0 yX0_grip yX0_grip]
def wsX5_holds_r4 : List Cond := [Cond.code yX0_grip cX0_grip 1 (some .int), Cond.methodLink RX4 39 yX4_votesOf, Cond.instanceMethod yX4_votesOf, Cond.selects RX4 yX4_votesOf yX4_votesOf, Cond.code yX4_votesOf cX4_votesOf 5 (some .long), Cond.methodLink RX4 46 yX4_votesFor, Cond.static yX4_votesFor, Cond.code yX4_votesFor cX4_votesFor 3 (some .int)]
def wsX5_holds : List Cond := .code yX5_holds cX5_holds 2 (some .int) :: ((wsX5_holds_r1 ++ (wsX5_holds_r2 ++ (wsX5_holds_r3 ++ wsX5_holds_r4))) ++ wsX50 ++ wsX40 ++ wsX00 ++ wsX20)
def wsX5_advices_r1 : List Cond := [Cond.fieldLink RX5 12 "PaperLayers" "now" "LPaperLayers$Wall;", Cond.methodLink RX5 77 yX4_layerAt, Cond.instanceMethod yX4_layerAt, Cond.selects RX4 yX4_layerAt yX4_layerAt, Cond.initialized RX4, Cond.code yX4_layerAt cX4_layerAt 2 (some (.object "PaperLayers$Layer")), Cond.fieldLink RX4 18 "PaperLayers$Wall" "count" "I", Cond.fieldLink RX4 11 "PaperLayers$Wall" "layers" "[LPaperLayers$Layer;", Cond.methodLink RX5 163 yX5_fitting, Cond.instanceMethod yX5_fitting, Cond.selects RX5 yX5_fitting yX5_fitting, Cond.initialized RX5, Cond.code yX5_fitting cX5_fitting 6 (some .int), Cond.fieldLink RX5 18 "PaperLayers" "trial" "LPaperLayers$Wall;", Cond.fieldLink RX5 24 "PaperLayers" "readings" "LPaperLayers$Readings;", Cond.methodLink RX5 238 yX4_become, Cond.instanceMethod yX4_become, Cond.selects RX4 yX4_become yX4_become, Cond.code yX4_become cX4_become 2 none, Cond.methodLink RX4 104 yX4_becomeLess, Cond.instanceMethod yX4_becomeLess, Cond.selects RX4 yX4_becomeLess yX4_becomeLess, Cond.code yX4_becomeLess cX4_becomeLess 4 none, Cond.fieldLink RX4 22 "PaperLayers$Wall" "warm" "I"]
def wsX5_advices_r2 : List Cond := [Cond.fieldLink RX4 25 "PaperLayers$Wall" "damp" "I", Cond.methodLink RX4 89 yX4_begin, Cond.instanceMethod yX4_begin, Cond.selects RX4 yX4_begin yX4_begin, Cond.code yX4_begin cX4_begin 3 none, Cond.methodLink RX4 78 yX4_layerAt, Cond.methodLink RX4 108 yX4_addLike, Cond.instanceMethod yX4_addLike, Cond.selects RX4 yX4_addLike yX4_addLike, Cond.code yX4_addLike cX4_addLike 2 none, Cond.fieldLink RX4 32 "PaperLayers$Layer" "kind" "I", Cond.fieldLink RX4 82 "PaperLayers$Layer" "hold" "I", Cond.fieldLink RX4 43 "PaperLayers$Layer" "advice" "I", Cond.methodLink RX4 101 yX4_addBelow, Cond.instanceMethod yX4_addBelow, Cond.selects RX4 yX4_addBelow yX4_addBelow, Cond.code yX4_addBelow cX4_addBelow 4 none, Cond.methodLink RX4 60 yX0_become, Cond.instanceMethod yX0_become, Cond.selects RX0 yX0_become yX0_become, Cond.initialized RX0, Cond.code yX0_become cX0_become 4 none, Cond.fieldLink RX0 9 "PaperLayers$Layer" "kind" "I", Cond.fieldLink RX0 15 "PaperLayers$Layer" "hold" "I"]
def wsX5_advices_r3 : List Cond := [Cond.fieldLink RX0 18 "PaperLayers$Layer" "advice" "I", Cond.methodLink RX5 262 yX4_change, Cond.instanceMethod yX4_change, Cond.selects RX4 yX4_change yX4_change, Cond.code yX4_change cX4_change 5 none, Cond.methodLink RX5 249 yX2_agreeWith, Cond.instanceMethod yX2_agreeWith, Cond.selects RX2 yX2_agreeWith yX2_agreeWith, Cond.initialized RX2, Cond.code yX2_agreeWith cX2_agreeWith 3 (some .boolean), Cond.fieldLink RX2 18 "PaperLayers$Readings" "count" "I", Cond.fieldLink RX2 9 "PaperLayers$Readings" "warmths" "[I", Cond.fieldLink RX2 15 "PaperLayers$Readings" "counsels" "[I", Cond.methodLink RX2 22 yX4_counselBy, Cond.instanceMethod yX4_counselBy, Cond.selects RX4 yX4_counselBy yX4_counselBy, Cond.code yX4_counselBy cX4_counselBy 9 (some .int), Cond.methodLink RX4 35 yX4_heardBy, Cond.instanceMethod yX4_heardBy, Cond.selects RX4 yX4_heardBy yX4_heardBy, Cond.code yX4_heardBy cX4_heardBy 3 (some .int), Cond.methodLink RX4 28 yX0_grip, Cond.instanceMethod yX0_grip, Cond.selects RX0 yX0_grip yX0_grip]
def wsX5_advices_r4 : List Cond := [Cond.code yX0_grip cX0_grip 1 (some .int), Cond.methodLink RX4 39 yX4_votesOf, Cond.instanceMethod yX4_votesOf, Cond.selects RX4 yX4_votesOf yX4_votesOf, Cond.code yX4_votesOf cX4_votesOf 5 (some .long), Cond.methodLink RX4 46 yX4_votesFor, Cond.static yX4_votesFor, Cond.code yX4_votesFor cX4_votesFor 3 (some .int)]
def wsX5_advices : List Cond := .code yX5_advices cX5_advices 2 (some .int) :: ((wsX5_advices_r1 ++ (wsX5_advices_r2 ++ (wsX5_advices_r3 ++ wsX5_advices_r4))) ++ wsX50 ++ wsX40 ++ wsX00 ++ wsX20)
def wsX5_kinds_r1 : List Cond := [Cond.fieldLink RX5 12 "PaperLayers" "now" "LPaperLayers$Wall;", Cond.methodLink RX5 77 yX4_layerAt, Cond.instanceMethod yX4_layerAt, Cond.selects RX4 yX4_layerAt yX4_layerAt, Cond.initialized RX4, Cond.code yX4_layerAt cX4_layerAt 2 (some (.object "PaperLayers$Layer")), Cond.fieldLink RX4 18 "PaperLayers$Wall" "count" "I", Cond.fieldLink RX4 11 "PaperLayers$Wall" "layers" "[LPaperLayers$Layer;", Cond.methodLink RX5 163 yX5_fitting, Cond.instanceMethod yX5_fitting, Cond.selects RX5 yX5_fitting yX5_fitting, Cond.initialized RX5, Cond.code yX5_fitting cX5_fitting 6 (some .int), Cond.fieldLink RX5 18 "PaperLayers" "trial" "LPaperLayers$Wall;", Cond.fieldLink RX5 24 "PaperLayers" "readings" "LPaperLayers$Readings;", Cond.methodLink RX5 238 yX4_become, Cond.instanceMethod yX4_become, Cond.selects RX4 yX4_become yX4_become, Cond.code yX4_become cX4_become 2 none, Cond.methodLink RX4 104 yX4_becomeLess, Cond.instanceMethod yX4_becomeLess, Cond.selects RX4 yX4_becomeLess yX4_becomeLess, Cond.code yX4_becomeLess cX4_becomeLess 4 none, Cond.fieldLink RX4 22 "PaperLayers$Wall" "warm" "I"]
def wsX5_kinds_r2 : List Cond := [Cond.fieldLink RX4 25 "PaperLayers$Wall" "damp" "I", Cond.methodLink RX4 89 yX4_begin, Cond.instanceMethod yX4_begin, Cond.selects RX4 yX4_begin yX4_begin, Cond.code yX4_begin cX4_begin 3 none, Cond.methodLink RX4 78 yX4_layerAt, Cond.methodLink RX4 108 yX4_addLike, Cond.instanceMethod yX4_addLike, Cond.selects RX4 yX4_addLike yX4_addLike, Cond.code yX4_addLike cX4_addLike 2 none, Cond.fieldLink RX4 32 "PaperLayers$Layer" "kind" "I", Cond.fieldLink RX4 82 "PaperLayers$Layer" "hold" "I", Cond.fieldLink RX4 43 "PaperLayers$Layer" "advice" "I", Cond.methodLink RX4 101 yX4_addBelow, Cond.instanceMethod yX4_addBelow, Cond.selects RX4 yX4_addBelow yX4_addBelow, Cond.code yX4_addBelow cX4_addBelow 4 none, Cond.methodLink RX4 60 yX0_become, Cond.instanceMethod yX0_become, Cond.selects RX0 yX0_become yX0_become, Cond.initialized RX0, Cond.code yX0_become cX0_become 4 none, Cond.fieldLink RX0 9 "PaperLayers$Layer" "kind" "I", Cond.fieldLink RX0 15 "PaperLayers$Layer" "hold" "I"]
def wsX5_kinds_r3 : List Cond := [Cond.fieldLink RX0 18 "PaperLayers$Layer" "advice" "I", Cond.methodLink RX5 262 yX4_change, Cond.instanceMethod yX4_change, Cond.selects RX4 yX4_change yX4_change, Cond.code yX4_change cX4_change 5 none, Cond.methodLink RX5 249 yX2_agreeWith, Cond.instanceMethod yX2_agreeWith, Cond.selects RX2 yX2_agreeWith yX2_agreeWith, Cond.initialized RX2, Cond.code yX2_agreeWith cX2_agreeWith 3 (some .boolean), Cond.fieldLink RX2 18 "PaperLayers$Readings" "count" "I", Cond.fieldLink RX2 9 "PaperLayers$Readings" "warmths" "[I", Cond.fieldLink RX2 15 "PaperLayers$Readings" "counsels" "[I", Cond.methodLink RX2 22 yX4_counselBy, Cond.instanceMethod yX4_counselBy, Cond.selects RX4 yX4_counselBy yX4_counselBy, Cond.code yX4_counselBy cX4_counselBy 9 (some .int), Cond.methodLink RX4 35 yX4_heardBy, Cond.instanceMethod yX4_heardBy, Cond.selects RX4 yX4_heardBy yX4_heardBy, Cond.code yX4_heardBy cX4_heardBy 3 (some .int), Cond.methodLink RX4 28 yX0_grip, Cond.instanceMethod yX0_grip, Cond.selects RX0 yX0_grip yX0_grip]
def wsX5_kinds_r4 : List Cond := [Cond.code yX0_grip cX0_grip 1 (some .int), Cond.methodLink RX4 39 yX4_votesOf, Cond.instanceMethod yX4_votesOf, Cond.selects RX4 yX4_votesOf yX4_votesOf, Cond.code yX4_votesOf cX4_votesOf 5 (some .long), Cond.methodLink RX4 46 yX4_votesFor, Cond.static yX4_votesFor, Cond.code yX4_votesFor cX4_votesFor 3 (some .int)]
def wsX5_kinds : List Cond := .code yX5_kinds cX5_kinds 2 (some .int) :: ((wsX5_kinds_r1 ++ (wsX5_kinds_r2 ++ (wsX5_kinds_r3 ++ wsX5_kinds_r4))) ++ wsX50 ++ wsX40 ++ wsX00 ++ wsX20)
def wsX5_greatestShared : List Cond := .code yX5_greatestShared cX5_greatestShared 3 (some .int) :: ([])
def wsX5_odds_r1 : List Cond := [Cond.fieldLink RX5 12 "PaperLayers" "now" "LPaperLayers$Wall;", Cond.constantLong RX5 167 (-9223372036854775808), Cond.fieldLink RX5 112 "PaperLayers$Wall" "damp" "I", Cond.methodLink RX5 77 yX4_layerAt, Cond.instanceMethod yX4_layerAt, Cond.selects RX4 yX4_layerAt yX4_layerAt, Cond.initialized RX4, Cond.code yX4_layerAt cX4_layerAt 2 (some (.object "PaperLayers$Layer")), Cond.fieldLink RX4 18 "PaperLayers$Wall" "count" "I", Cond.fieldLink RX4 11 "PaperLayers$Wall" "layers" "[LPaperLayers$Layer;", Cond.methodLink RX5 50 yX5_isUpTo, Cond.static yX5_isUpTo, Cond.initialized RX5, Cond.code yX5_isUpTo cX5_isUpTo 2 (some .boolean), Cond.methodLink RX5 102 yX4_heardBy, Cond.instanceMethod yX4_heardBy, Cond.selects RX4 yX4_heardBy yX4_heardBy, Cond.code yX4_heardBy cX4_heardBy 3 (some .int), Cond.fieldLink RX4 32 "PaperLayers$Layer" "kind" "I", Cond.methodLink RX4 28 yX0_grip, Cond.instanceMethod yX0_grip, Cond.selects RX0 yX0_grip yX0_grip, Cond.initialized RX0, Cond.code yX0_grip cX0_grip 1 (some .int)]
def wsX5_odds_r2 : List Cond := [Cond.fieldLink RX0 9 "PaperLayers$Layer" "kind" "I", Cond.fieldLink RX0 15 "PaperLayers$Layer" "hold" "I", Cond.methodLink RX5 169 yX5_greatestShared, Cond.static yX5_greatestShared, Cond.code yX5_greatestShared cX5_greatestShared 3 (some .int)]
def wsX5_odds : List Cond := .code yX5_odds cX5_odds 6 (some .long) :: ((wsX5_odds_r1 ++ wsX5_odds_r2) ++ wsX50 ++ wsX40 ++ wsX00)
def wsX5_sheet_r1 : List Cond := [Cond.fieldLink RX5 42 "PaperLayers" "latestFault" "I", Cond.methodLink RX5 46 yX5_sheetAt, Cond.instanceMethod yX5_sheetAt, Cond.selects RX5 yX5_sheetAt yX5_sheetAt, Cond.initialized RX5, Cond.code yX5_sheetAt cX5_sheetAt 2 (some (.object "PaperLayers$Sheet")), Cond.fieldLink RX5 37 "PaperLayers" "sheets" "[LPaperLayers$Sheet;", Cond.methodLink RX5 50 yX5_isUpTo, Cond.static yX5_isUpTo, Cond.code yX5_isUpTo cX5_isUpTo 2 (some .boolean), Cond.methodLink RX5 62 yX5_failed, Cond.instanceMethod yX5_failed, Cond.selects RX5 yX5_failed yX5_failed, Cond.code yX5_failed cX5_failed 2 (some .int), Cond.methodLink RX5 172 yX3_begin, Cond.instanceMethod yX3_begin, Cond.selects RX3 yX3_begin yX3_begin, Cond.initialized RX3, Cond.code yX3_begin cX3_begin 4 none, Cond.fieldLink RX3 15 "PaperLayers$Sheet" "hasRow" "Z", Cond.fieldLink RX3 19 "PaperLayers$Sheet" "lane" "I", Cond.methodLink RX3 23 Lib.Math.max.name, Cond.static Lib.Math.max.name, Cond.initialized "java/lang/Math"]
def wsX5_sheet_r2 : List Cond := [Cond.code Lib.Math.max.name Lib.Math.max.code 2 (some .int), Cond.methodLink RX3 29 Lib.Math.min.name, Cond.static Lib.Math.min.name, Cond.code Lib.Math.min.name Lib.Math.min.code 2 (some .int), Cond.fieldLink RX3 32 "PaperLayers$Sheet" "length" "I", Cond.fieldLink RX3 9 "PaperLayers$Sheet" "cells" "[I"]
def wsX5_sheet : List Cond := .code yX5_sheet cX5_sheet 5 (some .int) :: ((wsX5_sheet_r1 ++ wsX5_sheet_r2) ++ wsX50 ++ wsX30)
def wsX5_lose : List Cond := .code yX5_lose cX5_lose 4 (some .int) :: ([.fieldLink RX5 176 "PaperLayers$Sheet" "hasRow" "Z", .methodLink RX5 46 yX5_sheetAt, .instanceMethod yX5_sheetAt, .selects RX5 yX5_sheetAt yX5_sheetAt, .initialized RX5, .code yX5_sheetAt cX5_sheetAt 2 (some (.object "PaperLayers$Sheet")), .fieldLink RX5 37 "PaperLayers" "sheets" "[LPaperLayers$Sheet;", .methodLink RX5 50 yX5_isUpTo, .static yX5_isUpTo, .code yX5_isUpTo cX5_isUpTo 2 (some .boolean)] ++ wsX30 ++ wsX50)
def wsX5_put_r1 : List Cond := [Cond.fieldLink RX5 42 "PaperLayers" "latestFault" "I", Cond.methodLink RX5 46 yX5_sheetAt, Cond.instanceMethod yX5_sheetAt, Cond.selects RX5 yX5_sheetAt yX5_sheetAt, Cond.initialized RX5, Cond.code yX5_sheetAt cX5_sheetAt 2 (some (.object "PaperLayers$Sheet")), Cond.fieldLink RX5 37 "PaperLayers" "sheets" "[LPaperLayers$Sheet;", Cond.methodLink RX5 50 yX5_isUpTo, Cond.static yX5_isUpTo, Cond.code yX5_isUpTo cX5_isUpTo 2 (some .boolean), Cond.methodLink RX5 180 yX3_faultOfCell, Cond.instanceMethod yX3_faultOfCell, Cond.selects RX3 yX3_faultOfCell yX3_faultOfCell, Cond.initialized RX3, Cond.code yX3_faultOfCell cX3_faultOfCell 2 (some .int), Cond.fieldLink RX3 15 "PaperLayers$Sheet" "hasRow" "Z", Cond.fieldLink RX3 32 "PaperLayers$Sheet" "length" "I", Cond.methodLink RX5 62 yX5_failed, Cond.instanceMethod yX5_failed, Cond.selects RX5 yX5_failed yX5_failed, Cond.code yX5_failed cX5_failed 2 (some .int), Cond.methodLink RX5 183 yX3_setCell, Cond.instanceMethod yX3_setCell, Cond.selects RX3 yX3_setCell yX3_setCell]
def wsX5_put_r2 : List Cond := [Cond.code yX3_setCell cX3_setCell 3 none, Cond.fieldLink RX3 9 "PaperLayers$Sheet" "cells" "[I", Cond.methodLink RX3 38 yX3_cut, Cond.instanceMethod yX3_cut, Cond.selects RX3 yX3_cut yX3_cut, Cond.code yX3_cut cX3_cut 2 (some .int), Cond.fieldLink RX3 19 "PaperLayers$Sheet" "lane" "I"]
def wsX5_put : List Cond := .code yX5_put cX5_put 6 (some .int) :: ((wsX5_put_r1 ++ wsX5_put_r2) ++ wsX50 ++ wsX30)
def wsX5_cell_r1 : List Cond := [Cond.fieldLink RX5 42 "PaperLayers" "latestFault" "I", Cond.constantLong RX5 167 (-9223372036854775808), Cond.methodLink RX5 46 yX5_sheetAt, Cond.instanceMethod yX5_sheetAt, Cond.selects RX5 yX5_sheetAt yX5_sheetAt, Cond.initialized RX5, Cond.code yX5_sheetAt cX5_sheetAt 2 (some (.object "PaperLayers$Sheet")), Cond.fieldLink RX5 37 "PaperLayers" "sheets" "[LPaperLayers$Sheet;", Cond.methodLink RX5 50 yX5_isUpTo, Cond.static yX5_isUpTo, Cond.code yX5_isUpTo cX5_isUpTo 2 (some .boolean), Cond.methodLink RX5 54 yX3_faultAsLane, Cond.instanceMethod yX3_faultAsLane, Cond.selects RX3 yX3_faultAsLane yX3_faultAsLane, Cond.initialized RX3, Cond.code yX3_faultAsLane cX3_faultAsLane 2 (some .int), Cond.fieldLink RX3 15 "PaperLayers$Sheet" "hasRow" "Z", Cond.fieldLink RX3 19 "PaperLayers$Sheet" "lane" "I", Cond.methodLink RX5 180 yX3_faultOfCell, Cond.instanceMethod yX3_faultOfCell, Cond.selects RX3 yX3_faultOfCell yX3_faultOfCell, Cond.code yX3_faultOfCell cX3_faultOfCell 2 (some .int), Cond.fieldLink RX3 32 "PaperLayers$Sheet" "length" "I", Cond.methodLink RX5 186 yX3_getCell]
def wsX5_cell_r2 : List Cond := [Cond.instanceMethod yX3_getCell, Cond.selects RX3 yX3_getCell yX3_getCell, Cond.code yX3_getCell cX3_getCell 2 (some .int), Cond.fieldLink RX3 9 "PaperLayers$Sheet" "cells" "[I"]
def wsX5_cell : List Cond := .code yX5_cell cX5_cell 6 (some .long) :: ((wsX5_cell_r1 ++ wsX5_cell_r2) ++ wsX50 ++ wsX30)
def wsX5_copy_r1 : List Cond := [Cond.fieldLink RX5 42 "PaperLayers" "latestFault" "I", Cond.fieldLink RX5 193 "PaperLayers$Sheet" "cells" "[I", Cond.methodLink RX5 197 arraycopyName, Cond.native arraycopyName, Cond.static arraycopyName, Cond.initialized "java/lang/System", Cond.methodLink RX5 46 yX5_sheetAt, Cond.instanceMethod yX5_sheetAt, Cond.selects RX5 yX5_sheetAt yX5_sheetAt, Cond.initialized RX5, Cond.code yX5_sheetAt cX5_sheetAt 2 (some (.object "PaperLayers$Sheet")), Cond.fieldLink RX5 37 "PaperLayers" "sheets" "[LPaperLayers$Sheet;", Cond.methodLink RX5 50 yX5_isUpTo, Cond.static yX5_isUpTo, Cond.code yX5_isUpTo cX5_isUpTo 2 (some .boolean), Cond.methodLink RX5 189 yX3_faultOfCopy, Cond.instanceMethod yX3_faultOfCopy, Cond.selects RX3 yX3_faultOfCopy yX3_faultOfCopy, Cond.initialized RX3, Cond.code yX3_faultOfCopy cX3_faultOfCopy 6 (some .int), Cond.fieldLink RX3 15 "PaperLayers$Sheet" "hasRow" "Z", Cond.fieldLink RX3 19 "PaperLayers$Sheet" "lane" "I", Cond.methodLink RX3 35 yX3_faultOfCells, Cond.instanceMethod yX3_faultOfCells]
def wsX5_copy_r2 : List Cond := [Cond.selects RX3 yX3_faultOfCells yX3_faultOfCells, Cond.code yX3_faultOfCells cX3_faultOfCells 3 (some .int), Cond.fieldLink RX3 32 "PaperLayers$Sheet" "length" "I", Cond.methodLink RX5 62 yX5_failed, Cond.instanceMethod yX5_failed, Cond.selects RX5 yX5_failed yX5_failed, Cond.code yX5_failed cX5_failed 2 (some .int)]
def wsX5_copy : List Cond := .code yX5_copy cX5_copy 9 (some .int) :: ((wsX5_copy_r1 ++ wsX5_copy_r2) ++ wsX50 ++ wsX30)
def wsX5_leave : List Cond := .code yX5_leave cX5_leave 2 none :: ([.fieldLink RX5 223 "PaperLayers" "traced" "I"] ++ wsX50)
def wsX5_tellStripe : List Cond := .code yX5_tellStripe cX5_tellStripe 2 (some .int) :: ([.fieldLink RX5 86 "PaperLayers$Layer" "hold" "I", .methodLink RX5 266 yX5_leave, .instanceMethod yX5_leave, .selects RX5 yX5_leave yX5_leave, .initialized RX5, .code yX5_leave cX5_leave 2 none, .fieldLink RX5 223 "PaperLayers" "traced" "I"] ++ wsX00 ++ wsX50)
def wsX5_tellTrellis : List Cond := .code yX5_tellTrellis cX5_tellTrellis 2 (some .int) :: ([.methodLink RX5 266 yX5_leave, .instanceMethod yX5_leave, .selects RX5 yX5_leave yX5_leave, .initialized RX5, .code yX5_leave cX5_leave 2 none, .fieldLink RX5 223 "PaperLayers" "traced" "I", .methodLink RX5 210 yX5_tellStripe, .instanceMethod yX5_tellStripe, .selects RX5 yX5_tellStripe yX5_tellStripe, .code yX5_tellStripe cX5_tellStripe 2 (some .int), .fieldLink RX5 86 "PaperLayers$Layer" "hold" "I"] ++ wsX50 ++ wsX00)
def wsX5_tellRed : List Cond := .code yX5_tellRed cX5_tellRed 3 (some .int) :: ([.methodLink RX5 266 yX5_leave, .instanceMethod yX5_leave, .selects RX5 yX5_leave yX5_leave, .initialized RX5, .code yX5_leave cX5_leave 2 none, .fieldLink RX5 223 "PaperLayers" "traced" "I", .methodLink RX5 207 yX5_tellTrellis, .instanceMethod yX5_tellTrellis, .selects RX5 yX5_tellTrellis yX5_tellTrellis, .code yX5_tellTrellis cX5_tellTrellis 2 (some .int), .methodLink RX5 210 yX5_tellStripe, .instanceMethod yX5_tellStripe, .selects RX5 yX5_tellStripe yX5_tellStripe, .code yX5_tellStripe cX5_tellStripe 2 (some .int), .fieldLink RX5 86 "PaperLayers$Layer" "hold" "I"] ++ wsX50 ++ wsX00)
def wsX5_tell_r1 : List Cond := [Cond.fieldLink RX5 12 "PaperLayers" "now" "LPaperLayers$Wall;", Cond.fieldLink RX5 81 "PaperLayers$Layer" "kind" "I", Cond.methodLink RX5 77 yX4_layerAt, Cond.instanceMethod yX4_layerAt, Cond.selects RX4 yX4_layerAt yX4_layerAt, Cond.initialized RX4, Cond.code yX4_layerAt cX4_layerAt 2 (some (.object "PaperLayers$Layer")), Cond.fieldLink RX4 18 "PaperLayers$Wall" "count" "I", Cond.fieldLink RX4 11 "PaperLayers$Wall" "layers" "[LPaperLayers$Layer;", Cond.methodLink RX5 203 yX5_tellRed, Cond.instanceMethod yX5_tellRed, Cond.selects RX5 yX5_tellRed yX5_tellRed, Cond.initialized RX5, Cond.code yX5_tellRed cX5_tellRed 3 (some .int), Cond.methodLink RX5 266 yX5_leave, Cond.instanceMethod yX5_leave, Cond.selects RX5 yX5_leave yX5_leave, Cond.code yX5_leave cX5_leave 2 none, Cond.fieldLink RX5 223 "PaperLayers" "traced" "I", Cond.methodLink RX5 207 yX5_tellTrellis, Cond.instanceMethod yX5_tellTrellis, Cond.selects RX5 yX5_tellTrellis yX5_tellTrellis, Cond.code yX5_tellTrellis cX5_tellTrellis 2 (some .int), Cond.methodLink RX5 210 yX5_tellStripe]
def wsX5_tell_r2 : List Cond := [Cond.instanceMethod yX5_tellStripe, Cond.selects RX5 yX5_tellStripe yX5_tellStripe, Cond.code yX5_tellStripe cX5_tellStripe 2 (some .int), Cond.fieldLink RX5 86 "PaperLayers$Layer" "hold" "I"]
def wsX5_tell : List Cond := .code yX5_tell cX5_tell 3 (some .int) :: ((wsX5_tell_r1 ++ wsX5_tell_r2) ++ wsX50 ++ wsX00 ++ wsX40)
def wsX5_strokeRed : List Cond := .code yX5_strokeRed cX5_strokeRed 1 (some .int) :: ([.methodLink RX5 266 yX5_leave, .instanceMethod yX5_leave, .selects RX5 yX5_leave yX5_leave, .initialized RX5, .code yX5_leave cX5_leave 2 none, .fieldLink RX5 223 "PaperLayers" "traced" "I"] ++ wsX50)
def wsX5_strokeLent : List Cond := .code yX5_strokeLent cX5_strokeLent 2 (some .int) :: ([.fieldLink RX5 89 "PaperLayers$Layer" "advice" "I", .methodLink RX5 266 yX5_leave, .instanceMethod yX5_leave, .selects RX5 yX5_leave yX5_leave, .initialized RX5, .code yX5_leave cX5_leave 2 none, .fieldLink RX5 223 "PaperLayers" "traced" "I"] ++ wsX00 ++ wsX50)
def wsX5_stroke : List Cond := .code yX5_stroke cX5_stroke 3 (some .int) :: ([.fieldLink RX5 12 "PaperLayers" "now" "LPaperLayers$Wall;", .fieldLink RX5 81 "PaperLayers$Layer" "kind" "I", .methodLink RX5 77 yX4_layerAt, .instanceMethod yX4_layerAt, .selects RX4 yX4_layerAt yX4_layerAt, .initialized RX4, .code yX4_layerAt cX4_layerAt 2 (some (.object "PaperLayers$Layer")), .fieldLink RX4 18 "PaperLayers$Wall" "count" "I", .fieldLink RX4 11 "PaperLayers$Wall" "layers" "[LPaperLayers$Layer;", .methodLink RX5 213 yX5_strokeRed, .instanceMethod yX5_strokeRed, .selects RX5 yX5_strokeRed yX5_strokeRed, .initialized RX5, .code yX5_strokeRed cX5_strokeRed 1 (some .int), .methodLink RX5 266 yX5_leave, .instanceMethod yX5_leave, .selects RX5 yX5_leave yX5_leave, .code yX5_leave cX5_leave 2 none, .fieldLink RX5 223 "PaperLayers" "traced" "I", .methodLink RX5 216 yX5_strokeLent, .instanceMethod yX5_strokeLent, .selects RX5 yX5_strokeLent yX5_strokeLent, .code yX5_strokeLent cX5_strokeLent 2 (some .int), .fieldLink RX5 89 "PaperLayers$Layer" "advice" "I"] ++ wsX50 ++ wsX00 ++ wsX40)
def wsX5_as : List Cond := .code yX5_as cX5_as 4 (some .int) :: ([.fieldLink RX5 42 "PaperLayers" "latestFault" "I", .fieldLink RX5 12 "PaperLayers" "now" "LPaperLayers$Wall;", .methodLink RX5 77 yX4_layerAt, .instanceMethod yX4_layerAt, .selects RX4 yX4_layerAt yX4_layerAt, .initialized RX4, .code yX4_layerAt cX4_layerAt 2 (some (.object "PaperLayers$Layer")), .fieldLink RX4 18 "PaperLayers$Wall" "count" "I", .fieldLink RX4 11 "PaperLayers$Wall" "layers" "[LPaperLayers$Layer;", .methodLink RX5 50 yX5_isUpTo, .static yX5_isUpTo, .initialized RX5, .code yX5_isUpTo cX5_isUpTo 2 (some .boolean), .methodLink RX5 219 yX0_isA, .instanceMethod yX0_isA, .selects RX0 yX0_isA yX0_isA, .initialized RX0, .code yX0_isA cX0_isA 2 (some .boolean), .fieldLink RX0 9 "PaperLayers$Layer" "kind" "I", .methodLink RX5 62 yX5_failed, .instanceMethod yX5_failed, .selects RX5 yX5_failed yX5_failed, .code yX5_failed cX5_failed 2 (some .int)] ++ wsX50 ++ wsX40 ++ wsX00)
def wsX5_trace : List Cond := .code yX5_trace cX5_trace 1 (some .int) :: ([.fieldLink RX5 223 "PaperLayers" "traced" "I"] ++ wsX50)
def wsX5_fault : List Cond := .code yX5_fault cX5_fault 1 (some .int) :: ([.fieldLink RX5 42 "PaperLayers" "latestFault" "I"] ++ wsX50)
def wsX5_many_r1 : List Cond := [Cond.fieldLink RX5 12 "PaperLayers" "now" "LPaperLayers$Wall;", Cond.fieldLink RX5 76 "PaperLayers$Wall" "count" "I", Cond.fieldLink RX5 109 "PaperLayers$Wall" "warm" "I", Cond.fieldLink RX5 112 "PaperLayers$Wall" "damp" "I", Cond.fieldLink RX5 24 "PaperLayers" "readings" "LPaperLayers$Readings;", Cond.fieldLink RX5 73 "PaperLayers$Readings" "count" "I", Cond.methodLink RX5 96 yX4_warmth, Cond.instanceMethod yX4_warmth, Cond.selects RX4 yX4_warmth yX4_warmth, Cond.initialized RX4, Cond.code yX4_warmth cX4_warmth 1 (some .int), Cond.fieldLink RX4 22 "PaperLayers$Wall" "warm" "I", Cond.fieldLink RX4 25 "PaperLayers$Wall" "damp" "I", Cond.methodLink RX5 102 yX4_heardBy, Cond.instanceMethod yX4_heardBy, Cond.selects RX4 yX4_heardBy yX4_heardBy, Cond.code yX4_heardBy cX4_heardBy 3 (some .int), Cond.fieldLink RX4 18 "PaperLayers$Wall" "count" "I", Cond.fieldLink RX4 11 "PaperLayers$Wall" "layers" "[LPaperLayers$Layer;", Cond.fieldLink RX4 32 "PaperLayers$Layer" "kind" "I", Cond.methodLink RX4 28 yX0_grip, Cond.instanceMethod yX0_grip, Cond.selects RX0 yX0_grip yX0_grip, Cond.initialized RX0]
def wsX5_many_r2 : List Cond := [Cond.code yX0_grip cX0_grip 1 (some .int), Cond.fieldLink RX0 9 "PaperLayers$Layer" "kind" "I", Cond.fieldLink RX0 15 "PaperLayers$Layer" "hold" "I"]
def wsX5_many : List Cond := .code yX5_many cX5_many 2 (some .int) :: ((wsX5_many_r1 ++ wsX5_many_r2) ++ wsX50 ++ wsX40 ++ wsX20 ++ wsX00)
def wsX6_init : List Cond := .code yX6_init cX6_init 1 none :: ([.methodLink RX6 1 objectInit, .instanceMethod objectInit, .code objectInit ⟨#[0xb1]⟩ 1 none, .arrayClass .int, .fieldLink RX6 9 "PaperLayersModel" "sorts" "[I", .fieldLink RX6 13 "PaperLayersModel" "sheetLong" "[I", .fieldLink RX6 16 "PaperLayersModel" "cells" "[I", .fieldLink RX6 19 "PaperLayersModel" "kind" "[I", .fieldLink RX6 22 "PaperLayersModel" "hold" "[I", .fieldLink RX6 25 "PaperLayersModel" "advice" "[I", .fieldLink RX6 28 "PaperLayersModel" "read" "[I", .fieldLink RX6 31 "PaperLayersModel" "order" "[I", .fieldLink RX6 34 "PaperLayersModel" "kept" "[I", .fieldLink RX6 37 "PaperLayersModel" "readWarms" "[I", .fieldLink RX6 40 "PaperLayersModel" "readDamps" "[I", .fieldLink RX6 43 "PaperLayersModel" "readCounsel" "[I"] ++ wsX60)
def wsX6_fails : List Cond := .code yX6_fails cX6_fails 2 (some .int) :: ([.fieldLink RX6 46 "PaperLayersModel" "fault" "I"] ++ wsX60)
def wsX6_lost : List Cond := .code yX6_lost cX6_lost 2 (some .long) :: ([.fieldLink RX6 46 "PaperLayersModel" "fault" "I", .constantLong RX6 50 (-9223372036854775808)] ++ wsX60)
def wsX6_within : List Cond := .code yX6_within cX6_within 3 (some .boolean) :: ([])
def wsX6_isSheet : List Cond := .code yX6_isSheet cX6_isSheet 1 (some .boolean) :: ([.methodLink RX6 52 yX6_within, .static yX6_within, .initialized RX6, .code yX6_within cX6_within 3 (some .boolean)])
def wsX6_isSort : List Cond := .code yX6_isSort cX6_isSort 1 (some .boolean) :: ([.methodLink RX6 52 yX6_within, .static yX6_within, .initialized RX6, .code yX6_within cX6_within 3 (some .boolean)])
def wsX6_against : List Cond := .code yX6_against cX6_against 5 (some .int) :: ([.fieldLink RX6 9 "PaperLayersModel" "sorts" "[I", .fieldLink RX6 13 "PaperLayersModel" "sheetLong" "[I"] ++ wsX60)
def wsX6_isLayer : List Cond := .code yX6_isLayer cX6_isLayer 2 (some .boolean) :: ([.fieldLink RX6 56 "PaperLayersModel" "layers" "I"] ++ wsX60)
def wsX6_isDigit : List Cond := .code yX6_isDigit cX6_isDigit 1 (some .boolean) :: ([.methodLink RX6 52 yX6_within, .static yX6_within, .initialized RX6, .code yX6_within cX6_within 3 (some .boolean)])
def wsX6_isOf : List Cond := .code yX6_isOf cX6_isOf 2 (some .boolean) :: ([])
def wsX6_size : List Cond := .code yX6_size cX6_size 3 (some .int) :: ([])
def wsX6_digit : List Cond := .code yX6_digit cX6_digit 2 (some .int) :: ([.fieldLink RX6 59 "PaperLayersModel" "at" "I", .fieldLink RX6 16 "PaperLayersModel" "cells" "[I", .methodLink RX6 52 yX6_within, .static yX6_within, .initialized RX6, .code yX6_within cX6_within 3 (some .boolean)] ++ wsX60)
def wsX6_isSign : List Cond := .code yX6_isSign cX6_isSign 3 (some .boolean) :: ([.fieldLink RX6 59 "PaperLayersModel" "at" "I", .fieldLink RX6 16 "PaperLayersModel" "cells" "[I"] ++ wsX60)
def wsX6_readLayer : List Cond := .code yX6_readLayer cX6_readLayer 4 (some .boolean) :: ([.fieldLink RX6 59 "PaperLayersModel" "at" "I", .fieldLink RX6 16 "PaperLayersModel" "cells" "[I", .fieldLink RX6 95 "PaperLayersModel" "readLayers" "I", .fieldLink RX6 28 "PaperLayersModel" "read" "[I", .methodLink RX6 105 yX6_digit, .instanceMethod yX6_digit, .selects RX6 yX6_digit yX6_digit, .initialized RX6, .code yX6_digit cX6_digit 2 (some .int), .methodLink RX6 52 yX6_within, .static yX6_within, .code yX6_within cX6_within 3 (some .boolean)] ++ wsX60)
def wsX6_readWall : List Cond := .code yX6_readWall cX6_readWall 2 (some .boolean) :: ([.fieldLink RX6 95 "PaperLayersModel" "readLayers" "I", .fieldLink RX6 83 "PaperLayersModel" "readWarm" "I", .fieldLink RX6 89 "PaperLayersModel" "readDamp" "I", .fieldLink RX6 59 "PaperLayersModel" "at" "I", .methodLink RX6 101 yX6_isSign, .instanceMethod yX6_isSign, .selects RX6 yX6_isSign yX6_isSign, .initialized RX6, .code yX6_isSign cX6_isSign 3 (some .boolean), .fieldLink RX6 16 "PaperLayersModel" "cells" "[I", .methodLink RX6 105 yX6_digit, .instanceMethod yX6_digit, .selects RX6 yX6_digit yX6_digit, .code yX6_digit cX6_digit 2 (some .int), .methodLink RX6 52 yX6_within, .static yX6_within, .code yX6_within cX6_within 3 (some .boolean), .methodLink RX6 108 yX6_readLayer, .instanceMethod yX6_readLayer, .selects RX6 yX6_readLayer yX6_readLayer, .code yX6_readLayer cX6_readLayer 4 (some .boolean), .fieldLink RX6 28 "PaperLayersModel" "read" "[I"] ++ wsX60)
def wsX6_takeWall : List Cond := .code yX6_takeWall cX6_takeWall 2 none :: ([.fieldLink RX6 83 "PaperLayersModel" "readWarm" "I", .fieldLink RX6 86 "PaperLayersModel" "warmNow" "I", .fieldLink RX6 89 "PaperLayersModel" "readDamp" "I", .fieldLink RX6 92 "PaperLayersModel" "dampNow" "I", .fieldLink RX6 95 "PaperLayersModel" "readLayers" "I", .fieldLink RX6 56 "PaperLayersModel" "layers" "I", .fieldLink RX6 19 "PaperLayersModel" "kind" "[I", .fieldLink RX6 28 "PaperLayersModel" "read" "[I", .fieldLink RX6 22 "PaperLayersModel" "hold" "[I", .fieldLink RX6 25 "PaperLayersModel" "advice" "[I", .fieldLink RX6 98 "PaperLayersModel" "readings" "I"] ++ wsX60)
def wsX6_wall_r1 : List Cond := [Cond.fieldLink RX6 46 "PaperLayersModel" "fault" "I", Cond.fieldLink RX6 59 "PaperLayersModel" "at" "I", Cond.fieldLink RX6 56 "PaperLayersModel" "layers" "I", Cond.methodLink RX6 62 yX6_isSheet, Cond.static yX6_isSheet, Cond.initialized RX6, Cond.code yX6_isSheet cX6_isSheet 1 (some .boolean), Cond.methodLink RX6 52 yX6_within, Cond.static yX6_within, Cond.code yX6_within cX6_within 3 (some .boolean), Cond.methodLink RX6 66 yX6_isSort, Cond.static yX6_isSort, Cond.code yX6_isSort cX6_isSort 1 (some .boolean), Cond.methodLink RX6 69 yX6_against, Cond.instanceMethod yX6_against, Cond.selects RX6 yX6_against yX6_against, Cond.code yX6_against cX6_against 5 (some .int), Cond.fieldLink RX6 9 "PaperLayersModel" "sorts" "[I", Cond.fieldLink RX6 13 "PaperLayersModel" "sheetLong" "[I", Cond.methodLink RX6 73 yX6_fails, Cond.instanceMethod yX6_fails, Cond.selects RX6 yX6_fails yX6_fails, Cond.code yX6_fails cX6_fails 2 (some .int), Cond.methodLink RX6 77 yX6_readWall]
def wsX6_wall_r2 : List Cond := [Cond.instanceMethod yX6_readWall, Cond.selects RX6 yX6_readWall yX6_readWall, Cond.code yX6_readWall cX6_readWall 2 (some .boolean), Cond.fieldLink RX6 95 "PaperLayersModel" "readLayers" "I", Cond.fieldLink RX6 83 "PaperLayersModel" "readWarm" "I", Cond.fieldLink RX6 89 "PaperLayersModel" "readDamp" "I", Cond.methodLink RX6 101 yX6_isSign, Cond.instanceMethod yX6_isSign, Cond.selects RX6 yX6_isSign yX6_isSign, Cond.code yX6_isSign cX6_isSign 3 (some .boolean), Cond.fieldLink RX6 16 "PaperLayersModel" "cells" "[I", Cond.methodLink RX6 105 yX6_digit, Cond.instanceMethod yX6_digit, Cond.selects RX6 yX6_digit yX6_digit, Cond.code yX6_digit cX6_digit 2 (some .int), Cond.methodLink RX6 108 yX6_readLayer, Cond.instanceMethod yX6_readLayer, Cond.selects RX6 yX6_readLayer yX6_readLayer, Cond.code yX6_readLayer cX6_readLayer 4 (some .boolean), Cond.fieldLink RX6 28 "PaperLayersModel" "read" "[I", Cond.methodLink RX6 80 yX6_takeWall, Cond.instanceMethod yX6_takeWall, Cond.selects RX6 yX6_takeWall yX6_takeWall, Cond.code yX6_takeWall cX6_takeWall 2 none]
def wsX6_wall_r3 : List Cond := [Cond.fieldLink RX6 86 "PaperLayersModel" "warmNow" "I", Cond.fieldLink RX6 92 "PaperLayersModel" "dampNow" "I", Cond.fieldLink RX6 19 "PaperLayersModel" "kind" "[I", Cond.fieldLink RX6 22 "PaperLayersModel" "hold" "[I", Cond.fieldLink RX6 25 "PaperLayersModel" "advice" "[I", Cond.fieldLink RX6 98 "PaperLayersModel" "readings" "I"]
def wsX6_wall : List Cond := .code yX6_wall cX6_wall 7 (some .int) :: ((wsX6_wall_r1 ++ (wsX6_wall_r2 ++ wsX6_wall_r3)) ++ wsX60)
def wsX6_gripOf : List Cond := .code yX6_gripOf cX6_gripOf 2 (some .int) :: ([.fieldLink RX6 19 "PaperLayersModel" "kind" "[I", .fieldLink RX6 22 "PaperLayersModel" "hold" "[I"] ++ wsX60)
def wsX6_orderAsIs : List Cond := .code yX6_orderAsIs cX6_orderAsIs 2 none :: ([.fieldLink RX6 56 "PaperLayersModel" "layers" "I", .fieldLink RX6 31 "PaperLayersModel" "order" "[I"] ++ wsX60)
def wsX6_liftedBy : List Cond := .code yX6_liftedBy cX6_liftedBy 7 (some .int) :: ([.fieldLink RX6 56 "PaperLayersModel" "layers" "I", .fieldLink RX6 31 "PaperLayersModel" "order" "[I", .methodLink RX6 111 yX6_isOf, .static yX6_isOf, .initialized RX6, .code yX6_isOf cX6_isOf 2 (some .boolean), .methodLink RX6 114 yX6_gripOf, .instanceMethod yX6_gripOf, .selects RX6 yX6_gripOf yX6_gripOf, .code yX6_gripOf cX6_gripOf 2 (some .int), .fieldLink RX6 19 "PaperLayersModel" "kind" "[I", .fieldLink RX6 22 "PaperLayersModel" "hold" "[I"] ++ wsX60)
def wsX6_heardBy : List Cond := .code yX6_heardBy cX6_heardBy 8 (some .int) :: ([.fieldLink RX6 56 "PaperLayersModel" "layers" "I", .fieldLink RX6 31 "PaperLayersModel" "order" "[I", .fieldLink RX6 19 "PaperLayersModel" "kind" "[I", .methodLink RX6 117 yX6_liftedBy, .instanceMethod yX6_liftedBy, .selects RX6 yX6_liftedBy yX6_liftedBy, .initialized RX6, .code yX6_liftedBy cX6_liftedBy 7 (some .int), .methodLink RX6 111 yX6_isOf, .static yX6_isOf, .code yX6_isOf cX6_isOf 2 (some .boolean), .methodLink RX6 114 yX6_gripOf, .instanceMethod yX6_gripOf, .selects RX6 yX6_gripOf yX6_gripOf, .code yX6_gripOf cX6_gripOf 2 (some .int), .fieldLink RX6 22 "PaperLayersModel" "hold" "[I"] ++ wsX60)
def wsX6_givers : List Cond := .code yX6_givers cX6_givers 5 (some .int) :: ([.fieldLink RX6 56 "PaperLayersModel" "layers" "I", .fieldLink RX6 25 "PaperLayersModel" "advice" "[I", .methodLink RX6 111 yX6_isOf, .static yX6_isOf, .initialized RX6, .code yX6_isOf cX6_isOf 2 (some .boolean)] ++ wsX60)
def wsX6_counselBy_r1 : List Cond := [Cond.fieldLink RX6 56 "PaperLayersModel" "layers" "I", Cond.fieldLink RX6 31 "PaperLayersModel" "order" "[I", Cond.fieldLink RX6 25 "PaperLayersModel" "advice" "[I", Cond.methodLink RX6 121 yX6_heardBy, Cond.instanceMethod yX6_heardBy, Cond.selects RX6 yX6_heardBy yX6_heardBy, Cond.initialized RX6, Cond.code yX6_heardBy cX6_heardBy 8 (some .int), Cond.fieldLink RX6 19 "PaperLayersModel" "kind" "[I", Cond.methodLink RX6 117 yX6_liftedBy, Cond.instanceMethod yX6_liftedBy, Cond.selects RX6 yX6_liftedBy yX6_liftedBy, Cond.code yX6_liftedBy cX6_liftedBy 7 (some .int), Cond.methodLink RX6 111 yX6_isOf, Cond.static yX6_isOf, Cond.code yX6_isOf cX6_isOf 2 (some .boolean), Cond.methodLink RX6 114 yX6_gripOf, Cond.instanceMethod yX6_gripOf, Cond.selects RX6 yX6_gripOf yX6_gripOf, Cond.code yX6_gripOf cX6_gripOf 2 (some .int), Cond.fieldLink RX6 22 "PaperLayersModel" "hold" "[I", Cond.methodLink RX6 124 yX6_givers, Cond.instanceMethod yX6_givers, Cond.selects RX6 yX6_givers yX6_givers]
def wsX6_counselBy_r2 : List Cond := [Cond.code yX6_givers cX6_givers 5 (some .int)]
def wsX6_counselBy : List Cond := .code yX6_counselBy cX6_counselBy 9 (some .int) :: ((wsX6_counselBy_r1 ++ wsX6_counselBy_r2) ++ wsX60)
def wsX6_heardNow_r1 : List Cond := [Cond.fieldLink RX6 86 "PaperLayersModel" "warmNow" "I", Cond.fieldLink RX6 92 "PaperLayersModel" "dampNow" "I", Cond.methodLink RX6 128 yX6_orderAsIs, Cond.instanceMethod yX6_orderAsIs, Cond.selects RX6 yX6_orderAsIs yX6_orderAsIs, Cond.initialized RX6, Cond.code yX6_orderAsIs cX6_orderAsIs 2 none, Cond.fieldLink RX6 56 "PaperLayersModel" "layers" "I", Cond.fieldLink RX6 31 "PaperLayersModel" "order" "[I", Cond.methodLink RX6 121 yX6_heardBy, Cond.instanceMethod yX6_heardBy, Cond.selects RX6 yX6_heardBy yX6_heardBy, Cond.code yX6_heardBy cX6_heardBy 8 (some .int), Cond.fieldLink RX6 19 "PaperLayersModel" "kind" "[I", Cond.methodLink RX6 117 yX6_liftedBy, Cond.instanceMethod yX6_liftedBy, Cond.selects RX6 yX6_liftedBy yX6_liftedBy, Cond.code yX6_liftedBy cX6_liftedBy 7 (some .int), Cond.methodLink RX6 111 yX6_isOf, Cond.static yX6_isOf, Cond.code yX6_isOf cX6_isOf 2 (some .boolean), Cond.methodLink RX6 114 yX6_gripOf, Cond.instanceMethod yX6_gripOf, Cond.selects RX6 yX6_gripOf yX6_gripOf]
def wsX6_heardNow_r2 : List Cond := [Cond.code yX6_gripOf cX6_gripOf 2 (some .int), Cond.fieldLink RX6 22 "PaperLayersModel" "hold" "[I"]
def wsX6_heardNow : List Cond := .code yX6_heardNow cX6_heardNow 1 (some .int) :: ((wsX6_heardNow_r1 ++ wsX6_heardNow_r2) ++ wsX60)
def wsX6_liftedNow : List Cond := .code yX6_liftedNow cX6_liftedNow 1 (some .int) :: ([.fieldLink RX6 86 "PaperLayersModel" "warmNow" "I", .fieldLink RX6 92 "PaperLayersModel" "dampNow" "I", .methodLink RX6 128 yX6_orderAsIs, .instanceMethod yX6_orderAsIs, .selects RX6 yX6_orderAsIs yX6_orderAsIs, .initialized RX6, .code yX6_orderAsIs cX6_orderAsIs 2 none, .fieldLink RX6 56 "PaperLayersModel" "layers" "I", .fieldLink RX6 31 "PaperLayersModel" "order" "[I", .methodLink RX6 117 yX6_liftedBy, .instanceMethod yX6_liftedBy, .selects RX6 yX6_liftedBy yX6_liftedBy, .code yX6_liftedBy cX6_liftedBy 7 (some .int), .methodLink RX6 111 yX6_isOf, .static yX6_isOf, .code yX6_isOf cX6_isOf 2 (some .boolean), .methodLink RX6 114 yX6_gripOf, .instanceMethod yX6_gripOf, .selects RX6 yX6_gripOf yX6_gripOf, .code yX6_gripOf cX6_gripOf 2 (some .int), .fieldLink RX6 19 "PaperLayersModel" "kind" "[I", .fieldLink RX6 22 "PaperLayersModel" "hold" "[I"] ++ wsX60)
def wsX6_ofLayer_r1 : List Cond := [Cond.fieldLink RX6 19 "PaperLayersModel" "kind" "[I", Cond.fieldLink RX6 22 "PaperLayersModel" "hold" "[I", Cond.fieldLink RX6 25 "PaperLayersModel" "advice" "[I", Cond.methodLink RX6 131 yX6_isLayer, Cond.instanceMethod yX6_isLayer, Cond.selects RX6 yX6_isLayer yX6_isLayer, Cond.initialized RX6, Cond.code yX6_isLayer cX6_isLayer 2 (some .boolean), Cond.fieldLink RX6 56 "PaperLayersModel" "layers" "I", Cond.methodLink RX6 114 yX6_gripOf, Cond.instanceMethod yX6_gripOf, Cond.selects RX6 yX6_gripOf yX6_gripOf, Cond.code yX6_gripOf cX6_gripOf 2 (some .int), Cond.methodLink RX6 134 yX6_liftedNow, Cond.instanceMethod yX6_liftedNow, Cond.selects RX6 yX6_liftedNow yX6_liftedNow, Cond.code yX6_liftedNow cX6_liftedNow 1 (some .int), Cond.fieldLink RX6 86 "PaperLayersModel" "warmNow" "I", Cond.fieldLink RX6 92 "PaperLayersModel" "dampNow" "I", Cond.methodLink RX6 128 yX6_orderAsIs, Cond.instanceMethod yX6_orderAsIs, Cond.selects RX6 yX6_orderAsIs yX6_orderAsIs, Cond.code yX6_orderAsIs cX6_orderAsIs 2 none, Cond.fieldLink RX6 31 "PaperLayersModel" "order" "[I"]
def wsX6_ofLayer_r2 : List Cond := [Cond.methodLink RX6 117 yX6_liftedBy, Cond.instanceMethod yX6_liftedBy, Cond.selects RX6 yX6_liftedBy yX6_liftedBy, Cond.code yX6_liftedBy cX6_liftedBy 7 (some .int), Cond.methodLink RX6 111 yX6_isOf, Cond.static yX6_isOf, Cond.code yX6_isOf cX6_isOf 2 (some .boolean), Cond.methodLink RX6 138 yX6_heardNow, Cond.instanceMethod yX6_heardNow, Cond.selects RX6 yX6_heardNow yX6_heardNow, Cond.code yX6_heardNow cX6_heardNow 1 (some .int), Cond.methodLink RX6 121 yX6_heardBy, Cond.instanceMethod yX6_heardBy, Cond.selects RX6 yX6_heardBy yX6_heardBy, Cond.code yX6_heardBy cX6_heardBy 8 (some .int)]
def wsX6_ofLayer : List Cond := .code yX6_ofLayer cX6_ofLayer 3 (some .int) :: ((wsX6_ofLayer_r1 ++ wsX6_ofLayer_r2) ++ wsX60)
def wsX6_heat : List Cond := .code yX6_heat cX6_heat 3 (some .int) :: ([.fieldLink RX6 56 "PaperLayersModel" "layers" "I", .fieldLink RX6 86 "PaperLayersModel" "warmNow" "I", .methodLink RX6 52 yX6_within, .static yX6_within, .initialized RX6, .code yX6_within cX6_within 3 (some .boolean)] ++ wsX60)
def wsX6_wet : List Cond := .code yX6_wet cX6_wet 3 (some .int) :: ([.fieldLink RX6 56 "PaperLayersModel" "layers" "I", .fieldLink RX6 92 "PaperLayersModel" "dampNow" "I", .methodLink RX6 141 yX6_isDigit, .static yX6_isDigit, .initialized RX6, .code yX6_isDigit cX6_isDigit 1 (some .boolean), .methodLink RX6 52 yX6_within, .static yX6_within, .code yX6_within cX6_within 3 (some .boolean)] ++ wsX60)
def wsX6_paste : List Cond := .code yX6_paste cX6_paste 4 (some .int) :: ([.fieldLink RX6 22 "PaperLayersModel" "hold" "[I", .methodLink RX6 131 yX6_isLayer, .instanceMethod yX6_isLayer, .selects RX6 yX6_isLayer yX6_isLayer, .initialized RX6, .code yX6_isLayer cX6_isLayer 2 (some .boolean), .fieldLink RX6 56 "PaperLayersModel" "layers" "I", .methodLink RX6 141 yX6_isDigit, .static yX6_isDigit, .code yX6_isDigit cX6_isDigit 1 (some .boolean), .methodLink RX6 52 yX6_within, .static yX6_within, .code yX6_within cX6_within 3 (some .boolean)] ++ wsX60)
def wsX6_heard_r1 : List Cond := [Cond.fieldLink RX6 56 "PaperLayersModel" "layers" "I", Cond.methodLink RX6 138 yX6_heardNow, Cond.instanceMethod yX6_heardNow, Cond.selects RX6 yX6_heardNow yX6_heardNow, Cond.initialized RX6, Cond.code yX6_heardNow cX6_heardNow 1 (some .int), Cond.fieldLink RX6 86 "PaperLayersModel" "warmNow" "I", Cond.fieldLink RX6 92 "PaperLayersModel" "dampNow" "I", Cond.methodLink RX6 128 yX6_orderAsIs, Cond.instanceMethod yX6_orderAsIs, Cond.selects RX6 yX6_orderAsIs yX6_orderAsIs, Cond.code yX6_orderAsIs cX6_orderAsIs 2 none, Cond.fieldLink RX6 31 "PaperLayersModel" "order" "[I", Cond.methodLink RX6 121 yX6_heardBy, Cond.instanceMethod yX6_heardBy, Cond.selects RX6 yX6_heardBy yX6_heardBy, Cond.code yX6_heardBy cX6_heardBy 8 (some .int), Cond.fieldLink RX6 19 "PaperLayersModel" "kind" "[I", Cond.methodLink RX6 117 yX6_liftedBy, Cond.instanceMethod yX6_liftedBy, Cond.selects RX6 yX6_liftedBy yX6_liftedBy, Cond.code yX6_liftedBy cX6_liftedBy 7 (some .int), Cond.methodLink RX6 111 yX6_isOf, Cond.static yX6_isOf]
def wsX6_heard_r2 : List Cond := [Cond.code yX6_isOf cX6_isOf 2 (some .boolean), Cond.methodLink RX6 114 yX6_gripOf, Cond.instanceMethod yX6_gripOf, Cond.selects RX6 yX6_gripOf yX6_gripOf, Cond.code yX6_gripOf cX6_gripOf 2 (some .int), Cond.fieldLink RX6 22 "PaperLayersModel" "hold" "[I"]
def wsX6_heard : List Cond := .code yX6_heard cX6_heard 1 (some .int) :: ((wsX6_heard_r1 ++ wsX6_heard_r2) ++ wsX60)
def wsX6_counsel_r1 : List Cond := [Cond.fieldLink RX6 56 "PaperLayersModel" "layers" "I", Cond.methodLink RX6 52 yX6_within, Cond.static yX6_within, Cond.initialized RX6, Cond.code yX6_within cX6_within 3 (some .boolean), Cond.methodLink RX6 141 yX6_isDigit, Cond.static yX6_isDigit, Cond.code yX6_isDigit cX6_isDigit 1 (some .boolean), Cond.methodLink RX6 128 yX6_orderAsIs, Cond.instanceMethod yX6_orderAsIs, Cond.selects RX6 yX6_orderAsIs yX6_orderAsIs, Cond.code yX6_orderAsIs cX6_orderAsIs 2 none, Cond.fieldLink RX6 31 "PaperLayersModel" "order" "[I", Cond.methodLink RX6 144 yX6_counselBy, Cond.instanceMethod yX6_counselBy, Cond.selects RX6 yX6_counselBy yX6_counselBy, Cond.code yX6_counselBy cX6_counselBy 9 (some .int), Cond.fieldLink RX6 25 "PaperLayersModel" "advice" "[I", Cond.methodLink RX6 121 yX6_heardBy, Cond.instanceMethod yX6_heardBy, Cond.selects RX6 yX6_heardBy yX6_heardBy, Cond.code yX6_heardBy cX6_heardBy 8 (some .int), Cond.fieldLink RX6 19 "PaperLayersModel" "kind" "[I", Cond.methodLink RX6 117 yX6_liftedBy]
def wsX6_counsel_r2 : List Cond := [Cond.instanceMethod yX6_liftedBy, Cond.selects RX6 yX6_liftedBy yX6_liftedBy, Cond.code yX6_liftedBy cX6_liftedBy 7 (some .int), Cond.methodLink RX6 111 yX6_isOf, Cond.static yX6_isOf, Cond.code yX6_isOf cX6_isOf 2 (some .boolean), Cond.methodLink RX6 114 yX6_gripOf, Cond.instanceMethod yX6_gripOf, Cond.selects RX6 yX6_gripOf yX6_gripOf, Cond.code yX6_gripOf cX6_gripOf 2 (some .int), Cond.fieldLink RX6 22 "PaperLayersModel" "hold" "[I", Cond.methodLink RX6 124 yX6_givers, Cond.instanceMethod yX6_givers, Cond.selects RX6 yX6_givers yX6_givers, Cond.code yX6_givers cX6_givers 5 (some .int)]
def wsX6_counsel : List Cond := .code yX6_counsel cX6_counsel 3 (some .int) :: ((wsX6_counsel_r1 ++ wsX6_counsel_r2) ++ wsX60)
def wsX6_clash_r1 : List Cond := [Cond.fieldLink RX6 56 "PaperLayersModel" "layers" "I", Cond.methodLink RX6 52 yX6_within, Cond.static yX6_within, Cond.initialized RX6, Cond.code yX6_within cX6_within 3 (some .boolean), Cond.methodLink RX6 138 yX6_heardNow, Cond.instanceMethod yX6_heardNow, Cond.selects RX6 yX6_heardNow yX6_heardNow, Cond.code yX6_heardNow cX6_heardNow 1 (some .int), Cond.fieldLink RX6 86 "PaperLayersModel" "warmNow" "I", Cond.fieldLink RX6 92 "PaperLayersModel" "dampNow" "I", Cond.methodLink RX6 128 yX6_orderAsIs, Cond.instanceMethod yX6_orderAsIs, Cond.selects RX6 yX6_orderAsIs yX6_orderAsIs, Cond.code yX6_orderAsIs cX6_orderAsIs 2 none, Cond.fieldLink RX6 31 "PaperLayersModel" "order" "[I", Cond.methodLink RX6 121 yX6_heardBy, Cond.instanceMethod yX6_heardBy, Cond.selects RX6 yX6_heardBy yX6_heardBy, Cond.code yX6_heardBy cX6_heardBy 8 (some .int), Cond.fieldLink RX6 19 "PaperLayersModel" "kind" "[I", Cond.methodLink RX6 117 yX6_liftedBy, Cond.instanceMethod yX6_liftedBy, Cond.selects RX6 yX6_liftedBy yX6_liftedBy]
def wsX6_clash_r2 : List Cond := [Cond.code yX6_liftedBy cX6_liftedBy 7 (some .int), Cond.methodLink RX6 111 yX6_isOf, Cond.static yX6_isOf, Cond.code yX6_isOf cX6_isOf 2 (some .boolean), Cond.methodLink RX6 114 yX6_gripOf, Cond.instanceMethod yX6_gripOf, Cond.selects RX6 yX6_gripOf yX6_gripOf, Cond.code yX6_gripOf cX6_gripOf 2 (some .int), Cond.fieldLink RX6 22 "PaperLayersModel" "hold" "[I", Cond.methodLink RX6 147 yX6_size, Cond.static yX6_size, Cond.code yX6_size cX6_size 3 (some .int), Cond.methodLink RX6 124 yX6_givers, Cond.instanceMethod yX6_givers, Cond.selects RX6 yX6_givers yX6_givers, Cond.code yX6_givers cX6_givers 5 (some .int), Cond.fieldLink RX6 25 "PaperLayersModel" "advice" "[I"]
def wsX6_clash : List Cond := .code yX6_clash cX6_clash 8 (some .int) :: ((wsX6_clash_r1 ++ wsX6_clash_r2) ++ wsX60)
def wsX6_putOn : List Cond := .code yX6_putOn cX6_putOn 5 none :: ([.fieldLink RX6 56 "PaperLayersModel" "layers" "I", .fieldLink RX6 19 "PaperLayersModel" "kind" "[I", .fieldLink RX6 22 "PaperLayersModel" "hold" "[I", .fieldLink RX6 25 "PaperLayersModel" "advice" "[I"] ++ wsX60)
def wsX6_takeOff : List Cond := .code yX6_takeOff cX6_takeOff 3 (some .int) :: ([.fieldLink RX6 25 "PaperLayersModel" "advice" "[I", .fieldLink RX6 56 "PaperLayersModel" "layers" "I", .fieldLink RX6 19 "PaperLayersModel" "kind" "[I", .fieldLink RX6 22 "PaperLayersModel" "hold" "[I"] ++ wsX60)
def wsX6_mayPeel_r1 : List Cond := [Cond.fieldLink RX6 56 "PaperLayersModel" "layers" "I", Cond.methodLink RX6 134 yX6_liftedNow, Cond.instanceMethod yX6_liftedNow, Cond.selects RX6 yX6_liftedNow yX6_liftedNow, Cond.initialized RX6, Cond.code yX6_liftedNow cX6_liftedNow 1 (some .int), Cond.fieldLink RX6 86 "PaperLayersModel" "warmNow" "I", Cond.fieldLink RX6 92 "PaperLayersModel" "dampNow" "I", Cond.methodLink RX6 128 yX6_orderAsIs, Cond.instanceMethod yX6_orderAsIs, Cond.selects RX6 yX6_orderAsIs yX6_orderAsIs, Cond.code yX6_orderAsIs cX6_orderAsIs 2 none, Cond.fieldLink RX6 31 "PaperLayersModel" "order" "[I", Cond.methodLink RX6 117 yX6_liftedBy, Cond.instanceMethod yX6_liftedBy, Cond.selects RX6 yX6_liftedBy yX6_liftedBy, Cond.code yX6_liftedBy cX6_liftedBy 7 (some .int), Cond.methodLink RX6 111 yX6_isOf, Cond.static yX6_isOf, Cond.code yX6_isOf cX6_isOf 2 (some .boolean), Cond.methodLink RX6 114 yX6_gripOf, Cond.instanceMethod yX6_gripOf, Cond.selects RX6 yX6_gripOf yX6_gripOf, Cond.code yX6_gripOf cX6_gripOf 2 (some .int)]
def wsX6_mayPeel_r2 : List Cond := [Cond.fieldLink RX6 19 "PaperLayersModel" "kind" "[I", Cond.fieldLink RX6 22 "PaperLayersModel" "hold" "[I"]
def wsX6_mayPeel : List Cond := .code yX6_mayPeel cX6_mayPeel 1 (some .boolean) :: ((wsX6_mayPeel_r1 ++ wsX6_mayPeel_r2) ++ wsX60)
def wsX6_putUp : List Cond := .code yX6_putUp cX6_putUp 4 (some .int) :: ([.fieldLink RX6 56 "PaperLayersModel" "layers" "I", .methodLink RX6 52 yX6_within, .static yX6_within, .initialized RX6, .code yX6_within cX6_within 3 (some .boolean), .methodLink RX6 141 yX6_isDigit, .static yX6_isDigit, .code yX6_isDigit cX6_isDigit 1 (some .boolean), .methodLink RX6 150 yX6_putOn, .instanceMethod yX6_putOn, .selects RX6 yX6_putOn yX6_putOn, .code yX6_putOn cX6_putOn 5 none, .fieldLink RX6 19 "PaperLayersModel" "kind" "[I", .fieldLink RX6 22 "PaperLayersModel" "hold" "[I", .fieldLink RX6 25 "PaperLayersModel" "advice" "[I"] ++ wsX60)
def wsX6_peel_r1 : List Cond := [Cond.fieldLink RX6 56 "PaperLayersModel" "layers" "I", Cond.methodLink RX6 154 yX6_mayPeel, Cond.instanceMethod yX6_mayPeel, Cond.selects RX6 yX6_mayPeel yX6_mayPeel, Cond.initialized RX6, Cond.code yX6_mayPeel cX6_mayPeel 1 (some .boolean), Cond.methodLink RX6 134 yX6_liftedNow, Cond.instanceMethod yX6_liftedNow, Cond.selects RX6 yX6_liftedNow yX6_liftedNow, Cond.code yX6_liftedNow cX6_liftedNow 1 (some .int), Cond.fieldLink RX6 86 "PaperLayersModel" "warmNow" "I", Cond.fieldLink RX6 92 "PaperLayersModel" "dampNow" "I", Cond.methodLink RX6 128 yX6_orderAsIs, Cond.instanceMethod yX6_orderAsIs, Cond.selects RX6 yX6_orderAsIs yX6_orderAsIs, Cond.code yX6_orderAsIs cX6_orderAsIs 2 none, Cond.fieldLink RX6 31 "PaperLayersModel" "order" "[I", Cond.methodLink RX6 117 yX6_liftedBy, Cond.instanceMethod yX6_liftedBy, Cond.selects RX6 yX6_liftedBy yX6_liftedBy, Cond.code yX6_liftedBy cX6_liftedBy 7 (some .int), Cond.methodLink RX6 111 yX6_isOf, Cond.static yX6_isOf, Cond.code yX6_isOf cX6_isOf 2 (some .boolean)]
def wsX6_peel_r2 : List Cond := [Cond.methodLink RX6 114 yX6_gripOf, Cond.instanceMethod yX6_gripOf, Cond.selects RX6 yX6_gripOf yX6_gripOf, Cond.code yX6_gripOf cX6_gripOf 2 (some .int), Cond.fieldLink RX6 19 "PaperLayersModel" "kind" "[I", Cond.fieldLink RX6 22 "PaperLayersModel" "hold" "[I", Cond.methodLink RX6 158 yX6_takeOff, Cond.instanceMethod yX6_takeOff, Cond.selects RX6 yX6_takeOff yX6_takeOff, Cond.code yX6_takeOff cX6_takeOff 3 (some .int), Cond.fieldLink RX6 25 "PaperLayersModel" "advice" "[I"]
def wsX6_peel : List Cond := .code yX6_peel cX6_peel 1 (some .int) :: ((wsX6_peel_r1 ++ wsX6_peel_r2) ++ wsX60)
def wsX6_keep : List Cond := .code yX6_keep cX6_keep 2 none :: ([.fieldLink RX6 56 "PaperLayersModel" "layers" "I", .fieldLink RX6 161 "PaperLayersModel" "keptLayers" "I", .fieldLink RX6 86 "PaperLayersModel" "warmNow" "I", .fieldLink RX6 164 "PaperLayersModel" "keptWarm" "I", .fieldLink RX6 92 "PaperLayersModel" "dampNow" "I", .fieldLink RX6 167 "PaperLayersModel" "keptDamp" "I", .fieldLink RX6 34 "PaperLayersModel" "kept" "[I", .fieldLink RX6 19 "PaperLayersModel" "kind" "[I", .fieldLink RX6 22 "PaperLayersModel" "hold" "[I", .fieldLink RX6 25 "PaperLayersModel" "advice" "[I"] ++ wsX60)
def wsX6_putBack : List Cond := .code yX6_putBack cX6_putBack 2 none :: ([.fieldLink RX6 161 "PaperLayersModel" "keptLayers" "I", .fieldLink RX6 56 "PaperLayersModel" "layers" "I", .fieldLink RX6 164 "PaperLayersModel" "keptWarm" "I", .fieldLink RX6 86 "PaperLayersModel" "warmNow" "I", .fieldLink RX6 167 "PaperLayersModel" "keptDamp" "I", .fieldLink RX6 92 "PaperLayersModel" "dampNow" "I", .fieldLink RX6 19 "PaperLayersModel" "kind" "[I", .fieldLink RX6 34 "PaperLayersModel" "kept" "[I", .fieldLink RX6 22 "PaperLayersModel" "hold" "[I", .fieldLink RX6 25 "PaperLayersModel" "advice" "[I"] ++ wsX60)
def wsX6_isPair : List Cond := .code yX6_isPair cX6_isPair 2 (some .boolean) :: ([.methodLink RX6 52 yX6_within, .static yX6_within, .initialized RX6, .code yX6_within cX6_within 3 (some .boolean), .methodLink RX6 141 yX6_isDigit, .static yX6_isDigit, .code yX6_isDigit cX6_isDigit 1 (some .boolean)])
def wsX6_does_r1 : List Cond := [Cond.fieldLink RX6 86 "PaperLayersModel" "warmNow" "I", Cond.fieldLink RX6 92 "PaperLayersModel" "dampNow" "I", Cond.fieldLink RX6 56 "PaperLayersModel" "layers" "I", Cond.methodLink RX6 154 yX6_mayPeel, Cond.instanceMethod yX6_mayPeel, Cond.selects RX6 yX6_mayPeel yX6_mayPeel, Cond.initialized RX6, Cond.code yX6_mayPeel cX6_mayPeel 1 (some .boolean), Cond.methodLink RX6 134 yX6_liftedNow, Cond.instanceMethod yX6_liftedNow, Cond.selects RX6 yX6_liftedNow yX6_liftedNow, Cond.code yX6_liftedNow cX6_liftedNow 1 (some .int), Cond.methodLink RX6 128 yX6_orderAsIs, Cond.instanceMethod yX6_orderAsIs, Cond.selects RX6 yX6_orderAsIs yX6_orderAsIs, Cond.code yX6_orderAsIs cX6_orderAsIs 2 none, Cond.fieldLink RX6 31 "PaperLayersModel" "order" "[I", Cond.methodLink RX6 117 yX6_liftedBy, Cond.instanceMethod yX6_liftedBy, Cond.selects RX6 yX6_liftedBy yX6_liftedBy, Cond.code yX6_liftedBy cX6_liftedBy 7 (some .int), Cond.methodLink RX6 111 yX6_isOf, Cond.static yX6_isOf, Cond.code yX6_isOf cX6_isOf 2 (some .boolean)]
def wsX6_does_r2 : List Cond := [Cond.methodLink RX6 114 yX6_gripOf, Cond.instanceMethod yX6_gripOf, Cond.selects RX6 yX6_gripOf yX6_gripOf, Cond.code yX6_gripOf cX6_gripOf 2 (some .int), Cond.fieldLink RX6 19 "PaperLayersModel" "kind" "[I", Cond.fieldLink RX6 22 "PaperLayersModel" "hold" "[I", Cond.methodLink RX6 158 yX6_takeOff, Cond.instanceMethod yX6_takeOff, Cond.selects RX6 yX6_takeOff yX6_takeOff, Cond.code yX6_takeOff cX6_takeOff 3 (some .int), Cond.fieldLink RX6 25 "PaperLayersModel" "advice" "[I", Cond.methodLink RX6 150 yX6_putOn, Cond.instanceMethod yX6_putOn, Cond.selects RX6 yX6_putOn yX6_putOn, Cond.code yX6_putOn cX6_putOn 5 none]
def wsX6_does : List Cond := .code yX6_does cX6_does 3 (some .boolean) :: ((wsX6_does_r1 ++ wsX6_does_r2) ++ wsX60)
def wsX6_goDays_r1 : List Cond := [Cond.fieldLink RX6 170 "PaperLayersModel" "often" "I", Cond.fieldLink RX6 16 "PaperLayersModel" "cells" "[I", Cond.methodLink RX6 173 yX6_does, Cond.instanceMethod yX6_does, Cond.selects RX6 yX6_does yX6_does, Cond.initialized RX6, Cond.code yX6_does cX6_does 3 (some .boolean), Cond.fieldLink RX6 86 "PaperLayersModel" "warmNow" "I", Cond.fieldLink RX6 92 "PaperLayersModel" "dampNow" "I", Cond.fieldLink RX6 56 "PaperLayersModel" "layers" "I", Cond.methodLink RX6 154 yX6_mayPeel, Cond.instanceMethod yX6_mayPeel, Cond.selects RX6 yX6_mayPeel yX6_mayPeel, Cond.code yX6_mayPeel cX6_mayPeel 1 (some .boolean), Cond.methodLink RX6 134 yX6_liftedNow, Cond.instanceMethod yX6_liftedNow, Cond.selects RX6 yX6_liftedNow yX6_liftedNow, Cond.code yX6_liftedNow cX6_liftedNow 1 (some .int), Cond.methodLink RX6 128 yX6_orderAsIs, Cond.instanceMethod yX6_orderAsIs, Cond.selects RX6 yX6_orderAsIs yX6_orderAsIs, Cond.code yX6_orderAsIs cX6_orderAsIs 2 none, Cond.fieldLink RX6 31 "PaperLayersModel" "order" "[I", Cond.methodLink RX6 117 yX6_liftedBy]
def wsX6_goDays_r2 : List Cond := [Cond.instanceMethod yX6_liftedBy, Cond.selects RX6 yX6_liftedBy yX6_liftedBy, Cond.code yX6_liftedBy cX6_liftedBy 7 (some .int), Cond.methodLink RX6 111 yX6_isOf, Cond.static yX6_isOf, Cond.code yX6_isOf cX6_isOf 2 (some .boolean), Cond.methodLink RX6 114 yX6_gripOf, Cond.instanceMethod yX6_gripOf, Cond.selects RX6 yX6_gripOf yX6_gripOf, Cond.code yX6_gripOf cX6_gripOf 2 (some .int), Cond.fieldLink RX6 19 "PaperLayersModel" "kind" "[I", Cond.fieldLink RX6 22 "PaperLayersModel" "hold" "[I", Cond.methodLink RX6 158 yX6_takeOff, Cond.instanceMethod yX6_takeOff, Cond.selects RX6 yX6_takeOff yX6_takeOff, Cond.code yX6_takeOff cX6_takeOff 3 (some .int), Cond.fieldLink RX6 25 "PaperLayersModel" "advice" "[I", Cond.methodLink RX6 150 yX6_putOn, Cond.instanceMethod yX6_putOn, Cond.selects RX6 yX6_putOn yX6_putOn, Cond.code yX6_putOn cX6_putOn 5 none, Cond.methodLink RX6 138 yX6_heardNow, Cond.instanceMethod yX6_heardNow, Cond.selects RX6 yX6_heardNow yX6_heardNow]
def wsX6_goDays_r3 : List Cond := [Cond.code yX6_heardNow cX6_heardNow 1 (some .int), Cond.methodLink RX6 121 yX6_heardBy, Cond.instanceMethod yX6_heardBy, Cond.selects RX6 yX6_heardBy yX6_heardBy, Cond.code yX6_heardBy cX6_heardBy 8 (some .int)]
def wsX6_goDays : List Cond := .code yX6_goDays cX6_goDays 4 (some .int) :: ((wsX6_goDays_r1 ++ (wsX6_goDays_r2 ++ wsX6_goDays_r3)) ++ wsX60)
def wsX6_tellDays_r1 : List Cond := [Cond.fieldLink RX6 86 "PaperLayersModel" "warmNow" "I", Cond.fieldLink RX6 92 "PaperLayersModel" "dampNow" "I", Cond.fieldLink RX6 56 "PaperLayersModel" "layers" "I", Cond.fieldLink RX6 170 "PaperLayersModel" "often" "I", Cond.methodLink RX6 128 yX6_orderAsIs, Cond.instanceMethod yX6_orderAsIs, Cond.selects RX6 yX6_orderAsIs yX6_orderAsIs, Cond.initialized RX6, Cond.code yX6_orderAsIs cX6_orderAsIs 2 none, Cond.fieldLink RX6 31 "PaperLayersModel" "order" "[I", Cond.methodLink RX6 144 yX6_counselBy, Cond.instanceMethod yX6_counselBy, Cond.selects RX6 yX6_counselBy yX6_counselBy, Cond.code yX6_counselBy cX6_counselBy 9 (some .int), Cond.fieldLink RX6 25 "PaperLayersModel" "advice" "[I", Cond.methodLink RX6 121 yX6_heardBy, Cond.instanceMethod yX6_heardBy, Cond.selects RX6 yX6_heardBy yX6_heardBy, Cond.code yX6_heardBy cX6_heardBy 8 (some .int), Cond.fieldLink RX6 19 "PaperLayersModel" "kind" "[I", Cond.methodLink RX6 117 yX6_liftedBy, Cond.instanceMethod yX6_liftedBy, Cond.selects RX6 yX6_liftedBy yX6_liftedBy, Cond.code yX6_liftedBy cX6_liftedBy 7 (some .int)]
def wsX6_tellDays_r2 : List Cond := [Cond.methodLink RX6 111 yX6_isOf, Cond.static yX6_isOf, Cond.code yX6_isOf cX6_isOf 2 (some .boolean), Cond.methodLink RX6 114 yX6_gripOf, Cond.instanceMethod yX6_gripOf, Cond.selects RX6 yX6_gripOf yX6_gripOf, Cond.code yX6_gripOf cX6_gripOf 2 (some .int), Cond.fieldLink RX6 22 "PaperLayersModel" "hold" "[I", Cond.methodLink RX6 124 yX6_givers, Cond.instanceMethod yX6_givers, Cond.selects RX6 yX6_givers yX6_givers, Cond.code yX6_givers cX6_givers 5 (some .int), Cond.methodLink RX6 138 yX6_heardNow, Cond.instanceMethod yX6_heardNow, Cond.selects RX6 yX6_heardNow yX6_heardNow, Cond.code yX6_heardNow cX6_heardNow 1 (some .int)]
def wsX6_tellDays : List Cond := .code yX6_tellDays cX6_tellDays 2 (some .int) :: ((wsX6_tellDays_r1 ++ wsX6_tellDays_r2) ++ wsX60)
def wsX6_days_r1 : List Cond := [Cond.fieldLink RX6 46 "PaperLayersModel" "fault" "I", Cond.fieldLink RX6 56 "PaperLayersModel" "layers" "I", Cond.fieldLink RX6 16 "PaperLayersModel" "cells" "[I", Cond.methodLink RX6 62 yX6_isSheet, Cond.static yX6_isSheet, Cond.initialized RX6, Cond.code yX6_isSheet cX6_isSheet 1 (some .boolean), Cond.methodLink RX6 52 yX6_within, Cond.static yX6_within, Cond.code yX6_within cX6_within 3 (some .boolean), Cond.methodLink RX6 66 yX6_isSort, Cond.static yX6_isSort, Cond.code yX6_isSort cX6_isSort 1 (some .boolean), Cond.methodLink RX6 69 yX6_against, Cond.instanceMethod yX6_against, Cond.selects RX6 yX6_against yX6_against, Cond.code yX6_against cX6_against 5 (some .int), Cond.fieldLink RX6 9 "PaperLayersModel" "sorts" "[I", Cond.fieldLink RX6 13 "PaperLayersModel" "sheetLong" "[I", Cond.methodLink RX6 73 yX6_fails, Cond.instanceMethod yX6_fails, Cond.selects RX6 yX6_fails yX6_fails, Cond.code yX6_fails cX6_fails 2 (some .int), Cond.methodLink RX6 176 yX6_isPair]
def wsX6_days_r2 : List Cond := [Cond.static yX6_isPair, Cond.code yX6_isPair cX6_isPair 2 (some .boolean), Cond.methodLink RX6 141 yX6_isDigit, Cond.static yX6_isDigit, Cond.code yX6_isDigit cX6_isDigit 1 (some .boolean), Cond.methodLink RX6 179 yX6_keep, Cond.instanceMethod yX6_keep, Cond.selects RX6 yX6_keep yX6_keep, Cond.code yX6_keep cX6_keep 2 none, Cond.fieldLink RX6 161 "PaperLayersModel" "keptLayers" "I", Cond.fieldLink RX6 86 "PaperLayersModel" "warmNow" "I", Cond.fieldLink RX6 164 "PaperLayersModel" "keptWarm" "I", Cond.fieldLink RX6 92 "PaperLayersModel" "dampNow" "I", Cond.fieldLink RX6 167 "PaperLayersModel" "keptDamp" "I", Cond.fieldLink RX6 34 "PaperLayersModel" "kept" "[I", Cond.fieldLink RX6 19 "PaperLayersModel" "kind" "[I", Cond.fieldLink RX6 22 "PaperLayersModel" "hold" "[I", Cond.fieldLink RX6 25 "PaperLayersModel" "advice" "[I", Cond.methodLink RX6 182 yX6_goDays, Cond.instanceMethod yX6_goDays, Cond.selects RX6 yX6_goDays yX6_goDays, Cond.code yX6_goDays cX6_goDays 4 (some .int), Cond.fieldLink RX6 170 "PaperLayersModel" "often" "I", Cond.methodLink RX6 173 yX6_does]
def wsX6_days_r3 : List Cond := [Cond.instanceMethod yX6_does, Cond.selects RX6 yX6_does yX6_does, Cond.code yX6_does cX6_does 3 (some .boolean), Cond.methodLink RX6 154 yX6_mayPeel, Cond.instanceMethod yX6_mayPeel, Cond.selects RX6 yX6_mayPeel yX6_mayPeel, Cond.code yX6_mayPeel cX6_mayPeel 1 (some .boolean), Cond.methodLink RX6 134 yX6_liftedNow, Cond.instanceMethod yX6_liftedNow, Cond.selects RX6 yX6_liftedNow yX6_liftedNow, Cond.code yX6_liftedNow cX6_liftedNow 1 (some .int), Cond.methodLink RX6 128 yX6_orderAsIs, Cond.instanceMethod yX6_orderAsIs, Cond.selects RX6 yX6_orderAsIs yX6_orderAsIs, Cond.code yX6_orderAsIs cX6_orderAsIs 2 none, Cond.fieldLink RX6 31 "PaperLayersModel" "order" "[I", Cond.methodLink RX6 117 yX6_liftedBy, Cond.instanceMethod yX6_liftedBy, Cond.selects RX6 yX6_liftedBy yX6_liftedBy, Cond.code yX6_liftedBy cX6_liftedBy 7 (some .int), Cond.methodLink RX6 111 yX6_isOf, Cond.static yX6_isOf, Cond.code yX6_isOf cX6_isOf 2 (some .boolean), Cond.methodLink RX6 114 yX6_gripOf]
def wsX6_days_r4 : List Cond := [Cond.instanceMethod yX6_gripOf, Cond.selects RX6 yX6_gripOf yX6_gripOf, Cond.code yX6_gripOf cX6_gripOf 2 (some .int), Cond.methodLink RX6 158 yX6_takeOff, Cond.instanceMethod yX6_takeOff, Cond.selects RX6 yX6_takeOff yX6_takeOff, Cond.code yX6_takeOff cX6_takeOff 3 (some .int), Cond.methodLink RX6 150 yX6_putOn, Cond.instanceMethod yX6_putOn, Cond.selects RX6 yX6_putOn yX6_putOn, Cond.code yX6_putOn cX6_putOn 5 none, Cond.methodLink RX6 138 yX6_heardNow, Cond.instanceMethod yX6_heardNow, Cond.selects RX6 yX6_heardNow yX6_heardNow, Cond.code yX6_heardNow cX6_heardNow 1 (some .int), Cond.methodLink RX6 121 yX6_heardBy, Cond.instanceMethod yX6_heardBy, Cond.selects RX6 yX6_heardBy yX6_heardBy, Cond.code yX6_heardBy cX6_heardBy 8 (some .int), Cond.methodLink RX6 185 yX6_tellDays, Cond.instanceMethod yX6_tellDays, Cond.selects RX6 yX6_tellDays yX6_tellDays, Cond.code yX6_tellDays cX6_tellDays 2 (some .int), Cond.methodLink RX6 144 yX6_counselBy]
def wsX6_days_r5 : List Cond := [Cond.instanceMethod yX6_counselBy, Cond.selects RX6 yX6_counselBy yX6_counselBy, Cond.code yX6_counselBy cX6_counselBy 9 (some .int), Cond.methodLink RX6 124 yX6_givers, Cond.instanceMethod yX6_givers, Cond.selects RX6 yX6_givers yX6_givers, Cond.code yX6_givers cX6_givers 5 (some .int), Cond.methodLink RX6 188 yX6_putBack, Cond.instanceMethod yX6_putBack, Cond.selects RX6 yX6_putBack yX6_putBack, Cond.code yX6_putBack cX6_putBack 2 none]
def wsX6_days : List Cond := .code yX6_days cX6_days 10 (some .int) :: ((wsX6_days_r1 ++ (wsX6_days_r2 ++ (wsX6_days_r3 ++ (wsX6_days_r4 ++ wsX6_days_r5)))) ++ wsX60)
def wsX6_needs_r1 : List Cond := [Cond.fieldLink RX6 92 "PaperLayersModel" "dampNow" "I", Cond.methodLink RX6 131 yX6_isLayer, Cond.instanceMethod yX6_isLayer, Cond.selects RX6 yX6_isLayer yX6_isLayer, Cond.initialized RX6, Cond.code yX6_isLayer cX6_isLayer 2 (some .boolean), Cond.fieldLink RX6 56 "PaperLayersModel" "layers" "I", Cond.methodLink RX6 128 yX6_orderAsIs, Cond.instanceMethod yX6_orderAsIs, Cond.selects RX6 yX6_orderAsIs yX6_orderAsIs, Cond.code yX6_orderAsIs cX6_orderAsIs 2 none, Cond.fieldLink RX6 31 "PaperLayersModel" "order" "[I", Cond.methodLink RX6 121 yX6_heardBy, Cond.instanceMethod yX6_heardBy, Cond.selects RX6 yX6_heardBy yX6_heardBy, Cond.code yX6_heardBy cX6_heardBy 8 (some .int), Cond.fieldLink RX6 19 "PaperLayersModel" "kind" "[I", Cond.methodLink RX6 117 yX6_liftedBy, Cond.instanceMethod yX6_liftedBy, Cond.selects RX6 yX6_liftedBy yX6_liftedBy, Cond.code yX6_liftedBy cX6_liftedBy 7 (some .int), Cond.methodLink RX6 111 yX6_isOf, Cond.static yX6_isOf, Cond.code yX6_isOf cX6_isOf 2 (some .boolean)]
def wsX6_needs_r2 : List Cond := [Cond.methodLink RX6 114 yX6_gripOf, Cond.instanceMethod yX6_gripOf, Cond.selects RX6 yX6_gripOf yX6_gripOf, Cond.code yX6_gripOf cX6_gripOf 2 (some .int), Cond.fieldLink RX6 22 "PaperLayersModel" "hold" "[I"]
def wsX6_needs : List Cond := .code yX6_needs cX6_needs 3 (some .int) :: ((wsX6_needs_r1 ++ wsX6_needs_r2) ++ wsX60)
def wsX6_gets_r1 : List Cond := [Cond.fieldLink RX6 56 "PaperLayersModel" "layers" "I", Cond.fieldLink RX6 92 "PaperLayersModel" "dampNow" "I", Cond.methodLink RX6 141 yX6_isDigit, Cond.static yX6_isDigit, Cond.initialized RX6, Cond.code yX6_isDigit cX6_isDigit 1 (some .boolean), Cond.methodLink RX6 52 yX6_within, Cond.static yX6_within, Cond.code yX6_within cX6_within 3 (some .boolean), Cond.methodLink RX6 128 yX6_orderAsIs, Cond.instanceMethod yX6_orderAsIs, Cond.selects RX6 yX6_orderAsIs yX6_orderAsIs, Cond.code yX6_orderAsIs cX6_orderAsIs 2 none, Cond.fieldLink RX6 31 "PaperLayersModel" "order" "[I", Cond.methodLink RX6 144 yX6_counselBy, Cond.instanceMethod yX6_counselBy, Cond.selects RX6 yX6_counselBy yX6_counselBy, Cond.code yX6_counselBy cX6_counselBy 9 (some .int), Cond.fieldLink RX6 25 "PaperLayersModel" "advice" "[I", Cond.methodLink RX6 121 yX6_heardBy, Cond.instanceMethod yX6_heardBy, Cond.selects RX6 yX6_heardBy yX6_heardBy, Cond.code yX6_heardBy cX6_heardBy 8 (some .int), Cond.fieldLink RX6 19 "PaperLayersModel" "kind" "[I"]
def wsX6_gets_r2 : List Cond := [Cond.methodLink RX6 117 yX6_liftedBy, Cond.instanceMethod yX6_liftedBy, Cond.selects RX6 yX6_liftedBy yX6_liftedBy, Cond.code yX6_liftedBy cX6_liftedBy 7 (some .int), Cond.methodLink RX6 111 yX6_isOf, Cond.static yX6_isOf, Cond.code yX6_isOf cX6_isOf 2 (some .boolean), Cond.methodLink RX6 114 yX6_gripOf, Cond.instanceMethod yX6_gripOf, Cond.selects RX6 yX6_gripOf yX6_gripOf, Cond.code yX6_gripOf cX6_gripOf 2 (some .int), Cond.fieldLink RX6 22 "PaperLayersModel" "hold" "[I", Cond.methodLink RX6 124 yX6_givers, Cond.instanceMethod yX6_givers, Cond.selects RX6 yX6_givers yX6_givers, Cond.code yX6_givers cX6_givers 5 (some .int)]
def wsX6_gets : List Cond := .code yX6_gets cX6_gets 3 (some .int) :: ((wsX6_gets_r1 ++ wsX6_gets_r2) ++ wsX60)
def wsX6_without_r1 : List Cond := [Cond.fieldLink RX6 56 "PaperLayersModel" "layers" "I", Cond.fieldLink RX6 86 "PaperLayersModel" "warmNow" "I", Cond.fieldLink RX6 92 "PaperLayersModel" "dampNow" "I", Cond.methodLink RX6 141 yX6_isDigit, Cond.static yX6_isDigit, Cond.initialized RX6, Cond.code yX6_isDigit cX6_isDigit 1 (some .boolean), Cond.methodLink RX6 52 yX6_within, Cond.static yX6_within, Cond.code yX6_within cX6_within 3 (some .boolean), Cond.methodLink RX6 128 yX6_orderAsIs, Cond.instanceMethod yX6_orderAsIs, Cond.selects RX6 yX6_orderAsIs yX6_orderAsIs, Cond.code yX6_orderAsIs cX6_orderAsIs 2 none, Cond.fieldLink RX6 31 "PaperLayersModel" "order" "[I", Cond.methodLink RX6 147 yX6_size, Cond.static yX6_size, Cond.code yX6_size cX6_size 3 (some .int), Cond.methodLink RX6 144 yX6_counselBy, Cond.instanceMethod yX6_counselBy, Cond.selects RX6 yX6_counselBy yX6_counselBy, Cond.code yX6_counselBy cX6_counselBy 9 (some .int), Cond.fieldLink RX6 25 "PaperLayersModel" "advice" "[I", Cond.methodLink RX6 121 yX6_heardBy]
def wsX6_without_r2 : List Cond := [Cond.instanceMethod yX6_heardBy, Cond.selects RX6 yX6_heardBy yX6_heardBy, Cond.code yX6_heardBy cX6_heardBy 8 (some .int), Cond.fieldLink RX6 19 "PaperLayersModel" "kind" "[I", Cond.methodLink RX6 117 yX6_liftedBy, Cond.instanceMethod yX6_liftedBy, Cond.selects RX6 yX6_liftedBy yX6_liftedBy, Cond.code yX6_liftedBy cX6_liftedBy 7 (some .int), Cond.methodLink RX6 111 yX6_isOf, Cond.static yX6_isOf, Cond.code yX6_isOf cX6_isOf 2 (some .boolean), Cond.methodLink RX6 114 yX6_gripOf, Cond.instanceMethod yX6_gripOf, Cond.selects RX6 yX6_gripOf yX6_gripOf, Cond.code yX6_gripOf cX6_gripOf 2 (some .int), Cond.fieldLink RX6 22 "PaperLayersModel" "hold" "[I", Cond.methodLink RX6 124 yX6_givers, Cond.instanceMethod yX6_givers, Cond.selects RX6 yX6_givers yX6_givers, Cond.code yX6_givers cX6_givers 5 (some .int)]
def wsX6_without : List Cond := .code yX6_without cX6_without 5 (some .int) :: ((wsX6_without_r1 ++ wsX6_without_r2) ++ wsX60)
def wsX6_reading : List Cond := .code yX6_reading cX6_reading 4 (some .int) :: ([.fieldLink RX6 56 "PaperLayersModel" "layers" "I", .fieldLink RX6 98 "PaperLayersModel" "readings" "I", .fieldLink RX6 37 "PaperLayersModel" "readWarms" "[I", .fieldLink RX6 40 "PaperLayersModel" "readDamps" "[I", .fieldLink RX6 43 "PaperLayersModel" "readCounsel" "[I", .methodLink RX6 52 yX6_within, .static yX6_within, .initialized RX6, .code yX6_within cX6_within 3 (some .boolean), .methodLink RX6 141 yX6_isDigit, .static yX6_isDigit, .code yX6_isDigit cX6_isDigit 1 (some .boolean)] ++ wsX60)
def wsX6_back : List Cond := .code yX6_back cX6_back 2 (some .int) :: ([.fieldLink RX6 98 "PaperLayersModel" "readings" "I", .methodLink RX6 52 yX6_within, .static yX6_within, .initialized RX6, .code yX6_within cX6_within 3 (some .boolean)] ++ wsX60)
def wsX6_areSo_r1 : List Cond := [Cond.fieldLink RX6 98 "PaperLayersModel" "readings" "I", Cond.fieldLink RX6 37 "PaperLayersModel" "readWarms" "[I", Cond.fieldLink RX6 40 "PaperLayersModel" "readDamps" "[I", Cond.fieldLink RX6 43 "PaperLayersModel" "readCounsel" "[I", Cond.methodLink RX6 144 yX6_counselBy, Cond.instanceMethod yX6_counselBy, Cond.selects RX6 yX6_counselBy yX6_counselBy, Cond.initialized RX6, Cond.code yX6_counselBy cX6_counselBy 9 (some .int), Cond.fieldLink RX6 56 "PaperLayersModel" "layers" "I", Cond.fieldLink RX6 31 "PaperLayersModel" "order" "[I", Cond.fieldLink RX6 25 "PaperLayersModel" "advice" "[I", Cond.methodLink RX6 121 yX6_heardBy, Cond.instanceMethod yX6_heardBy, Cond.selects RX6 yX6_heardBy yX6_heardBy, Cond.code yX6_heardBy cX6_heardBy 8 (some .int), Cond.fieldLink RX6 19 "PaperLayersModel" "kind" "[I", Cond.methodLink RX6 117 yX6_liftedBy, Cond.instanceMethod yX6_liftedBy, Cond.selects RX6 yX6_liftedBy yX6_liftedBy, Cond.code yX6_liftedBy cX6_liftedBy 7 (some .int), Cond.methodLink RX6 111 yX6_isOf, Cond.static yX6_isOf, Cond.code yX6_isOf cX6_isOf 2 (some .boolean)]
def wsX6_areSo_r2 : List Cond := [Cond.methodLink RX6 114 yX6_gripOf, Cond.instanceMethod yX6_gripOf, Cond.selects RX6 yX6_gripOf yX6_gripOf, Cond.code yX6_gripOf cX6_gripOf 2 (some .int), Cond.fieldLink RX6 22 "PaperLayersModel" "hold" "[I", Cond.methodLink RX6 124 yX6_givers, Cond.instanceMethod yX6_givers, Cond.selects RX6 yX6_givers yX6_givers, Cond.code yX6_givers cX6_givers 5 (some .int)]
def wsX6_areSo : List Cond := .code yX6_areSo cX6_areSo 2 (some .boolean) :: ((wsX6_areSo_r1 ++ wsX6_areSo_r2) ++ wsX60)
def wsX6_ordersOf : List Cond := .code yX6_ordersOf cX6_ordersOf 3 (some .int) :: ([])
def wsX6_orderBy : List Cond := .code yX6_orderBy cX6_orderBy 8 none :: ([.fieldLink RX6 56 "PaperLayersModel" "layers" "I", .fieldLink RX6 31 "PaperLayersModel" "order" "[I", .methodLink RX6 191 yX6_ordersOf, .static yX6_ordersOf, .initialized RX6, .code yX6_ordersOf cX6_ordersOf 3 (some .int), .methodLink RX6 111 yX6_isOf, .static yX6_isOf, .code yX6_isOf cX6_isOf 2 (some .boolean)] ++ wsX60)
def wsX6_orders_r1 : List Cond := [Cond.fieldLink RX6 56 "PaperLayersModel" "layers" "I", Cond.fieldLink RX6 31 "PaperLayersModel" "order" "[I", Cond.methodLink RX6 52 yX6_within, Cond.static yX6_within, Cond.initialized RX6, Cond.code yX6_within cX6_within 3 (some .boolean), Cond.methodLink RX6 191 yX6_ordersOf, Cond.static yX6_ordersOf, Cond.code yX6_ordersOf cX6_ordersOf 3 (some .int), Cond.methodLink RX6 194 yX6_orderBy, Cond.instanceMethod yX6_orderBy, Cond.selects RX6 yX6_orderBy yX6_orderBy, Cond.code yX6_orderBy cX6_orderBy 8 none, Cond.methodLink RX6 111 yX6_isOf, Cond.static yX6_isOf, Cond.code yX6_isOf cX6_isOf 2 (some .boolean), Cond.methodLink RX6 198 yX6_areSo, Cond.instanceMethod yX6_areSo, Cond.selects RX6 yX6_areSo yX6_areSo, Cond.code yX6_areSo cX6_areSo 2 (some .boolean), Cond.fieldLink RX6 98 "PaperLayersModel" "readings" "I", Cond.fieldLink RX6 37 "PaperLayersModel" "readWarms" "[I", Cond.fieldLink RX6 40 "PaperLayersModel" "readDamps" "[I", Cond.fieldLink RX6 43 "PaperLayersModel" "readCounsel" "[I"]
def wsX6_orders_r2 : List Cond := [Cond.methodLink RX6 144 yX6_counselBy, Cond.instanceMethod yX6_counselBy, Cond.selects RX6 yX6_counselBy yX6_counselBy, Cond.code yX6_counselBy cX6_counselBy 9 (some .int), Cond.fieldLink RX6 25 "PaperLayersModel" "advice" "[I", Cond.methodLink RX6 121 yX6_heardBy, Cond.instanceMethod yX6_heardBy, Cond.selects RX6 yX6_heardBy yX6_heardBy, Cond.code yX6_heardBy cX6_heardBy 8 (some .int), Cond.fieldLink RX6 19 "PaperLayersModel" "kind" "[I", Cond.methodLink RX6 117 yX6_liftedBy, Cond.instanceMethod yX6_liftedBy, Cond.selects RX6 yX6_liftedBy yX6_liftedBy, Cond.code yX6_liftedBy cX6_liftedBy 7 (some .int), Cond.methodLink RX6 114 yX6_gripOf, Cond.instanceMethod yX6_gripOf, Cond.selects RX6 yX6_gripOf yX6_gripOf, Cond.code yX6_gripOf cX6_gripOf 2 (some .int), Cond.fieldLink RX6 22 "PaperLayersModel" "hold" "[I", Cond.methodLink RX6 124 yX6_givers, Cond.instanceMethod yX6_givers, Cond.selects RX6 yX6_givers yX6_givers, Cond.code yX6_givers cX6_givers 5 (some .int)]
def wsX6_orders : List Cond := .code yX6_orders cX6_orders 5 (some .int) :: ((wsX6_orders_r1 ++ wsX6_orders_r2) ++ wsX60)
def wsX6_holds_r1 : List Cond := [Cond.fieldLink RX6 22 "PaperLayersModel" "hold" "[I", Cond.methodLink RX6 131 yX6_isLayer, Cond.instanceMethod yX6_isLayer, Cond.selects RX6 yX6_isLayer yX6_isLayer, Cond.initialized RX6, Cond.code yX6_isLayer cX6_isLayer 2 (some .boolean), Cond.fieldLink RX6 56 "PaperLayersModel" "layers" "I", Cond.methodLink RX6 128 yX6_orderAsIs, Cond.instanceMethod yX6_orderAsIs, Cond.selects RX6 yX6_orderAsIs yX6_orderAsIs, Cond.code yX6_orderAsIs cX6_orderAsIs 2 none, Cond.fieldLink RX6 31 "PaperLayersModel" "order" "[I", Cond.methodLink RX6 198 yX6_areSo, Cond.instanceMethod yX6_areSo, Cond.selects RX6 yX6_areSo yX6_areSo, Cond.code yX6_areSo cX6_areSo 2 (some .boolean), Cond.fieldLink RX6 98 "PaperLayersModel" "readings" "I", Cond.fieldLink RX6 37 "PaperLayersModel" "readWarms" "[I", Cond.fieldLink RX6 40 "PaperLayersModel" "readDamps" "[I", Cond.fieldLink RX6 43 "PaperLayersModel" "readCounsel" "[I", Cond.methodLink RX6 144 yX6_counselBy, Cond.instanceMethod yX6_counselBy, Cond.selects RX6 yX6_counselBy yX6_counselBy, Cond.code yX6_counselBy cX6_counselBy 9 (some .int)]
def wsX6_holds_r2 : List Cond := [Cond.fieldLink RX6 25 "PaperLayersModel" "advice" "[I", Cond.methodLink RX6 121 yX6_heardBy, Cond.instanceMethod yX6_heardBy, Cond.selects RX6 yX6_heardBy yX6_heardBy, Cond.code yX6_heardBy cX6_heardBy 8 (some .int), Cond.fieldLink RX6 19 "PaperLayersModel" "kind" "[I", Cond.methodLink RX6 117 yX6_liftedBy, Cond.instanceMethod yX6_liftedBy, Cond.selects RX6 yX6_liftedBy yX6_liftedBy, Cond.code yX6_liftedBy cX6_liftedBy 7 (some .int), Cond.methodLink RX6 111 yX6_isOf, Cond.static yX6_isOf, Cond.code yX6_isOf cX6_isOf 2 (some .boolean), Cond.methodLink RX6 114 yX6_gripOf, Cond.instanceMethod yX6_gripOf, Cond.selects RX6 yX6_gripOf yX6_gripOf, Cond.code yX6_gripOf cX6_gripOf 2 (some .int), Cond.methodLink RX6 124 yX6_givers, Cond.instanceMethod yX6_givers, Cond.selects RX6 yX6_givers yX6_givers, Cond.code yX6_givers cX6_givers 5 (some .int)]
def wsX6_holds : List Cond := .code yX6_holds cX6_holds 5 (some .int) :: ((wsX6_holds_r1 ++ wsX6_holds_r2) ++ wsX60)
def wsX6_advices_r1 : List Cond := [Cond.fieldLink RX6 25 "PaperLayersModel" "advice" "[I", Cond.methodLink RX6 131 yX6_isLayer, Cond.instanceMethod yX6_isLayer, Cond.selects RX6 yX6_isLayer yX6_isLayer, Cond.initialized RX6, Cond.code yX6_isLayer cX6_isLayer 2 (some .boolean), Cond.fieldLink RX6 56 "PaperLayersModel" "layers" "I", Cond.methodLink RX6 128 yX6_orderAsIs, Cond.instanceMethod yX6_orderAsIs, Cond.selects RX6 yX6_orderAsIs yX6_orderAsIs, Cond.code yX6_orderAsIs cX6_orderAsIs 2 none, Cond.fieldLink RX6 31 "PaperLayersModel" "order" "[I", Cond.methodLink RX6 198 yX6_areSo, Cond.instanceMethod yX6_areSo, Cond.selects RX6 yX6_areSo yX6_areSo, Cond.code yX6_areSo cX6_areSo 2 (some .boolean), Cond.fieldLink RX6 98 "PaperLayersModel" "readings" "I", Cond.fieldLink RX6 37 "PaperLayersModel" "readWarms" "[I", Cond.fieldLink RX6 40 "PaperLayersModel" "readDamps" "[I", Cond.fieldLink RX6 43 "PaperLayersModel" "readCounsel" "[I", Cond.methodLink RX6 144 yX6_counselBy, Cond.instanceMethod yX6_counselBy, Cond.selects RX6 yX6_counselBy yX6_counselBy, Cond.code yX6_counselBy cX6_counselBy 9 (some .int)]
def wsX6_advices_r2 : List Cond := [Cond.methodLink RX6 121 yX6_heardBy, Cond.instanceMethod yX6_heardBy, Cond.selects RX6 yX6_heardBy yX6_heardBy, Cond.code yX6_heardBy cX6_heardBy 8 (some .int), Cond.fieldLink RX6 19 "PaperLayersModel" "kind" "[I", Cond.methodLink RX6 117 yX6_liftedBy, Cond.instanceMethod yX6_liftedBy, Cond.selects RX6 yX6_liftedBy yX6_liftedBy, Cond.code yX6_liftedBy cX6_liftedBy 7 (some .int), Cond.methodLink RX6 111 yX6_isOf, Cond.static yX6_isOf, Cond.code yX6_isOf cX6_isOf 2 (some .boolean), Cond.methodLink RX6 114 yX6_gripOf, Cond.instanceMethod yX6_gripOf, Cond.selects RX6 yX6_gripOf yX6_gripOf, Cond.code yX6_gripOf cX6_gripOf 2 (some .int), Cond.fieldLink RX6 22 "PaperLayersModel" "hold" "[I", Cond.methodLink RX6 124 yX6_givers, Cond.instanceMethod yX6_givers, Cond.selects RX6 yX6_givers yX6_givers, Cond.code yX6_givers cX6_givers 5 (some .int)]
def wsX6_advices : List Cond := .code yX6_advices cX6_advices 5 (some .int) :: ((wsX6_advices_r1 ++ wsX6_advices_r2) ++ wsX60)
def wsX6_kinds_r1 : List Cond := [Cond.fieldLink RX6 19 "PaperLayersModel" "kind" "[I", Cond.methodLink RX6 131 yX6_isLayer, Cond.instanceMethod yX6_isLayer, Cond.selects RX6 yX6_isLayer yX6_isLayer, Cond.initialized RX6, Cond.code yX6_isLayer cX6_isLayer 2 (some .boolean), Cond.fieldLink RX6 56 "PaperLayersModel" "layers" "I", Cond.methodLink RX6 128 yX6_orderAsIs, Cond.instanceMethod yX6_orderAsIs, Cond.selects RX6 yX6_orderAsIs yX6_orderAsIs, Cond.code yX6_orderAsIs cX6_orderAsIs 2 none, Cond.fieldLink RX6 31 "PaperLayersModel" "order" "[I", Cond.methodLink RX6 198 yX6_areSo, Cond.instanceMethod yX6_areSo, Cond.selects RX6 yX6_areSo yX6_areSo, Cond.code yX6_areSo cX6_areSo 2 (some .boolean), Cond.fieldLink RX6 98 "PaperLayersModel" "readings" "I", Cond.fieldLink RX6 37 "PaperLayersModel" "readWarms" "[I", Cond.fieldLink RX6 40 "PaperLayersModel" "readDamps" "[I", Cond.fieldLink RX6 43 "PaperLayersModel" "readCounsel" "[I", Cond.methodLink RX6 144 yX6_counselBy, Cond.instanceMethod yX6_counselBy, Cond.selects RX6 yX6_counselBy yX6_counselBy, Cond.code yX6_counselBy cX6_counselBy 9 (some .int)]
def wsX6_kinds_r2 : List Cond := [Cond.fieldLink RX6 25 "PaperLayersModel" "advice" "[I", Cond.methodLink RX6 121 yX6_heardBy, Cond.instanceMethod yX6_heardBy, Cond.selects RX6 yX6_heardBy yX6_heardBy, Cond.code yX6_heardBy cX6_heardBy 8 (some .int), Cond.methodLink RX6 117 yX6_liftedBy, Cond.instanceMethod yX6_liftedBy, Cond.selects RX6 yX6_liftedBy yX6_liftedBy, Cond.code yX6_liftedBy cX6_liftedBy 7 (some .int), Cond.methodLink RX6 111 yX6_isOf, Cond.static yX6_isOf, Cond.code yX6_isOf cX6_isOf 2 (some .boolean), Cond.methodLink RX6 114 yX6_gripOf, Cond.instanceMethod yX6_gripOf, Cond.selects RX6 yX6_gripOf yX6_gripOf, Cond.code yX6_gripOf cX6_gripOf 2 (some .int), Cond.fieldLink RX6 22 "PaperLayersModel" "hold" "[I", Cond.methodLink RX6 124 yX6_givers, Cond.instanceMethod yX6_givers, Cond.selects RX6 yX6_givers yX6_givers, Cond.code yX6_givers cX6_givers 5 (some .int)]
def wsX6_kinds : List Cond := .code yX6_kinds cX6_kinds 5 (some .int) :: ((wsX6_kinds_r1 ++ wsX6_kinds_r2) ++ wsX60)
def wsX6_inLeastTerms : List Cond := .code yX6_inLeastTerms cX6_inLeastTerms 11 (some .long) :: ([])
def wsX6_odds_r1 : List Cond := [Cond.constantLong RX6 50 (-9223372036854775808), Cond.fieldLink RX6 92 "PaperLayersModel" "dampNow" "I", Cond.constantLong RX6 201 (21), Cond.methodLink RX6 131 yX6_isLayer, Cond.instanceMethod yX6_isLayer, Cond.selects RX6 yX6_isLayer yX6_isLayer, Cond.initialized RX6, Cond.code yX6_isLayer cX6_isLayer 2 (some .boolean), Cond.fieldLink RX6 56 "PaperLayersModel" "layers" "I", Cond.methodLink RX6 52 yX6_within, Cond.static yX6_within, Cond.code yX6_within cX6_within 3 (some .boolean), Cond.methodLink RX6 128 yX6_orderAsIs, Cond.instanceMethod yX6_orderAsIs, Cond.selects RX6 yX6_orderAsIs yX6_orderAsIs, Cond.code yX6_orderAsIs cX6_orderAsIs 2 none, Cond.fieldLink RX6 31 "PaperLayersModel" "order" "[I", Cond.methodLink RX6 121 yX6_heardBy, Cond.instanceMethod yX6_heardBy, Cond.selects RX6 yX6_heardBy yX6_heardBy, Cond.code yX6_heardBy cX6_heardBy 8 (some .int), Cond.fieldLink RX6 19 "PaperLayersModel" "kind" "[I", Cond.methodLink RX6 117 yX6_liftedBy, Cond.instanceMethod yX6_liftedBy]
def wsX6_odds_r2 : List Cond := [Cond.selects RX6 yX6_liftedBy yX6_liftedBy, Cond.code yX6_liftedBy cX6_liftedBy 7 (some .int), Cond.methodLink RX6 111 yX6_isOf, Cond.static yX6_isOf, Cond.code yX6_isOf cX6_isOf 2 (some .boolean), Cond.methodLink RX6 114 yX6_gripOf, Cond.instanceMethod yX6_gripOf, Cond.selects RX6 yX6_gripOf yX6_gripOf, Cond.code yX6_gripOf cX6_gripOf 2 (some .int), Cond.fieldLink RX6 22 "PaperLayersModel" "hold" "[I", Cond.methodLink RX6 203 yX6_inLeastTerms, Cond.static yX6_inLeastTerms, Cond.code yX6_inLeastTerms cX6_inLeastTerms 11 (some .long)]
def wsX6_odds : List Cond := .code yX6_odds cX6_odds 5 (some .long) :: ((wsX6_odds_r1 ++ wsX6_odds_r2) ++ wsX60)
def wsX6_sheet : List Cond := .code yX6_sheet cX6_sheet 5 (some .int) :: ([.fieldLink RX6 46 "PaperLayersModel" "fault" "I", .fieldLink RX6 9 "PaperLayersModel" "sorts" "[I", .fieldLink RX6 13 "PaperLayersModel" "sheetLong" "[I", .fieldLink RX6 16 "PaperLayersModel" "cells" "[I", .methodLink RX6 62 yX6_isSheet, .static yX6_isSheet, .initialized RX6, .code yX6_isSheet cX6_isSheet 1 (some .boolean), .methodLink RX6 52 yX6_within, .static yX6_within, .code yX6_within cX6_within 3 (some .boolean), .methodLink RX6 66 yX6_isSort, .static yX6_isSort, .code yX6_isSort cX6_isSort 1 (some .boolean), .methodLink RX6 73 yX6_fails, .instanceMethod yX6_fails, .selects RX6 yX6_fails yX6_fails, .code yX6_fails cX6_fails 2 (some .int)] ++ wsX60)
def wsX6_lose : List Cond := .code yX6_lose cX6_lose 3 (some .int) :: ([.fieldLink RX6 9 "PaperLayersModel" "sorts" "[I", .methodLink RX6 62 yX6_isSheet, .static yX6_isSheet, .initialized RX6, .code yX6_isSheet cX6_isSheet 1 (some .boolean), .methodLink RX6 52 yX6_within, .static yX6_within, .code yX6_within cX6_within 3 (some .boolean)] ++ wsX60)
def wsX6_put : List Cond := .code yX6_put cX6_put 4 (some .int) :: ([.fieldLink RX6 46 "PaperLayersModel" "fault" "I", .fieldLink RX6 9 "PaperLayersModel" "sorts" "[I", .fieldLink RX6 13 "PaperLayersModel" "sheetLong" "[I", .fieldLink RX6 16 "PaperLayersModel" "cells" "[I", .methodLink RX6 62 yX6_isSheet, .static yX6_isSheet, .initialized RX6, .code yX6_isSheet cX6_isSheet 1 (some .boolean), .methodLink RX6 52 yX6_within, .static yX6_within, .code yX6_within cX6_within 3 (some .boolean), .methodLink RX6 73 yX6_fails, .instanceMethod yX6_fails, .selects RX6 yX6_fails yX6_fails, .code yX6_fails cX6_fails 2 (some .int)] ++ wsX60)
def wsX6_cell : List Cond := .code yX6_cell cX6_cell 4 (some .long) :: ([.fieldLink RX6 46 "PaperLayersModel" "fault" "I", .constantLong RX6 50 (-9223372036854775808), .fieldLink RX6 9 "PaperLayersModel" "sorts" "[I", .fieldLink RX6 13 "PaperLayersModel" "sheetLong" "[I", .fieldLink RX6 16 "PaperLayersModel" "cells" "[I", .methodLink RX6 62 yX6_isSheet, .static yX6_isSheet, .initialized RX6, .code yX6_isSheet cX6_isSheet 1 (some .boolean), .methodLink RX6 52 yX6_within, .static yX6_within, .code yX6_within cX6_within 3 (some .boolean), .methodLink RX6 66 yX6_isSort, .static yX6_isSort, .code yX6_isSort cX6_isSort 1 (some .boolean), .methodLink RX6 207 yX6_lost, .instanceMethod yX6_lost, .selects RX6 yX6_lost yX6_lost, .code yX6_lost cX6_lost 2 (some .long)] ++ wsX60)
def wsX6_copy : List Cond := .code yX6_copy cX6_copy 10 (some .int) :: ([.fieldLink RX6 46 "PaperLayersModel" "fault" "I", .fieldLink RX6 9 "PaperLayersModel" "sorts" "[I", .fieldLink RX6 13 "PaperLayersModel" "sheetLong" "[I", .fieldLink RX6 16 "PaperLayersModel" "cells" "[I", .methodLink RX6 62 yX6_isSheet, .static yX6_isSheet, .initialized RX6, .code yX6_isSheet cX6_isSheet 1 (some .boolean), .methodLink RX6 52 yX6_within, .static yX6_within, .code yX6_within cX6_within 3 (some .boolean), .methodLink RX6 73 yX6_fails, .instanceMethod yX6_fails, .selects RX6 yX6_fails yX6_fails, .code yX6_fails cX6_fails 2 (some .int)] ++ wsX60)
def wsX6_begins : List Cond := .code yX6_begins cX6_begins 2 none :: ([.fieldLink RX6 211 "PaperLayersModel" "trace" "I"] ++ wsX60)
def wsX6_tell : List Cond := .code yX6_tell cX6_tell 3 (some .int) :: ([.fieldLink RX6 22 "PaperLayersModel" "hold" "[I", .fieldLink RX6 19 "PaperLayersModel" "kind" "[I", .methodLink RX6 131 yX6_isLayer, .instanceMethod yX6_isLayer, .selects RX6 yX6_isLayer yX6_isLayer, .initialized RX6, .code yX6_isLayer cX6_isLayer 2 (some .boolean), .fieldLink RX6 56 "PaperLayersModel" "layers" "I", .methodLink RX6 214 yX6_begins, .instanceMethod yX6_begins, .selects RX6 yX6_begins yX6_begins, .code yX6_begins cX6_begins 2 none, .fieldLink RX6 211 "PaperLayersModel" "trace" "I"] ++ wsX60)
def wsX6_stroke : List Cond := .code yX6_stroke cX6_stroke 2 (some .int) :: ([.fieldLink RX6 19 "PaperLayersModel" "kind" "[I", .fieldLink RX6 25 "PaperLayersModel" "advice" "[I", .methodLink RX6 131 yX6_isLayer, .instanceMethod yX6_isLayer, .selects RX6 yX6_isLayer yX6_isLayer, .initialized RX6, .code yX6_isLayer cX6_isLayer 2 (some .boolean), .fieldLink RX6 56 "PaperLayersModel" "layers" "I", .methodLink RX6 214 yX6_begins, .instanceMethod yX6_begins, .selects RX6 yX6_begins yX6_begins, .code yX6_begins cX6_begins 2 none, .fieldLink RX6 211 "PaperLayersModel" "trace" "I"] ++ wsX60)
def wsX6_as : List Cond := .code yX6_as cX6_as 3 (some .int) :: ([.fieldLink RX6 46 "PaperLayersModel" "fault" "I", .fieldLink RX6 19 "PaperLayersModel" "kind" "[I", .methodLink RX6 131 yX6_isLayer, .instanceMethod yX6_isLayer, .selects RX6 yX6_isLayer yX6_isLayer, .initialized RX6, .code yX6_isLayer cX6_isLayer 2 (some .boolean), .fieldLink RX6 56 "PaperLayersModel" "layers" "I", .methodLink RX6 52 yX6_within, .static yX6_within, .code yX6_within cX6_within 3 (some .boolean), .methodLink RX6 73 yX6_fails, .instanceMethod yX6_fails, .selects RX6 yX6_fails yX6_fails, .code yX6_fails cX6_fails 2 (some .int)] ++ wsX60)
def wsX6_trace : List Cond := .code yX6_trace cX6_trace 1 (some .int) :: ([.fieldLink RX6 211 "PaperLayersModel" "trace" "I"] ++ wsX60)
def wsX6_fault : List Cond := .code yX6_fault cX6_fault 1 (some .int) :: ([.fieldLink RX6 46 "PaperLayersModel" "fault" "I"] ++ wsX60)
def wsX6_many_r1 : List Cond := [Cond.fieldLink RX6 56 "PaperLayersModel" "layers" "I", Cond.fieldLink RX6 86 "PaperLayersModel" "warmNow" "I", Cond.fieldLink RX6 92 "PaperLayersModel" "dampNow" "I", Cond.fieldLink RX6 98 "PaperLayersModel" "readings" "I", Cond.methodLink RX6 138 yX6_heardNow, Cond.instanceMethod yX6_heardNow, Cond.selects RX6 yX6_heardNow yX6_heardNow, Cond.initialized RX6, Cond.code yX6_heardNow cX6_heardNow 1 (some .int), Cond.methodLink RX6 128 yX6_orderAsIs, Cond.instanceMethod yX6_orderAsIs, Cond.selects RX6 yX6_orderAsIs yX6_orderAsIs, Cond.code yX6_orderAsIs cX6_orderAsIs 2 none, Cond.fieldLink RX6 31 "PaperLayersModel" "order" "[I", Cond.methodLink RX6 121 yX6_heardBy, Cond.instanceMethod yX6_heardBy, Cond.selects RX6 yX6_heardBy yX6_heardBy, Cond.code yX6_heardBy cX6_heardBy 8 (some .int), Cond.fieldLink RX6 19 "PaperLayersModel" "kind" "[I", Cond.methodLink RX6 117 yX6_liftedBy, Cond.instanceMethod yX6_liftedBy, Cond.selects RX6 yX6_liftedBy yX6_liftedBy, Cond.code yX6_liftedBy cX6_liftedBy 7 (some .int), Cond.methodLink RX6 111 yX6_isOf]
def wsX6_many_r2 : List Cond := [Cond.static yX6_isOf, Cond.code yX6_isOf cX6_isOf 2 (some .boolean), Cond.methodLink RX6 114 yX6_gripOf, Cond.instanceMethod yX6_gripOf, Cond.selects RX6 yX6_gripOf yX6_gripOf, Cond.code yX6_gripOf cX6_gripOf 2 (some .int), Cond.fieldLink RX6 22 "PaperLayersModel" "hold" "[I", Cond.methodLink RX6 147 yX6_size, Cond.static yX6_size, Cond.code yX6_size cX6_size 3 (some .int)]
def wsX6_many : List Cond := .code yX6_many cX6_many 2 (some .int) :: ((wsX6_many_r1 ++ wsX6_many_r2) ++ wsX60)
def wsJ9_max_7cf53 : List Cond := .code yJ9_max_7cf53 cJ9_max_7cf53 2 (some .int) :: ([])
def wsJ9_min_7cf53 : List Cond := .code yJ9_min_7cf53 cJ9_min_7cf53 2 (some .int) :: ([])
def wsL_law_r1 : List Cond := [Cond.classLink RL 7 RX5, Cond.instantiable RX5 7, Cond.initialized RX5, Cond.classLink RL 10 RX6, Cond.instantiable RX6 26, Cond.initialized RX6, Cond.methodLink RL 9 yX5_init, Cond.instanceMethod yX5_init, Cond.code yX5_init cX5_init 2 none, Cond.methodLink RX5 3 objectInit, Cond.instanceMethod objectInit, Cond.code objectInit ⟨#[0xb1]⟩ 1 none, Cond.classLink RX5 9 RX4, Cond.instantiable RX4 4, Cond.initialized RX4, Cond.fieldLink RX5 12 "PaperLayers" "now" "LPaperLayers$Wall;", Cond.fieldLink RX5 18 "PaperLayers" "trial" "LPaperLayers$Wall;", Cond.classLink RX5 21 RX2, Cond.instantiable RX2 3, Cond.initialized RX2, Cond.fieldLink RX5 24 "PaperLayers" "readings" "LPaperLayers$Readings;", Cond.classLink RX5 28 RX1, Cond.instantiable RX1 2, Cond.initialized RX1]
def wsL_law_r2 : List Cond := [Cond.fieldLink RX5 31 "PaperLayers" "order" "LPaperLayers$Order;", Cond.classLink RX5 35 RX3, Cond.fieldLink RX5 37 "PaperLayers" "sheets" "[LPaperLayers$Sheet;", Cond.instantiable RX3 4, Cond.initialized RX3, Cond.methodLink RX5 11 yX4_init, Cond.instanceMethod yX4_init, Cond.code yX4_init cX4_init 2 none, Cond.methodLink RX4 3 objectInit, Cond.classLink RX4 9 RX0, Cond.fieldLink RX4 11 "PaperLayers$Wall" "layers" "[LPaperLayers$Layer;", Cond.instantiable RX0 3, Cond.initialized RX0, Cond.instanceMethod yX0_init, Cond.code yX0_init cX0_init 1 none, Cond.methodLink RX0 3 objectInit, Cond.instanceMethod yX2_init, Cond.code yX2_init cX2_init 1 none, Cond.methodLink RX2 3 objectInit, Cond.arrayClass .int, Cond.fieldLink RX2 9 "PaperLayers$Readings" "warmths" "[I", Cond.fieldLink RX2 15 "PaperLayers$Readings" "counsels" "[I", Cond.instanceMethod yX1_init, Cond.code yX1_init cX1_init 1 none]
def wsL_law_r3 : List Cond := [Cond.methodLink RX1 3 objectInit, Cond.fieldLink RX1 9 "PaperLayers$Order" "row" "[I", Cond.instanceMethod yX3_init, Cond.code yX3_init cX3_init 1 none, Cond.methodLink RX3 3 objectInit, Cond.fieldLink RX3 9 "PaperLayers$Sheet" "cells" "[I", Cond.methodLink RL 12 yX6_init, Cond.instanceMethod yX6_init, Cond.code yX6_init cX6_init 1 none, Cond.methodLink RX6 1 objectInit, Cond.fieldLink RX6 9 "PaperLayersModel" "sorts" "[I", Cond.fieldLink RX6 13 "PaperLayersModel" "sheetLong" "[I", Cond.fieldLink RX6 16 "PaperLayersModel" "cells" "[I", Cond.fieldLink RX6 19 "PaperLayersModel" "kind" "[I", Cond.fieldLink RX6 22 "PaperLayersModel" "hold" "[I", Cond.fieldLink RX6 25 "PaperLayersModel" "advice" "[I", Cond.fieldLink RX6 28 "PaperLayersModel" "read" "[I", Cond.fieldLink RX6 31 "PaperLayersModel" "order" "[I", Cond.fieldLink RX6 34 "PaperLayersModel" "kept" "[I", Cond.fieldLink RX6 37 "PaperLayersModel" "readWarms" "[I", Cond.fieldLink RX6 40 "PaperLayersModel" "readDamps" "[I", Cond.fieldLink RX6 43 "PaperLayersModel" "readCounsel" "[I", Cond.methodLink RL 13 yX5_wall, Cond.instanceMethod yX5_wall]
def wsL_law_r4 : List Cond := [Cond.selects RX5 yX5_wall yX5_wall, Cond.code yX5_wall cX5_wall 8 (some .int), Cond.fieldLink RX5 42 "PaperLayers" "latestFault" "I", Cond.fieldLink RX5 73 "PaperLayers$Readings" "count" "I", Cond.fieldLink RX5 76 "PaperLayers$Wall" "count" "I", Cond.methodLink RX5 46 yX5_sheetAt, Cond.instanceMethod yX5_sheetAt, Cond.selects RX5 yX5_sheetAt yX5_sheetAt, Cond.code yX5_sheetAt cX5_sheetAt 2 (some (.object "PaperLayers$Sheet")), Cond.methodLink RX5 50 yX5_isUpTo, Cond.static yX5_isUpTo, Cond.code yX5_isUpTo cX5_isUpTo 2 (some .boolean), Cond.methodLink RX5 54 yX3_faultAsLane, Cond.instanceMethod yX3_faultAsLane, Cond.selects RX3 yX3_faultAsLane yX3_faultAsLane, Cond.code yX3_faultAsLane cX3_faultAsLane 2 (some .int), Cond.fieldLink RX3 15 "PaperLayers$Sheet" "hasRow" "Z", Cond.fieldLink RX3 19 "PaperLayers$Sheet" "lane" "I", Cond.methodLink RX5 58 yX3_faultOfCells, Cond.instanceMethod yX3_faultOfCells, Cond.selects RX3 yX3_faultOfCells yX3_faultOfCells, Cond.code yX3_faultOfCells cX3_faultOfCells 3 (some .int), Cond.fieldLink RX3 32 "PaperLayers$Sheet" "length" "I", Cond.methodLink RX5 62 yX5_failed]
def wsL_law_r5 : List Cond := [Cond.instanceMethod yX5_failed, Cond.selects RX5 yX5_failed yX5_failed, Cond.code yX5_failed cX5_failed 2 (some .int), Cond.methodLink RX5 65 yX5_firstFault, Cond.static yX5_firstFault, Cond.code yX5_firstFault cX5_firstFault 4 (some .int), Cond.methodLink RX5 186 yX3_getCell, Cond.instanceMethod yX3_getCell, Cond.selects RX3 yX3_getCell yX3_getCell, Cond.code yX3_getCell cX3_getCell 2 (some .int), Cond.methodLink RX5 226 yX5_goesOn, Cond.static yX5_goesOn, Cond.code yX5_goesOn cX5_goesOn 3 (some .boolean), Cond.methodLink RX5 229 yX5_isDigit, Cond.static yX5_isDigit, Cond.code yX5_isDigit cX5_isDigit 1 (some .boolean), Cond.methodLink RX5 232 yX5_kindOf, Cond.static yX5_kindOf, Cond.code yX5_kindOf cX5_kindOf 1 (some .int), Cond.methodLink RX5 69 yX4_readText, Cond.instanceMethod yX4_readText, Cond.selects RX4 yX4_readText yX4_readText, Cond.code yX4_readText cX4_readText 5 none, Cond.methodLink RX4 85 yX4_digitAt]
def wsL_law_r6 : List Cond := [Cond.static yX4_digitAt, Cond.code yX4_digitAt cX4_digitAt 2 (some .int), Cond.methodLink RX4 93 yX3_getCell, Cond.methodLink RX4 89 yX4_begin, Cond.instanceMethod yX4_begin, Cond.selects RX4 yX4_begin yX4_begin, Cond.code yX4_begin cX4_begin 3 none, Cond.fieldLink RX4 18 "PaperLayers$Wall" "count" "I", Cond.fieldLink RX4 22 "PaperLayers$Wall" "warm" "I", Cond.fieldLink RX4 25 "PaperLayers$Wall" "damp" "I", Cond.methodLink RX4 101 yX4_addBelow, Cond.instanceMethod yX4_addBelow, Cond.selects RX4 yX4_addBelow yX4_addBelow, Cond.code yX4_addBelow cX4_addBelow 4 none, Cond.methodLink RX4 60 yX0_become, Cond.instanceMethod yX0_become, Cond.selects RX0 yX0_become yX0_become, Cond.code yX0_become cX0_become 4 none, Cond.fieldLink RX0 9 "PaperLayers$Layer" "kind" "I", Cond.fieldLink RX0 15 "PaperLayers$Layer" "hold" "I", Cond.fieldLink RX0 18 "PaperLayers$Layer" "advice" "I", Cond.methodLink RL 17 yX6_wall, Cond.instanceMethod yX6_wall, Cond.selects RX6 yX6_wall yX6_wall]
def wsL_law_r7 : List Cond := [Cond.code yX6_wall cX6_wall 7 (some .int), Cond.fieldLink RX6 46 "PaperLayersModel" "fault" "I", Cond.fieldLink RX6 59 "PaperLayersModel" "at" "I", Cond.fieldLink RX6 56 "PaperLayersModel" "layers" "I", Cond.methodLink RX6 62 yX6_isSheet, Cond.static yX6_isSheet, Cond.code yX6_isSheet cX6_isSheet 1 (some .boolean), Cond.methodLink RX6 52 yX6_within, Cond.static yX6_within, Cond.code yX6_within cX6_within 3 (some .boolean), Cond.methodLink RX6 66 yX6_isSort, Cond.static yX6_isSort, Cond.code yX6_isSort cX6_isSort 1 (some .boolean), Cond.methodLink RX6 69 yX6_against, Cond.instanceMethod yX6_against, Cond.selects RX6 yX6_against yX6_against, Cond.code yX6_against cX6_against 5 (some .int), Cond.methodLink RX6 73 yX6_fails, Cond.instanceMethod yX6_fails, Cond.selects RX6 yX6_fails yX6_fails, Cond.code yX6_fails cX6_fails 2 (some .int), Cond.methodLink RX6 77 yX6_readWall, Cond.instanceMethod yX6_readWall, Cond.selects RX6 yX6_readWall yX6_readWall]
def wsL_law_r8 : List Cond := [Cond.code yX6_readWall cX6_readWall 2 (some .boolean), Cond.fieldLink RX6 95 "PaperLayersModel" "readLayers" "I", Cond.fieldLink RX6 83 "PaperLayersModel" "readWarm" "I", Cond.fieldLink RX6 89 "PaperLayersModel" "readDamp" "I", Cond.methodLink RX6 101 yX6_isSign, Cond.instanceMethod yX6_isSign, Cond.selects RX6 yX6_isSign yX6_isSign, Cond.code yX6_isSign cX6_isSign 3 (some .boolean), Cond.methodLink RX6 105 yX6_digit, Cond.instanceMethod yX6_digit, Cond.selects RX6 yX6_digit yX6_digit, Cond.code yX6_digit cX6_digit 2 (some .int), Cond.methodLink RX6 108 yX6_readLayer, Cond.instanceMethod yX6_readLayer, Cond.selects RX6 yX6_readLayer yX6_readLayer, Cond.code yX6_readLayer cX6_readLayer 4 (some .boolean), Cond.methodLink RX6 80 yX6_takeWall, Cond.instanceMethod yX6_takeWall, Cond.selects RX6 yX6_takeWall yX6_takeWall, Cond.code yX6_takeWall cX6_takeWall 2 none, Cond.fieldLink RX6 86 "PaperLayersModel" "warmNow" "I", Cond.fieldLink RX6 92 "PaperLayersModel" "dampNow" "I", Cond.fieldLink RX6 98 "PaperLayersModel" "readings" "I", Cond.methodLink RL 18 yX5_ofLayer]
def wsL_law_r9 : List Cond := [Cond.instanceMethod yX5_ofLayer, Cond.selects RX5 yX5_ofLayer yX5_ofLayer, Cond.code yX5_ofLayer cX5_ofLayer 4 (some .int), Cond.fieldLink RX5 81 "PaperLayers$Layer" "kind" "I", Cond.fieldLink RX5 86 "PaperLayers$Layer" "hold" "I", Cond.fieldLink RX5 89 "PaperLayers$Layer" "advice" "I", Cond.methodLink RX5 77 yX4_layerAt, Cond.instanceMethod yX4_layerAt, Cond.selects RX4 yX4_layerAt yX4_layerAt, Cond.code yX4_layerAt cX4_layerAt 2 (some (.object "PaperLayers$Layer")), Cond.methodLink RX5 92 yX0_grip, Cond.instanceMethod yX0_grip, Cond.selects RX0 yX0_grip yX0_grip, Cond.code yX0_grip cX0_grip 1 (some .int), Cond.methodLink RX5 96 yX4_warmth, Cond.instanceMethod yX4_warmth, Cond.selects RX4 yX4_warmth yX4_warmth, Cond.code yX4_warmth cX4_warmth 1 (some .int), Cond.methodLink RX5 99 yX4_liftedBy, Cond.instanceMethod yX4_liftedBy, Cond.selects RX4 yX4_liftedBy yX4_liftedBy, Cond.code yX4_liftedBy cX4_liftedBy 3 (some .int), Cond.methodLink RX4 28 yX0_grip, Cond.methodLink RX5 102 yX4_heardBy]
def wsL_law_r10 : List Cond := [Cond.instanceMethod yX4_heardBy, Cond.selects RX4 yX4_heardBy yX4_heardBy, Cond.code yX4_heardBy cX4_heardBy 3 (some .int), Cond.fieldLink RX4 32 "PaperLayers$Layer" "kind" "I", Cond.methodLink RL 22 yX6_ofLayer, Cond.instanceMethod yX6_ofLayer, Cond.selects RX6 yX6_ofLayer yX6_ofLayer, Cond.code yX6_ofLayer cX6_ofLayer 3 (some .int), Cond.methodLink RX6 131 yX6_isLayer, Cond.instanceMethod yX6_isLayer, Cond.selects RX6 yX6_isLayer yX6_isLayer, Cond.code yX6_isLayer cX6_isLayer 2 (some .boolean), Cond.methodLink RX6 114 yX6_gripOf, Cond.instanceMethod yX6_gripOf, Cond.selects RX6 yX6_gripOf yX6_gripOf, Cond.code yX6_gripOf cX6_gripOf 2 (some .int), Cond.methodLink RX6 134 yX6_liftedNow, Cond.instanceMethod yX6_liftedNow, Cond.selects RX6 yX6_liftedNow yX6_liftedNow, Cond.code yX6_liftedNow cX6_liftedNow 1 (some .int), Cond.methodLink RX6 128 yX6_orderAsIs, Cond.instanceMethod yX6_orderAsIs, Cond.selects RX6 yX6_orderAsIs yX6_orderAsIs, Cond.code yX6_orderAsIs cX6_orderAsIs 2 none]
def wsL_law_r11 : List Cond := [Cond.methodLink RX6 117 yX6_liftedBy, Cond.instanceMethod yX6_liftedBy, Cond.selects RX6 yX6_liftedBy yX6_liftedBy, Cond.code yX6_liftedBy cX6_liftedBy 7 (some .int), Cond.methodLink RX6 111 yX6_isOf, Cond.static yX6_isOf, Cond.code yX6_isOf cX6_isOf 2 (some .boolean), Cond.methodLink RX6 138 yX6_heardNow, Cond.instanceMethod yX6_heardNow, Cond.selects RX6 yX6_heardNow yX6_heardNow, Cond.code yX6_heardNow cX6_heardNow 1 (some .int), Cond.methodLink RX6 121 yX6_heardBy, Cond.instanceMethod yX6_heardBy, Cond.selects RX6 yX6_heardBy yX6_heardBy, Cond.code yX6_heardBy cX6_heardBy 8 (some .int), Cond.methodLink RL 23 yX5_heat, Cond.instanceMethod yX5_heat, Cond.selects RX5 yX5_heat yX5_heat, Cond.code yX5_heat cX5_heat 3 (some .int), Cond.fieldLink RX5 109 "PaperLayers$Wall" "warm" "I", Cond.methodLink RX5 105 yX4_stands, Cond.instanceMethod yX4_stands, Cond.selects RX4 yX4_stands yX4_stands, Cond.code yX4_stands cX4_stands 1 (some .boolean)]
def wsL_law_r12 : List Cond := [Cond.methodLink RL 27 yX6_heat, Cond.instanceMethod yX6_heat, Cond.selects RX6 yX6_heat yX6_heat, Cond.code yX6_heat cX6_heat 3 (some .int), Cond.methodLink RL 28 yX5_wet, Cond.instanceMethod yX5_wet, Cond.selects RX5 yX5_wet yX5_wet, Cond.code yX5_wet cX5_wet 3 (some .int), Cond.fieldLink RX5 112 "PaperLayers$Wall" "damp" "I", Cond.methodLink RL 31 yX6_wet, Cond.instanceMethod yX6_wet, Cond.selects RX6 yX6_wet yX6_wet, Cond.code yX6_wet cX6_wet 3 (some .int), Cond.methodLink RX6 141 yX6_isDigit, Cond.static yX6_isDigit, Cond.code yX6_isDigit cX6_isDigit 1 (some .boolean), Cond.methodLink RL 32 yX5_paste, Cond.instanceMethod yX5_paste, Cond.selects RX5 yX5_paste yX5_paste, Cond.code yX5_paste cX5_paste 5 (some .int), Cond.methodLink RL 35 yX6_paste, Cond.instanceMethod yX6_paste, Cond.selects RX6 yX6_paste yX6_paste, Cond.code yX6_paste cX6_paste 4 (some .int)]
def wsL_law_r13 : List Cond := [Cond.methodLink RL 36 yX5_heard, Cond.instanceMethod yX5_heard, Cond.selects RX5 yX5_heard yX5_heard, Cond.code yX5_heard cX5_heard 1 (some .int), Cond.methodLink RX5 115 yX5_setOfFirst, Cond.static yX5_setOfFirst, Cond.code yX5_setOfFirst cX5_setOfFirst 1 (some .int), Cond.methodLink RL 40 yX6_heard, Cond.instanceMethod yX6_heard, Cond.selects RX6 yX6_heard yX6_heard, Cond.code yX6_heard cX6_heard 1 (some .int), Cond.methodLink RL 41 yX5_counsel, Cond.instanceMethod yX5_counsel, Cond.selects RX5 yX5_counsel yX5_counsel, Cond.code yX5_counsel cX5_counsel 3 (some .int), Cond.methodLink RX5 118 yX4_counselBy, Cond.instanceMethod yX4_counselBy, Cond.selects RX4 yX4_counselBy yX4_counselBy, Cond.code yX4_counselBy cX4_counselBy 9 (some .int), Cond.fieldLink RX4 43 "PaperLayers$Layer" "advice" "I", Cond.methodLink RX4 35 yX4_heardBy, Cond.methodLink RX4 39 yX4_votesOf, Cond.instanceMethod yX4_votesOf, Cond.selects RX4 yX4_votesOf yX4_votesOf]
def wsL_law_r14 : List Cond := [Cond.code yX4_votesOf cX4_votesOf 5 (some .long), Cond.methodLink RX4 46 yX4_votesFor, Cond.static yX4_votesFor, Cond.code yX4_votesFor cX4_votesFor 3 (some .int), Cond.methodLink RL 44 yX6_counsel, Cond.instanceMethod yX6_counsel, Cond.selects RX6 yX6_counsel yX6_counsel, Cond.code yX6_counsel cX6_counsel 3 (some .int), Cond.methodLink RX6 144 yX6_counselBy, Cond.instanceMethod yX6_counselBy, Cond.selects RX6 yX6_counselBy yX6_counselBy, Cond.code yX6_counselBy cX6_counselBy 9 (some .int), Cond.methodLink RX6 124 yX6_givers, Cond.instanceMethod yX6_givers, Cond.selects RX6 yX6_givers yX6_givers, Cond.code yX6_givers cX6_givers 5 (some .int), Cond.methodLink RL 45 yX5_clash, Cond.instanceMethod yX5_clash, Cond.selects RX5 yX5_clash yX5_clash, Cond.code yX5_clash cX5_clash 3 (some .int), Cond.methodLink RX5 121 yX4_unlikeTwos, Cond.instanceMethod yX4_unlikeTwos, Cond.selects RX4 yX4_unlikeTwos yX4_unlikeTwos, Cond.code yX4_unlikeTwos cX4_unlikeTwos 5 (some .int)]
def wsL_law_r15 : List Cond := [Cond.methodLink RX5 124 yX4_mostAlike, Cond.instanceMethod yX4_mostAlike, Cond.selects RX4 yX4_mostAlike yX4_mostAlike, Cond.code yX4_mostAlike cX4_mostAlike 6 (some .int), Cond.methodLink RX4 50 Lib.Math.max.name, Cond.static Lib.Math.max.name, Cond.initialized "java/lang/Math", Cond.code Lib.Math.max.name Lib.Math.max.code 2 (some .int), Cond.methodLink RL 48 yX6_clash, Cond.instanceMethod yX6_clash, Cond.selects RX6 yX6_clash yX6_clash, Cond.code yX6_clash cX6_clash 8 (some .int), Cond.methodLink RX6 147 yX6_size, Cond.static yX6_size, Cond.code yX6_size cX6_size 3 (some .int), Cond.methodLink RL 49 yX5_putUp, Cond.instanceMethod yX5_putUp, Cond.selects RX5 yX5_putUp yX5_putUp, Cond.code yX5_putUp cX5_putUp 4 (some .int), Cond.methodLink RX5 127 yX4_layOnTop, Cond.instanceMethod yX4_layOnTop, Cond.selects RX4 yX4_layOnTop yX4_layOnTop, Cond.code yX4_layOnTop cX4_layOnTop 5 (some .boolean), Cond.methodLink RX4 56 yX0_becomeLike]
def wsL_law_r16 : List Cond := [Cond.instanceMethod yX0_becomeLike, Cond.selects RX0 yX0_becomeLike yX0_becomeLike, Cond.code yX0_becomeLike cX0_becomeLike 2 none, Cond.methodLink RX0 21 yX0_become, Cond.methodLink RL 53 yX6_putUp, Cond.instanceMethod yX6_putUp, Cond.selects RX6 yX6_putUp yX6_putUp, Cond.code yX6_putUp cX6_putUp 4 (some .int), Cond.methodLink RX6 150 yX6_putOn, Cond.instanceMethod yX6_putOn, Cond.selects RX6 yX6_putOn yX6_putOn, Cond.code yX6_putOn cX6_putOn 5 none, Cond.methodLink RL 54 yX5_peel, Cond.instanceMethod yX5_peel, Cond.selects RX5 yX5_peel yX5_peel, Cond.code yX5_peel cX5_peel 3 (some .int), Cond.methodLink RX5 131 yX4_peelTop, Cond.instanceMethod yX4_peelTop, Cond.selects RX4 yX4_peelTop yX4_peelTop, Cond.code yX4_peelTop cX4_peelTop 2 (some .boolean), Cond.methodLink RX4 64 yX4_warmth, Cond.methodLink RX4 67 yX4_liftedBy, Cond.methodLink RL 57 yX6_peel, Cond.instanceMethod yX6_peel]
def wsL_law_r17 : List Cond := [Cond.selects RX6 yX6_peel yX6_peel, Cond.code yX6_peel cX6_peel 1 (some .int), Cond.methodLink RX6 154 yX6_mayPeel, Cond.instanceMethod yX6_mayPeel, Cond.selects RX6 yX6_mayPeel yX6_mayPeel, Cond.code yX6_mayPeel cX6_mayPeel 1 (some .boolean), Cond.methodLink RX6 158 yX6_takeOff, Cond.instanceMethod yX6_takeOff, Cond.selects RX6 yX6_takeOff yX6_takeOff, Cond.code yX6_takeOff cX6_takeOff 3 (some .int), Cond.methodLink RL 58 yX5_days, Cond.instanceMethod yX5_days, Cond.selects RX5 yX5_days yX5_days, Cond.code yX5_days cX5_days 8 (some .int), Cond.methodLink RX5 134 yX5_areActs, Cond.static yX5_areActs, Cond.code yX5_areActs cX5_areActs 5 (some .boolean), Cond.methodLink RX5 235 yX5_isAct, Cond.static yX5_isAct, Cond.code yX5_isAct cX5_isAct 2 (some .boolean), Cond.methodLink RX5 138 yX5_afterDays, Cond.instanceMethod yX5_afterDays, Cond.selects RX5 yX5_afterDays yX5_afterDays, Cond.code yX5_afterDays cX5_afterDays 8 (some .int)]
def wsL_law_r18 : List Cond := [Cond.methodLink RX5 238 yX4_become, Cond.instanceMethod yX4_become, Cond.selects RX4 yX4_become yX4_become, Cond.code yX4_become cX4_become 2 none, Cond.methodLink RX4 104 yX4_becomeLess, Cond.instanceMethod yX4_becomeLess, Cond.selects RX4 yX4_becomeLess yX4_becomeLess, Cond.code yX4_becomeLess cX4_becomeLess 4 none, Cond.methodLink RX4 78 yX4_layerAt, Cond.methodLink RX4 108 yX4_addLike, Cond.instanceMethod yX4_addLike, Cond.selects RX4 yX4_addLike yX4_addLike, Cond.code yX4_addLike cX4_addLike 2 none, Cond.fieldLink RX4 82 "PaperLayers$Layer" "hold" "I", Cond.methodLink RX5 242 yX4_doAct, Cond.instanceMethod yX4_doAct, Cond.selects RX4 yX4_doAct yX4_doAct, Cond.code yX4_doAct cX4_doAct 3 (some .boolean), Cond.methodLink RX4 70 yX4_peelTop, Cond.methodLink RX4 74 yX4_layOnTop, Cond.methodLink RL 62 yX6_days, Cond.instanceMethod yX6_days, Cond.selects RX6 yX6_days yX6_days, Cond.code yX6_days cX6_days 10 (some .int)]
def wsL_law_r19 : List Cond := [Cond.methodLink RX6 176 yX6_isPair, Cond.static yX6_isPair, Cond.code yX6_isPair cX6_isPair 2 (some .boolean), Cond.methodLink RX6 179 yX6_keep, Cond.instanceMethod yX6_keep, Cond.selects RX6 yX6_keep yX6_keep, Cond.code yX6_keep cX6_keep 2 none, Cond.fieldLink RX6 161 "PaperLayersModel" "keptLayers" "I", Cond.fieldLink RX6 164 "PaperLayersModel" "keptWarm" "I", Cond.fieldLink RX6 167 "PaperLayersModel" "keptDamp" "I", Cond.methodLink RX6 182 yX6_goDays, Cond.instanceMethod yX6_goDays, Cond.selects RX6 yX6_goDays yX6_goDays, Cond.code yX6_goDays cX6_goDays 4 (some .int), Cond.fieldLink RX6 170 "PaperLayersModel" "often" "I", Cond.methodLink RX6 173 yX6_does, Cond.instanceMethod yX6_does, Cond.selects RX6 yX6_does yX6_does, Cond.code yX6_does cX6_does 3 (some .boolean), Cond.methodLink RX6 185 yX6_tellDays, Cond.instanceMethod yX6_tellDays, Cond.selects RX6 yX6_tellDays yX6_tellDays, Cond.code yX6_tellDays cX6_tellDays 2 (some .int), Cond.methodLink RX6 188 yX6_putBack]
def wsL_law_r20 : List Cond := [Cond.instanceMethod yX6_putBack, Cond.selects RX6 yX6_putBack yX6_putBack, Cond.code yX6_putBack cX6_putBack 2 none, Cond.methodLink RL 63 yX5_needs, Cond.instanceMethod yX5_needs, Cond.selects RX5 yX5_needs yX5_needs, Cond.code yX5_needs cX5_needs 3 (some .int), Cond.methodLink RL 66 yX6_needs, Cond.instanceMethod yX6_needs, Cond.selects RX6 yX6_needs yX6_needs, Cond.code yX6_needs cX6_needs 3 (some .int), Cond.methodLink RL 67 yX5_gets, Cond.instanceMethod yX5_gets, Cond.selects RX5 yX5_gets yX5_gets, Cond.code yX5_gets cX5_gets 3 (some .int), Cond.methodLink RL 70 yX6_gets, Cond.instanceMethod yX6_gets, Cond.selects RX6 yX6_gets yX6_gets, Cond.code yX6_gets cX6_gets 3 (some .int), Cond.methodLink RL 71 yX5_without, Cond.instanceMethod yX5_without, Cond.selects RX5 yX5_without yX5_without, Cond.code yX5_without cX5_without 4 (some .int), Cond.methodLink RX5 142 yJ6_bitCount_0f7a4]
def wsL_law_r21 : List Cond := [Cond.static yJ6_bitCount_0f7a4, Cond.initialized RJ6, Cond.code yJ6_bitCount_0f7a4 cJ6_bitCount_0f7a4 1 (some .int), Cond.constant RJ6 265 (1431655765), Cond.constant RJ6 266 (858993459), Cond.constant RJ6 267 (252645135), Cond.methodLink RX5 147 yX4_becomeLess, Cond.methodLink RL 74 yX6_without, Cond.instanceMethod yX6_without, Cond.selects RX6 yX6_without yX6_without, Cond.code yX6_without cX6_without 5 (some .int), Cond.methodLink RL 75 yX5_reading, Cond.instanceMethod yX5_reading, Cond.selects RX5 yX5_reading yX5_reading, Cond.code yX5_reading cX5_reading 4 (some .int), Cond.methodLink RX5 151 yX2_note, Cond.instanceMethod yX2_note, Cond.selects RX2 yX2_note yX2_note, Cond.code yX2_note cX2_note 3 (some .boolean), Cond.fieldLink RX2 18 "PaperLayers$Readings" "count" "I", Cond.methodLink RL 78 yX6_reading, Cond.instanceMethod yX6_reading, Cond.selects RX6 yX6_reading yX6_reading, Cond.code yX6_reading cX6_reading 4 (some .int)]
def wsL_law_r22 : List Cond := [Cond.methodLink RL 79 yX5_back, Cond.instanceMethod yX5_back, Cond.selects RX5 yX5_back yX5_back, Cond.code yX5_back cX5_back 2 (some .int), Cond.methodLink RL 82 yX6_back, Cond.instanceMethod yX6_back, Cond.selects RX6 yX6_back yX6_back, Cond.code yX6_back cX6_back 2 (some .int), Cond.methodLink RL 83 yX5_orders, Cond.instanceMethod yX5_orders, Cond.selects RX5 yX5_orders yX5_orders, Cond.code yX5_orders cX5_orders 2 (some .int), Cond.methodLink RX5 154 yX5_countOrders, Cond.instanceMethod yX5_countOrders, Cond.selects RX5 yX5_countOrders yX5_countOrders, Cond.code yX5_countOrders cX5_countOrders 3 (some .int), Cond.methodLink RX5 253 yX1_begin, Cond.instanceMethod yX1_begin, Cond.selects RX1 yX1_begin yX1_begin, Cond.code yX1_begin cX1_begin 3 none, Cond.methodLink RX1 15 Lib.Math.max.name, Cond.methodLink RX1 21 Lib.Math.min.name, Cond.static Lib.Math.min.name, Cond.code Lib.Math.min.name Lib.Math.min.code 2 (some .int)]
def wsL_law_r23 : List Cond := [Cond.fieldLink RX1 24 "PaperLayers$Order" "count" "I", Cond.methodLink RX5 256 yX5_fitsInOrder, Cond.instanceMethod yX5_fitsInOrder, Cond.selects RX5 yX5_fitsInOrder yX5_fitsInOrder, Cond.code yX5_fitsInOrder cX5_fitsInOrder 1 (some .boolean), Cond.methodLink RX5 245 yX4_becomeOrdered, Cond.instanceMethod yX4_becomeOrdered, Cond.selects RX4 yX4_becomeOrdered yX4_becomeOrdered, Cond.code yX4_becomeOrdered cX4_becomeOrdered 4 none, Cond.methodLink RX4 111 yX1_layerIn, Cond.instanceMethod yX1_layerIn, Cond.selects RX1 yX1_layerIn yX1_layerIn, Cond.code yX1_layerIn cX1_layerIn 2 (some .int), Cond.methodLink RX5 249 yX2_agreeWith, Cond.instanceMethod yX2_agreeWith, Cond.selects RX2 yX2_agreeWith yX2_agreeWith, Cond.code yX2_agreeWith cX2_agreeWith 3 (some .boolean), Cond.methodLink RX2 22 yX4_counselBy, Cond.methodLink RX5 259 yX1_next, Cond.instanceMethod yX1_next, Cond.selects RX1 yX1_next yX1_next, Cond.code yX1_next cX1_next 2 (some .boolean), Cond.methodLink RX1 28 yX1_placeOfNextGreater, Cond.instanceMethod yX1_placeOfNextGreater]
def wsL_law_r24 : List Cond := [Cond.selects RX1 yX1_placeOfNextGreater yX1_placeOfNextGreater, Cond.code yX1_placeOfNextGreater cX1_placeOfNextGreater 3 (some .int), Cond.methodLink RX1 32 yX1_swap, Cond.instanceMethod yX1_swap, Cond.selects RX1 yX1_swap yX1_swap, Cond.code yX1_swap cX1_swap 4 none, Cond.methodLink RX1 36 yX1_reverseFrom, Cond.instanceMethod yX1_reverseFrom, Cond.selects RX1 yX1_reverseFrom yX1_reverseFrom, Cond.code yX1_reverseFrom cX1_reverseFrom 4 none, Cond.methodLink RX5 157 yX5_findOrder, Cond.instanceMethod yX5_findOrder, Cond.selects RX5 yX5_findOrder yX5_findOrder, Cond.code yX5_findOrder cX5_findOrder 2 (some .boolean), Cond.methodLink RX5 160 yX1_layerIn, Cond.methodLink RL 86 yX6_orders, Cond.instanceMethod yX6_orders, Cond.selects RX6 yX6_orders yX6_orders, Cond.code yX6_orders cX6_orders 5 (some .int), Cond.methodLink RX6 191 yX6_ordersOf, Cond.static yX6_ordersOf, Cond.code yX6_ordersOf cX6_ordersOf 3 (some .int), Cond.methodLink RX6 194 yX6_orderBy, Cond.instanceMethod yX6_orderBy]
def wsL_law_r25 : List Cond := [Cond.selects RX6 yX6_orderBy yX6_orderBy, Cond.code yX6_orderBy cX6_orderBy 8 none, Cond.methodLink RX6 198 yX6_areSo, Cond.instanceMethod yX6_areSo, Cond.selects RX6 yX6_areSo yX6_areSo, Cond.code yX6_areSo cX6_areSo 2 (some .boolean), Cond.methodLink RL 87 yX5_holds, Cond.instanceMethod yX5_holds, Cond.selects RX5 yX5_holds yX5_holds, Cond.code yX5_holds cX5_holds 2 (some .int), Cond.methodLink RX5 163 yX5_fitting, Cond.instanceMethod yX5_fitting, Cond.selects RX5 yX5_fitting yX5_fitting, Cond.code yX5_fitting cX5_fitting 6 (some .int), Cond.methodLink RX5 262 yX4_change, Cond.instanceMethod yX4_change, Cond.selects RX4 yX4_change yX4_change, Cond.code yX4_change cX4_change 5 none, Cond.methodLink RL 90 yX6_holds, Cond.instanceMethod yX6_holds, Cond.selects RX6 yX6_holds yX6_holds, Cond.code yX6_holds cX6_holds 5 (some .int), Cond.methodLink RL 91 yX5_advices, Cond.instanceMethod yX5_advices]
def wsL_law_r26 : List Cond := [Cond.selects RX5 yX5_advices yX5_advices, Cond.code yX5_advices cX5_advices 2 (some .int), Cond.methodLink RL 94 yX6_advices, Cond.instanceMethod yX6_advices, Cond.selects RX6 yX6_advices yX6_advices, Cond.code yX6_advices cX6_advices 5 (some .int), Cond.methodLink RL 95 yX5_kinds, Cond.instanceMethod yX5_kinds, Cond.selects RX5 yX5_kinds yX5_kinds, Cond.code yX5_kinds cX5_kinds 2 (some .int), Cond.methodLink RL 98 yX6_kinds, Cond.instanceMethod yX6_kinds, Cond.selects RX6 yX6_kinds yX6_kinds, Cond.code yX6_kinds cX6_kinds 5 (some .int), Cond.methodLink RL 99 yX5_odds, Cond.instanceMethod yX5_odds, Cond.selects RX5 yX5_odds yX5_odds, Cond.code yX5_odds cX5_odds 6 (some .long), Cond.constantLong RX5 167 (-9223372036854775808), Cond.methodLink RX5 169 yX5_greatestShared, Cond.static yX5_greatestShared, Cond.code yX5_greatestShared cX5_greatestShared 3 (some .int), Cond.methodLink RL 103 yX6_odds, Cond.instanceMethod yX6_odds]
def wsL_law_r27 : List Cond := [Cond.selects RX6 yX6_odds yX6_odds, Cond.code yX6_odds cX6_odds 5 (some .long), Cond.constantLong RX6 50 (-9223372036854775808), Cond.constantLong RX6 201 (21), Cond.methodLink RX6 203 yX6_inLeastTerms, Cond.static yX6_inLeastTerms, Cond.code yX6_inLeastTerms cX6_inLeastTerms 11 (some .long), Cond.methodLink RL 104 yX5_sheet, Cond.instanceMethod yX5_sheet, Cond.selects RX5 yX5_sheet yX5_sheet, Cond.code yX5_sheet cX5_sheet 5 (some .int), Cond.methodLink RX5 172 yX3_begin, Cond.instanceMethod yX3_begin, Cond.selects RX3 yX3_begin yX3_begin, Cond.code yX3_begin cX3_begin 4 none, Cond.methodLink RX3 23 Lib.Math.max.name, Cond.methodLink RX3 29 Lib.Math.min.name, Cond.methodLink RL 107 yX6_sheet, Cond.instanceMethod yX6_sheet, Cond.selects RX6 yX6_sheet yX6_sheet, Cond.code yX6_sheet cX6_sheet 5 (some .int), Cond.methodLink RL 108 yX5_lose, Cond.instanceMethod yX5_lose, Cond.selects RX5 yX5_lose yX5_lose]
def wsL_law_r28 : List Cond := [Cond.code yX5_lose cX5_lose 4 (some .int), Cond.fieldLink RX5 176 "PaperLayers$Sheet" "hasRow" "Z", Cond.methodLink RL 111 yX6_lose, Cond.instanceMethod yX6_lose, Cond.selects RX6 yX6_lose yX6_lose, Cond.code yX6_lose cX6_lose 3 (some .int), Cond.methodLink RL 112 yX5_put, Cond.instanceMethod yX5_put, Cond.selects RX5 yX5_put yX5_put, Cond.code yX5_put cX5_put 6 (some .int), Cond.methodLink RX5 180 yX3_faultOfCell, Cond.instanceMethod yX3_faultOfCell, Cond.selects RX3 yX3_faultOfCell yX3_faultOfCell, Cond.code yX3_faultOfCell cX3_faultOfCell 2 (some .int), Cond.methodLink RX5 183 yX3_setCell, Cond.instanceMethod yX3_setCell, Cond.selects RX3 yX3_setCell yX3_setCell, Cond.code yX3_setCell cX3_setCell 3 none, Cond.methodLink RX3 38 yX3_cut, Cond.instanceMethod yX3_cut, Cond.selects RX3 yX3_cut yX3_cut, Cond.code yX3_cut cX3_cut 2 (some .int), Cond.methodLink RL 115 yX6_put, Cond.instanceMethod yX6_put]
def wsL_law_r29 : List Cond := [Cond.selects RX6 yX6_put yX6_put, Cond.code yX6_put cX6_put 4 (some .int), Cond.methodLink RL 116 yX5_cell, Cond.instanceMethod yX5_cell, Cond.selects RX5 yX5_cell yX5_cell, Cond.code yX5_cell cX5_cell 6 (some .long), Cond.methodLink RL 120 yX6_cell, Cond.instanceMethod yX6_cell, Cond.selects RX6 yX6_cell yX6_cell, Cond.code yX6_cell cX6_cell 4 (some .long), Cond.methodLink RX6 207 yX6_lost, Cond.instanceMethod yX6_lost, Cond.selects RX6 yX6_lost yX6_lost, Cond.code yX6_lost cX6_lost 2 (some .long), Cond.methodLink RL 121 yX5_copy, Cond.instanceMethod yX5_copy, Cond.selects RX5 yX5_copy yX5_copy, Cond.code yX5_copy cX5_copy 9 (some .int), Cond.fieldLink RX5 193 "PaperLayers$Sheet" "cells" "[I", Cond.methodLink RX5 197 arraycopyName, Cond.native arraycopyName, Cond.static arraycopyName, Cond.initialized "java/lang/System", Cond.methodLink RX5 189 yX3_faultOfCopy]
def wsL_law_r30 : List Cond := [Cond.instanceMethod yX3_faultOfCopy, Cond.selects RX3 yX3_faultOfCopy yX3_faultOfCopy, Cond.code yX3_faultOfCopy cX3_faultOfCopy 6 (some .int), Cond.methodLink RX3 35 yX3_faultOfCells, Cond.methodLink RL 124 yX6_copy, Cond.instanceMethod yX6_copy, Cond.selects RX6 yX6_copy yX6_copy, Cond.code yX6_copy cX6_copy 10 (some .int), Cond.methodLink RL 125 yX5_tell, Cond.instanceMethod yX5_tell, Cond.selects RX5 yX5_tell yX5_tell, Cond.code yX5_tell cX5_tell 3 (some .int), Cond.methodLink RX5 203 yX5_tellRed, Cond.instanceMethod yX5_tellRed, Cond.selects RX5 yX5_tellRed yX5_tellRed, Cond.code yX5_tellRed cX5_tellRed 3 (some .int), Cond.methodLink RX5 266 yX5_leave, Cond.instanceMethod yX5_leave, Cond.selects RX5 yX5_leave yX5_leave, Cond.code yX5_leave cX5_leave 2 none, Cond.fieldLink RX5 223 "PaperLayers" "traced" "I", Cond.methodLink RX5 207 yX5_tellTrellis, Cond.instanceMethod yX5_tellTrellis, Cond.selects RX5 yX5_tellTrellis yX5_tellTrellis]
def wsL_law_r31 : List Cond := [Cond.code yX5_tellTrellis cX5_tellTrellis 2 (some .int), Cond.methodLink RX5 210 yX5_tellStripe, Cond.instanceMethod yX5_tellStripe, Cond.selects RX5 yX5_tellStripe yX5_tellStripe, Cond.code yX5_tellStripe cX5_tellStripe 2 (some .int), Cond.methodLink RL 128 yX6_tell, Cond.instanceMethod yX6_tell, Cond.selects RX6 yX6_tell yX6_tell, Cond.code yX6_tell cX6_tell 3 (some .int), Cond.methodLink RX6 214 yX6_begins, Cond.instanceMethod yX6_begins, Cond.selects RX6 yX6_begins yX6_begins, Cond.code yX6_begins cX6_begins 2 none, Cond.fieldLink RX6 211 "PaperLayersModel" "trace" "I", Cond.methodLink RL 129 yX5_stroke, Cond.instanceMethod yX5_stroke, Cond.selects RX5 yX5_stroke yX5_stroke, Cond.code yX5_stroke cX5_stroke 3 (some .int), Cond.methodLink RX5 213 yX5_strokeRed, Cond.instanceMethod yX5_strokeRed, Cond.selects RX5 yX5_strokeRed yX5_strokeRed, Cond.code yX5_strokeRed cX5_strokeRed 1 (some .int), Cond.methodLink RX5 216 yX5_strokeLent, Cond.instanceMethod yX5_strokeLent]
def wsL_law_r32 : List Cond := [Cond.selects RX5 yX5_strokeLent yX5_strokeLent, Cond.code yX5_strokeLent cX5_strokeLent 2 (some .int), Cond.methodLink RL 132 yX6_stroke, Cond.instanceMethod yX6_stroke, Cond.selects RX6 yX6_stroke yX6_stroke, Cond.code yX6_stroke cX6_stroke 2 (some .int), Cond.methodLink RL 133 yX5_as, Cond.instanceMethod yX5_as, Cond.selects RX5 yX5_as yX5_as, Cond.code yX5_as cX5_as 4 (some .int), Cond.methodLink RX5 219 yX0_isA, Cond.instanceMethod yX0_isA, Cond.selects RX0 yX0_isA yX0_isA, Cond.code yX0_isA cX0_isA 2 (some .boolean), Cond.methodLink RL 136 yX6_as, Cond.instanceMethod yX6_as, Cond.selects RX6 yX6_as yX6_as, Cond.code yX6_as cX6_as 3 (some .int), Cond.methodLink RL 137 yX5_trace, Cond.instanceMethod yX5_trace, Cond.selects RX5 yX5_trace yX5_trace, Cond.code yX5_trace cX5_trace 1 (some .int), Cond.methodLink RL 140 yX6_trace, Cond.instanceMethod yX6_trace]
def wsL_law_r33 : List Cond := [Cond.selects RX6 yX6_trace yX6_trace, Cond.code yX6_trace cX6_trace 1 (some .int), Cond.methodLink RL 141 yX5_fault, Cond.instanceMethod yX5_fault, Cond.selects RX5 yX5_fault yX5_fault, Cond.code yX5_fault cX5_fault 1 (some .int), Cond.methodLink RL 144 yX6_fault, Cond.instanceMethod yX6_fault, Cond.selects RX6 yX6_fault yX6_fault, Cond.code yX6_fault cX6_fault 1 (some .int), Cond.methodLink RL 145 yX5_many, Cond.instanceMethod yX5_many, Cond.selects RX5 yX5_many yX5_many, Cond.code yX5_many cX5_many 2 (some .int), Cond.methodLink RL 148 yX6_many, Cond.instanceMethod yX6_many, Cond.selects RX6 yX6_many yX6_many, Cond.code yX6_many cX6_many 2 (some .int)]
def wsL_law : List Cond := (wsL_law_r1 ++ (wsL_law_r2 ++ (wsL_law_r3 ++ (wsL_law_r4 ++ (wsL_law_r5 ++ (wsL_law_r6 ++ (wsL_law_r7 ++ (wsL_law_r8 ++ (wsL_law_r9 ++ (wsL_law_r10 ++ (wsL_law_r11 ++ (wsL_law_r12 ++ (wsL_law_r13 ++ (wsL_law_r14 ++ (wsL_law_r15 ++ (wsL_law_r16 ++ (wsL_law_r17 ++ (wsL_law_r18 ++ (wsL_law_r19 ++ (wsL_law_r20 ++ (wsL_law_r21 ++ (wsL_law_r22 ++ (wsL_law_r23 ++ (wsL_law_r24 ++ (wsL_law_r25 ++ (wsL_law_r26 ++ (wsL_law_r27 ++ (wsL_law_r28 ++ (wsL_law_r29 ++ (wsL_law_r30 ++ (wsL_law_r31 ++ (wsL_law_r32 ++ wsL_law_r33)))))))))))))))))))))))))))))))) ++ wsX50 ++ wsX60 ++ wsX40 ++ wsX20 ++ wsX10 ++ wsX30 ++ wsX00 ++ ([] : List Cond)
end
section
set_option maxRecDepth 20000 in
theorem wsL_in_r1 : ∀ w ∈ wsL_law_r1, w ∈ lw_tbl := fun w h => (goodIn_p wsL_law_r1 [64, 67] (by decide +kernel) (by decide +kernel) w h).1
set_option maxRecDepth 20000 in
theorem wsL_in_r2 : ∀ w ∈ wsL_law_r2, w ∈ lw_tbl := fun w h => (goodIn_p wsL_law_r2 [72, 79, 117, 135] (by decide +kernel) (by decide +kernel) w h).1
set_option maxRecDepth 20000 in
theorem wsL_in_r3 : ∀ w ∈ wsL_law_r3, w ∈ lw_tbl := fun w h => (goodIn_p wsL_law_r3 [149, 598] (by decide +kernel) (by decide +kernel) w h).1
set_option maxRecDepth 20000 in
theorem wsL_in_r4 : ∀ w ∈ wsL_law_r4, w ∈ lw_tbl := fun w h => (goodIn_p wsL_law_r4 [191, 195, 198, 202, 206] (by decide +kernel) (by decide +kernel) w h).1
set_option maxRecDepth 20000 in
theorem wsL_in_r5 : ∀ w ∈ wsL_law_r5, w ∈ lw_tbl := fun w h => (goodIn_p wsL_law_r5 [210, 213, 217, 220, 223, 226, 230] (by decide +kernel) (by decide +kernel) w h).1
set_option maxRecDepth 20000 in
theorem wsL_in_r6 : ∀ w ∈ wsL_law_r6, w ∈ lw_tbl := fun w h => (goodIn_p wsL_law_r6 [233, 238, 243, 247] (by decide +kernel) (by decide +kernel) w h).1
set_option maxRecDepth 20000 in
theorem wsL_in_r7 : ∀ w ∈ wsL_law_r7, w ∈ lw_tbl := fun w h => (goodIn_p wsL_law_r7 [682, 685, 688, 691, 695, 699] (by decide +kernel) (by decide +kernel) w h).1
set_option maxRecDepth 20000 in
theorem wsL_in_r8 : ∀ w ∈ wsL_law_r8, w ∈ lw_tbl := fun w h => (goodIn_p wsL_law_r8 [703, 707, 711, 715, 719] (by decide +kernel) (by decide +kernel) w h).1
set_option maxRecDepth 20000 in
theorem wsL_in_r9 : ∀ w ∈ wsL_law_r9, w ∈ lw_tbl := fun w h => (goodIn_p wsL_law_r9 [251, 255, 259, 263, 267] (by decide +kernel) (by decide +kernel) w h).1
set_option maxRecDepth 20000 in
theorem wsL_in_r10 : ∀ w ∈ wsL_law_r10, w ∈ lw_tbl := fun w h => (goodIn_p wsL_law_r10 [272, 723, 727, 731, 735, 739] (by decide +kernel) (by decide +kernel) w h).1
set_option maxRecDepth 20000 in
theorem wsL_in_r11 : ∀ w ∈ wsL_law_r11, w ∈ lw_tbl := fun w h => (goodIn_p wsL_law_r11 [743, 746, 750, 754, 276, 280] (by decide +kernel) (by decide +kernel) w h).1
set_option maxRecDepth 20000 in
theorem wsL_in_r12 : ∀ w ∈ wsL_law_r12, w ∈ lw_tbl := fun w h => (goodIn_p wsL_law_r12 [758, 284, 762, 765, 288, 769] (by decide +kernel) (by decide +kernel) w h).1
set_option maxRecDepth 20000 in
theorem wsL_in_r13 : ∀ w ∈ wsL_law_r13, w ∈ lw_tbl := fun w h => (goodIn_p wsL_law_r13 [292, 295, 773, 299, 303] (by decide +kernel) (by decide +kernel) w h).1
set_option maxRecDepth 20000 in
theorem wsL_in_r14 : ∀ w ∈ wsL_law_r14, w ∈ lw_tbl := fun w h => (goodIn_p wsL_law_r14 [308, 311, 777, 781, 785, 315, 319] (by decide +kernel) (by decide +kernel) w h).1
set_option maxRecDepth 20000 in
theorem wsL_in_r15 : ∀ w ∈ wsL_law_r15, w ∈ lw_tbl := fun w h => (goodIn_p wsL_law_r15 [323, 326, 789, 792, 330, 334] (by decide +kernel) (by decide +kernel) w h).1
set_option maxRecDepth 20000 in
theorem wsL_in_r16 : ∀ w ∈ wsL_law_r16, w ∈ lw_tbl := fun w h => (goodIn_p wsL_law_r16 [338, 796, 800, 343, 347] (by decide +kernel) (by decide +kernel) w h).1
set_option maxRecDepth 20000 in
theorem wsL_in_r17 : ∀ w ∈ wsL_law_r17, w ∈ lw_tbl := fun w h => (goodIn_p wsL_law_r17 [804, 808, 812, 353, 356, 359, 363] (by decide +kernel) (by decide +kernel) w h).1
set_option maxRecDepth 20000 in
theorem wsL_in_r18 : ∀ w ∈ wsL_law_r18, w ∈ lw_tbl := fun w h => (goodIn_p wsL_law_r18 [367, 371, 376, 380, 816] (by decide +kernel) (by decide +kernel) w h).1
set_option maxRecDepth 20000 in
theorem wsL_in_r19 : ∀ w ∈ wsL_law_r19, w ∈ lw_tbl := fun w h => (goodIn_p wsL_law_r19 [819, 823, 827, 831, 835] (by decide +kernel) (by decide +kernel) w h).1
set_option maxRecDepth 20000 in
theorem wsL_in_r20 : ∀ w ∈ wsL_law_r20, w ∈ lw_tbl := fun w h => (goodIn_p wsL_law_r20 [839, 386, 843, 390, 847, 394] (by decide +kernel) (by decide +kernel) w h).1
set_option maxRecDepth 20000 in
theorem wsL_in_r21 : ∀ w ∈ wsL_law_r21, w ∈ lw_tbl := fun w h => (goodIn_p wsL_law_r21 [397, 851, 405, 409, 855] (by decide +kernel) (by decide +kernel) w h).1
set_option maxRecDepth 20000 in
theorem wsL_in_r22 : ∀ w ∈ wsL_law_r22, w ∈ lw_tbl := fun w h => (goodIn_p wsL_law_r22 [413, 859, 417, 421, 425, 429] (by decide +kernel) (by decide +kernel) w h).1
set_option maxRecDepth 20000 in
theorem wsL_in_r23 : ∀ w ∈ wsL_law_r23, w ∈ lw_tbl := fun w h => (goodIn_p wsL_law_r23 [433, 437, 441, 445, 450] (by decide +kernel) (by decide +kernel) w h).1
set_option maxRecDepth 20000 in
theorem wsL_in_r24 : ∀ w ∈ wsL_law_r24, w ∈ lw_tbl := fun w h => (goodIn_p wsL_law_r24 [454, 458, 462, 466, 863, 866] (by decide +kernel) (by decide +kernel) w h).1
set_option maxRecDepth 20000 in
theorem wsL_in_r25 : ∀ w ∈ wsL_law_r25, w ∈ lw_tbl := fun w h => (goodIn_p wsL_law_r25 [870, 874, 471, 475, 479, 878] (by decide +kernel) (by decide +kernel) w h).1
set_option maxRecDepth 20000 in
theorem wsL_in_r26 : ∀ w ∈ wsL_law_r26, w ∈ lw_tbl := fun w h => (goodIn_p wsL_law_r26 [483, 882, 487, 886, 491, 495] (by decide +kernel) (by decide +kernel) w h).1
set_option maxRecDepth 20000 in
theorem wsL_in_r27 : ∀ w ∈ wsL_law_r27, w ∈ lw_tbl := fun w h => (goodIn_p wsL_law_r27 [890, 895, 499, 503, 899] (by decide +kernel) (by decide +kernel) w h).1
set_option maxRecDepth 20000 in
theorem wsL_in_r28 : ∀ w ∈ wsL_law_r28, w ∈ lw_tbl := fun w h => (goodIn_p wsL_law_r28 [509, 903, 513, 517, 521, 525] (by decide +kernel) (by decide +kernel) w h).1
set_option maxRecDepth 20000 in
theorem wsL_in_r29 : ∀ w ∈ wsL_law_r29, w ∈ lw_tbl := fun w h => (goodIn_p wsL_law_r29 [907, 529, 911, 915, 533] (by decide +kernel) (by decide +kernel) w h).1
set_option maxRecDepth 20000 in
theorem wsL_in_r30 : ∀ w ∈ wsL_law_r30, w ∈ lw_tbl := fun w h => (goodIn_p wsL_law_r30 [537, 919, 545, 549, 553] (by decide +kernel) (by decide +kernel) w h).1
set_option maxRecDepth 20000 in
theorem wsL_in_r31 : ∀ w ∈ wsL_law_r31, w ∈ lw_tbl := fun w h => (goodIn_p wsL_law_r31 [557, 561, 923, 927, 565, 569] (by decide +kernel) (by decide +kernel) w h).1
set_option maxRecDepth 20000 in
theorem wsL_in_r32 : ∀ w ∈ wsL_law_r32, w ∈ lw_tbl := fun w h => (goodIn_p wsL_law_r32 [573, 931, 577, 581, 935, 585] (by decide +kernel) (by decide +kernel) w h).1
set_option maxRecDepth 20000 in
theorem wsL_in_r33 : ∀ w ∈ wsL_law_r33, w ∈ lw_tbl := fun w h => (goodIn_p wsL_law_r33 [939, 589, 943, 593, 947] (by decide +kernel) (by decide +kernel) w h).1
set_option maxRecDepth 20000 in
theorem wsL_in_x50 : ∀ w ∈ wsX50, w ∈ lw_tbl := fun w h => (goodIn_p wsX50 [] (by decide +kernel) (by decide +kernel) w h).1
set_option maxRecDepth 20000 in
theorem wsL_in_x60 : ∀ w ∈ wsX60, w ∈ lw_tbl := fun w h => (goodIn_p wsX60 [] (by decide +kernel) (by decide +kernel) w h).1
set_option maxRecDepth 20000 in
theorem wsL_in_x40 : ∀ w ∈ wsX40, w ∈ lw_tbl := fun w h => (goodIn_p wsX40 [] (by decide +kernel) (by decide +kernel) w h).1
set_option maxRecDepth 20000 in
theorem wsL_in_x20 : ∀ w ∈ wsX20, w ∈ lw_tbl := fun w h => (goodIn_p wsX20 [] (by decide +kernel) (by decide +kernel) w h).1
set_option maxRecDepth 20000 in
theorem wsL_in_x10 : ∀ w ∈ wsX10, w ∈ lw_tbl := fun w h => (goodIn_p wsX10 [] (by decide +kernel) (by decide +kernel) w h).1
set_option maxRecDepth 20000 in
theorem wsL_in_x30 : ∀ w ∈ wsX30, w ∈ lw_tbl := fun w h => (goodIn_p wsX30 [] (by decide +kernel) (by decide +kernel) w h).1
set_option maxRecDepth 20000 in
theorem wsL_in_x00 : ∀ w ∈ wsX00, w ∈ lw_tbl := fun w h => (goodIn_p wsX00 [] (by decide +kernel) (by decide +kernel) w h).1
theorem wsL_law_in : ∀ w ∈ wsL_law, w ∈ lw_tbl := List.forall_mem_append.mpr ⟨List.forall_mem_append.mpr ⟨List.forall_mem_append.mpr ⟨List.forall_mem_append.mpr ⟨List.forall_mem_append.mpr ⟨List.forall_mem_append.mpr ⟨List.forall_mem_append.mpr ⟨List.forall_mem_append.mpr ⟨List.forall_mem_append.mpr ⟨wsL_in_r1, List.forall_mem_append.mpr ⟨wsL_in_r2, List.forall_mem_append.mpr ⟨wsL_in_r3, List.forall_mem_append.mpr ⟨wsL_in_r4, List.forall_mem_append.mpr ⟨wsL_in_r5, List.forall_mem_append.mpr ⟨wsL_in_r6, List.forall_mem_append.mpr ⟨wsL_in_r7, List.forall_mem_append.mpr ⟨wsL_in_r8, List.forall_mem_append.mpr ⟨wsL_in_r9, List.forall_mem_append.mpr ⟨wsL_in_r10, List.forall_mem_append.mpr ⟨wsL_in_r11, List.forall_mem_append.mpr ⟨wsL_in_r12, List.forall_mem_append.mpr ⟨wsL_in_r13, List.forall_mem_append.mpr ⟨wsL_in_r14, List.forall_mem_append.mpr ⟨wsL_in_r15, List.forall_mem_append.mpr ⟨wsL_in_r16, List.forall_mem_append.mpr ⟨wsL_in_r17, List.forall_mem_append.mpr ⟨wsL_in_r18, List.forall_mem_append.mpr ⟨wsL_in_r19, List.forall_mem_append.mpr ⟨wsL_in_r20, List.forall_mem_append.mpr ⟨wsL_in_r21, List.forall_mem_append.mpr ⟨wsL_in_r22, List.forall_mem_append.mpr ⟨wsL_in_r23, List.forall_mem_append.mpr ⟨wsL_in_r24, List.forall_mem_append.mpr ⟨wsL_in_r25, List.forall_mem_append.mpr ⟨wsL_in_r26, List.forall_mem_append.mpr ⟨wsL_in_r27, List.forall_mem_append.mpr ⟨wsL_in_r28, List.forall_mem_append.mpr ⟨wsL_in_r29, List.forall_mem_append.mpr ⟨wsL_in_r30, List.forall_mem_append.mpr ⟨wsL_in_r31, List.forall_mem_append.mpr ⟨wsL_in_r32, wsL_in_r33⟩⟩⟩⟩⟩⟩⟩⟩⟩⟩⟩⟩⟩⟩⟩⟩⟩⟩⟩⟩⟩⟩⟩⟩⟩⟩⟩⟩⟩⟩⟩⟩, wsL_in_x50⟩, wsL_in_x60⟩, wsL_in_x40⟩, wsL_in_x20⟩, wsL_in_x10⟩, wsL_in_x30⟩, wsL_in_x00⟩, fun _ h => absurd h List.not_mem_nil⟩
theorem inlX0 : ∀ w ∈ wsX00, w ∈ wsL_law := fun _ h => List.mem_append_left _ (List.mem_append_right _ h)
theorem inX0 : ∀ w ∈ wsX00, w ∈ lw_tbl := fun w h => wsL_law_in w (inlX0 w h)
theorem inlX1 : ∀ w ∈ wsX10, w ∈ wsL_law := fun _ h => List.mem_append_left _ (List.mem_append_left _ (List.mem_append_left _ (List.mem_append_right _ h)))
theorem inX1 : ∀ w ∈ wsX10, w ∈ lw_tbl := fun w h => wsL_law_in w (inlX1 w h)
theorem inlX2 : ∀ w ∈ wsX20, w ∈ wsL_law := fun _ h => List.mem_append_left _ (List.mem_append_left _ (List.mem_append_left _ (List.mem_append_left _ (List.mem_append_right _ h))))
theorem inX2 : ∀ w ∈ wsX20, w ∈ lw_tbl := fun w h => wsL_law_in w (inlX2 w h)
theorem inlX3 : ∀ w ∈ wsX30, w ∈ wsL_law := fun _ h => List.mem_append_left _ (List.mem_append_left _ (List.mem_append_right _ h))
theorem inX3 : ∀ w ∈ wsX30, w ∈ lw_tbl := fun w h => wsL_law_in w (inlX3 w h)
theorem inlX4 : ∀ w ∈ wsX40, w ∈ wsL_law := fun _ h => List.mem_append_left _ (List.mem_append_left _ (List.mem_append_left _ (List.mem_append_left _ (List.mem_append_left _ (List.mem_append_right _ h)))))
theorem inX4 : ∀ w ∈ wsX40, w ∈ lw_tbl := fun w h => wsL_law_in w (inlX4 w h)
theorem inlX5 : ∀ w ∈ wsX50, w ∈ wsL_law := fun _ h => List.mem_append_left _ (List.mem_append_left _ (List.mem_append_left _ (List.mem_append_left _ (List.mem_append_left _ (List.mem_append_left _ (List.mem_append_left _ (List.mem_append_right _ h)))))))
theorem inX5 : ∀ w ∈ wsX50, w ∈ lw_tbl := fun w h => wsL_law_in w (inlX5 w h)
theorem inlX6 : ∀ w ∈ wsX60, w ∈ wsL_law := fun _ h => List.mem_append_left _ (List.mem_append_left _ (List.mem_append_left _ (List.mem_append_left _ (List.mem_append_left _ (List.mem_append_left _ (List.mem_append_right _ h))))))
theorem inX6 : ∀ w ∈ wsX60, w ∈ lw_tbl := fun w h => wsL_law_in w (inlX6 w h)
theorem inJ6 : ∀ w ∈ wsJ60, w ∈ lw_tbl := by decide +kernel
theorem inJ9 : ∀ w ∈ wsJ90, w ∈ lw_tbl := by decide +kernel
theorem inJ10 : ∀ w ∈ wsJ100, w ∈ lw_tbl := by decide +kernel
end
section
theorem dX0_init_0 : decode cX0_init 0 = .ok (.aload_n 0, 1) := by decide +kernel
theorem dX0_init_1 : decode cX0_init 1 = .ok (.invokespecial 3, 3) := by decide +kernel
theorem dX0_init_4 : decode cX0_init 4 = .ok (.return_, 1) := by decide +kernel
theorem dX0_become_0 : decode cX0_become 0 = .ok (.aload_n 0, 1) := by decide +kernel
theorem dX0_become_1 : decode cX0_become 1 = .ok (.iload_n 1, 1) := by decide +kernel
theorem dX0_become_2 : decode cX0_become 2 = .ok (.putfield 9, 3) := by decide +kernel
theorem dX0_become_5 : decode cX0_become 5 = .ok (.aload_n 0, 1) := by decide +kernel
theorem dX0_become_6 : decode cX0_become 6 = .ok (.iload_n 2, 1) := by decide +kernel
theorem dX0_become_7 : decode cX0_become 7 = .ok (.putfield 15, 3) := by decide +kernel
theorem dX0_become_10 : decode cX0_become 10 = .ok (.aload_n 0, 1) := by decide +kernel
theorem dX0_become_11 : decode cX0_become 11 = .ok (.iload_n 3, 1) := by decide +kernel
theorem dX0_become_12 : decode cX0_become 12 = .ok (.putfield 18, 3) := by decide +kernel
theorem dX0_become_15 : decode cX0_become 15 = .ok (.return_, 1) := by decide +kernel
set_option maxRecDepth 20000 in
theorem ggX0_becomeLike_X0_become : GoodIn wsX0_becomeLike wsX0_become := goodIn_r _ [8, 1, 2, 3, 9, 10, 11] (by decide +kernel) (by decide +kernel)
set_option maxRecDepth 20000 in
theorem gX0_becomeLike_X0_become : GoodIn wsX0_becomeLike (wsV RX0 21 RX0 yX0_become wsX0_become) := goodIn_app (goodIn_of _ (by decide +kernel)) ggX0_becomeLike_X0_become
theorem dX0_becomeLike_0 : decode cX0_becomeLike 0 = .ok (.aload_n 0, 1) := by decide +kernel
theorem dX0_becomeLike_1 : decode cX0_becomeLike 1 = .ok (.aload_n 1, 1) := by decide +kernel
theorem dX0_becomeLike_2 : decode cX0_becomeLike 2 = .ok (.getfield 9, 3) := by decide +kernel
theorem dX0_becomeLike_5 : decode cX0_becomeLike 5 = .ok (.aload_n 1, 1) := by decide +kernel
theorem dX0_becomeLike_6 : decode cX0_becomeLike 6 = .ok (.getfield 15, 3) := by decide +kernel
theorem dX0_becomeLike_9 : decode cX0_becomeLike 9 = .ok (.aload_n 1, 1) := by decide +kernel
theorem dX0_becomeLike_10 : decode cX0_becomeLike 10 = .ok (.getfield 18, 3) := by decide +kernel
theorem dX0_becomeLike_13 : decode cX0_becomeLike 13 = .ok (.invokevirtual 21, 3) := by decide +kernel
theorem dX0_becomeLike_16 : decode cX0_becomeLike 16 = .ok (.return_, 1) := by decide +kernel
theorem dX0_grip_0 : decode cX0_grip 0 = .ok (.aload_n 0, 1) := by decide +kernel
theorem dX0_grip_1 : decode cX0_grip 1 = .ok (.getfield 9, 3) := by decide +kernel
theorem dX0_grip_4 : decode cX0_grip 4 = .ok (.lookupswitch 42 #[(1, 35), (2, 28)], 28) := by decide +kernel
theorem dX0_grip_32 : decode cX0_grip 32 = .ok (.iconst 2, 1) := by decide +kernel
theorem dX0_grip_33 : decode cX0_grip 33 = .ok (.aload_n 0, 1) := by decide +kernel
theorem dX0_grip_34 : decode cX0_grip 34 = .ok (.getfield 15, 3) := by decide +kernel
theorem dX0_grip_37 : decode cX0_grip 37 = .ok (.imul, 1) := by decide +kernel
theorem dX0_grip_38 : decode cX0_grip 38 = .ok (.ireturn, 1) := by decide +kernel
theorem dX0_grip_39 : decode cX0_grip 39 = .ok (.aload_n 0, 1) := by decide +kernel
theorem dX0_grip_40 : decode cX0_grip 40 = .ok (.getfield 15, 3) := by decide +kernel
theorem dX0_grip_43 : decode cX0_grip 43 = .ok (.iconst 1, 1) := by decide +kernel
theorem dX0_grip_44 : decode cX0_grip 44 = .ok (.iadd, 1) := by decide +kernel
theorem dX0_grip_45 : decode cX0_grip 45 = .ok (.ireturn, 1) := by decide +kernel
theorem dX0_grip_46 : decode cX0_grip 46 = .ok (.aload_n 0, 1) := by decide +kernel
theorem dX0_grip_47 : decode cX0_grip 47 = .ok (.getfield 15, 3) := by decide +kernel
theorem dX0_grip_50 : decode cX0_grip 50 = .ok (.ireturn, 1) := by decide +kernel
theorem dX0_isA_0 : decode cX0_isA 0 = .ok (.aload_n 0, 1) := by decide +kernel
theorem dX0_isA_1 : decode cX0_isA 1 = .ok (.getfield 9, 3) := by decide +kernel
theorem dX0_isA_4 : decode cX0_isA 4 = .ok (.iload_n 1, 1) := by decide +kernel
theorem dX0_isA_5 : decode cX0_isA 5 = .ok (.if_icmp .lt 7, 3) := by decide +kernel
theorem dX0_isA_8 : decode cX0_isA 8 = .ok (.iconst 1, 1) := by decide +kernel
theorem dX0_isA_9 : decode cX0_isA 9 = .ok (.goto 4, 3) := by decide +kernel
theorem dX0_isA_12 : decode cX0_isA 12 = .ok (.iconst 0, 1) := by decide +kernel
theorem dX0_isA_13 : decode cX0_isA 13 = .ok (.ireturn, 1) := by decide +kernel
theorem dX1_init_0 : decode cX1_init 0 = .ok (.aload_n 0, 1) := by decide +kernel
theorem dX1_init_1 : decode cX1_init 1 = .ok (.invokespecial 3, 3) := by decide +kernel
theorem dX1_init_4 : decode cX1_init 4 = .ok (.aload_n 0, 1) := by decide +kernel
theorem dX1_init_5 : decode cX1_init 5 = .ok (.bipush 6, 2) := by decide +kernel
theorem dX1_init_7 : decode cX1_init 7 = .ok (.newarray .int, 2) := by decide +kernel
theorem dX1_init_9 : decode cX1_init 9 = .ok (.putfield 9, 3) := by decide +kernel
theorem dX1_init_12 : decode cX1_init 12 = .ok (.return_, 1) := by decide +kernel
theorem dX1_begin_0 : decode cX1_begin 0 = .ok (.aload_n 0, 1) := by decide +kernel
theorem dX1_begin_1 : decode cX1_begin 1 = .ok (.iload_n 1, 1) := by decide +kernel
theorem dX1_begin_2 : decode cX1_begin 2 = .ok (.iconst 0, 1) := by decide +kernel
theorem dX1_begin_3 : decode cX1_begin 3 = .ok (.invokestatic 15, 3) := by decide +kernel
theorem dX1_begin_6 : decode cX1_begin 6 = .ok (.bipush 6, 2) := by decide +kernel
theorem dX1_begin_8 : decode cX1_begin 8 = .ok (.invokestatic 21, 3) := by decide +kernel
theorem dX1_begin_11 : decode cX1_begin 11 = .ok (.putfield 24, 3) := by decide +kernel
theorem dX1_begin_14 : decode cX1_begin 14 = .ok (.iconst 0, 1) := by decide +kernel
theorem dX1_begin_15 : decode cX1_begin 15 = .ok (.istore_n 2, 1) := by decide +kernel
theorem dX1_begin_16 : decode cX1_begin 16 = .ok (.iload_n 2, 1) := by decide +kernel
theorem dX1_begin_17 : decode cX1_begin 17 = .ok (.aload_n 0, 1) := by decide +kernel
theorem dX1_begin_18 : decode cX1_begin 18 = .ok (.getfield 24, 3) := by decide +kernel
theorem dX1_begin_21 : decode cX1_begin 21 = .ok (.if_icmp .ge 16, 3) := by decide +kernel
theorem dX1_begin_24 : decode cX1_begin 24 = .ok (.aload_n 0, 1) := by decide +kernel
theorem dX1_begin_25 : decode cX1_begin 25 = .ok (.getfield 9, 3) := by decide +kernel
theorem dX1_begin_28 : decode cX1_begin 28 = .ok (.iload_n 2, 1) := by decide +kernel
theorem dX1_begin_29 : decode cX1_begin 29 = .ok (.iload_n 2, 1) := by decide +kernel
theorem dX1_begin_30 : decode cX1_begin 30 = .ok (.iastore, 1) := by decide +kernel
theorem dX1_begin_31 : decode cX1_begin 31 = .ok (.iinc 2 1, 3) := by decide +kernel
theorem dX1_begin_34 : decode cX1_begin 34 = .ok (.goto (-18), 3) := by decide +kernel
theorem dX1_begin_37 : decode cX1_begin 37 = .ok (.return_, 1) := by decide +kernel
theorem dX1_layerIn_0 : decode cX1_layerIn 0 = .ok (.iload_n 1, 1) := by decide +kernel
theorem dX1_layerIn_1 : decode cX1_layerIn 1 = .ok (.ifCond .lt 20, 3) := by decide +kernel
theorem dX1_layerIn_4 : decode cX1_layerIn 4 = .ok (.iload_n 1, 1) := by decide +kernel
theorem dX1_layerIn_5 : decode cX1_layerIn 5 = .ok (.aload_n 0, 1) := by decide +kernel
theorem dX1_layerIn_6 : decode cX1_layerIn 6 = .ok (.getfield 24, 3) := by decide +kernel
theorem dX1_layerIn_9 : decode cX1_layerIn 9 = .ok (.if_icmp .ge 12, 3) := by decide +kernel
theorem dX1_layerIn_12 : decode cX1_layerIn 12 = .ok (.aload_n 0, 1) := by decide +kernel
theorem dX1_layerIn_13 : decode cX1_layerIn 13 = .ok (.getfield 9, 3) := by decide +kernel
theorem dX1_layerIn_16 : decode cX1_layerIn 16 = .ok (.iload_n 1, 1) := by decide +kernel
theorem dX1_layerIn_17 : decode cX1_layerIn 17 = .ok (.iaload, 1) := by decide +kernel
theorem dX1_layerIn_18 : decode cX1_layerIn 18 = .ok (.goto 5, 3) := by decide +kernel
theorem dX1_layerIn_21 : decode cX1_layerIn 21 = .ok (.bipush (-9), 2) := by decide +kernel
theorem dX1_layerIn_23 : decode cX1_layerIn 23 = .ok (.ireturn, 1) := by decide +kernel
set_option maxRecDepth 20000 in
theorem ggX1_next_X1_placeOfNextGreater : GoodIn wsX1_next wsX1_placeOfNextGreater := goodIn_r _ [7, 1, 2, 16, 17] (by decide +kernel) (by decide +kernel)
set_option maxRecDepth 20000 in
theorem gX1_next_X1_placeOfNextGreater : GoodIn wsX1_next (wsV RX1 28 RX1 yX1_placeOfNextGreater wsX1_placeOfNextGreater) := goodIn_app (goodIn_of _ (by decide +kernel)) ggX1_next_X1_placeOfNextGreater
set_option maxRecDepth 20000 in
theorem ggX1_next_X1_swap : GoodIn wsX1_next wsX1_swap := goodIn_r _ [11, 2, 16, 17] (by decide +kernel) (by decide +kernel)
set_option maxRecDepth 20000 in
theorem gX1_next_X1_swap : GoodIn wsX1_next (wsV RX1 32 RX1 yX1_swap wsX1_swap) := goodIn_app (goodIn_of _ (by decide +kernel)) ggX1_next_X1_swap
set_option maxRecDepth 20000 in
theorem ggX1_next_X1_reverseFrom : GoodIn wsX1_next wsX1_reverseFrom := goodIn_r _ [15, 1, 8, 9, 10, 6, 11, 2, 16, 17] (by decide +kernel) (by decide +kernel)
set_option maxRecDepth 20000 in
theorem gX1_next_X1_reverseFrom : GoodIn wsX1_next (wsV RX1 36 RX1 yX1_reverseFrom wsX1_reverseFrom) := goodIn_app (goodIn_of _ (by decide +kernel)) ggX1_next_X1_reverseFrom
theorem dX1_next_0 : decode cX1_next 0 = .ok (.aload_n 0, 1) := by decide +kernel
theorem dX1_next_1 : decode cX1_next 1 = .ok (.getfield 24, 3) := by decide +kernel
theorem dX1_next_4 : decode cX1_next 4 = .ok (.iconst 2, 1) := by decide +kernel
theorem dX1_next_5 : decode cX1_next 5 = .ok (.isub, 1) := by decide +kernel
theorem dX1_next_6 : decode cX1_next 6 = .ok (.istore_n 1, 1) := by decide +kernel
theorem dX1_next_7 : decode cX1_next 7 = .ok (.iload_n 1, 1) := by decide +kernel
theorem dX1_next_8 : decode cX1_next 8 = .ok (.ifCond .lt 45, 3) := by decide +kernel
theorem dX1_next_11 : decode cX1_next 11 = .ok (.aload_n 0, 1) := by decide +kernel
theorem dX1_next_12 : decode cX1_next 12 = .ok (.getfield 9, 3) := by decide +kernel
theorem dX1_next_15 : decode cX1_next 15 = .ok (.iload_n 1, 1) := by decide +kernel
theorem dX1_next_16 : decode cX1_next 16 = .ok (.iaload, 1) := by decide +kernel
theorem dX1_next_17 : decode cX1_next 17 = .ok (.aload_n 0, 1) := by decide +kernel
theorem dX1_next_18 : decode cX1_next 18 = .ok (.getfield 9, 3) := by decide +kernel
theorem dX1_next_21 : decode cX1_next 21 = .ok (.iload_n 1, 1) := by decide +kernel
theorem dX1_next_22 : decode cX1_next 22 = .ok (.iconst 1, 1) := by decide +kernel
theorem dX1_next_23 : decode cX1_next 23 = .ok (.iadd, 1) := by decide +kernel
theorem dX1_next_24 : decode cX1_next 24 = .ok (.iaload, 1) := by decide +kernel
theorem dX1_next_25 : decode cX1_next 25 = .ok (.if_icmp .ge 22, 3) := by decide +kernel
theorem dX1_next_28 : decode cX1_next 28 = .ok (.aload_n 0, 1) := by decide +kernel
theorem dX1_next_29 : decode cX1_next 29 = .ok (.iload_n 1, 1) := by decide +kernel
theorem dX1_next_30 : decode cX1_next 30 = .ok (.aload_n 0, 1) := by decide +kernel
theorem dX1_next_31 : decode cX1_next 31 = .ok (.iload_n 1, 1) := by decide +kernel
theorem dX1_next_32 : decode cX1_next 32 = .ok (.invokevirtual 28, 3) := by decide +kernel
theorem dX1_next_35 : decode cX1_next 35 = .ok (.invokevirtual 32, 3) := by decide +kernel
theorem dX1_next_38 : decode cX1_next 38 = .ok (.aload_n 0, 1) := by decide +kernel
theorem dX1_next_39 : decode cX1_next 39 = .ok (.iload_n 1, 1) := by decide +kernel
theorem dX1_next_40 : decode cX1_next 40 = .ok (.iconst 1, 1) := by decide +kernel
theorem dX1_next_41 : decode cX1_next 41 = .ok (.iadd, 1) := by decide +kernel
theorem dX1_next_42 : decode cX1_next 42 = .ok (.invokevirtual 36, 3) := by decide +kernel
theorem dX1_next_45 : decode cX1_next 45 = .ok (.iconst 1, 1) := by decide +kernel
theorem dX1_next_46 : decode cX1_next 46 = .ok (.ireturn, 1) := by decide +kernel
theorem dX1_next_47 : decode cX1_next 47 = .ok (.iinc 1 (-1), 3) := by decide +kernel
theorem dX1_next_50 : decode cX1_next 50 = .ok (.goto (-43), 3) := by decide +kernel
theorem dX1_next_53 : decode cX1_next 53 = .ok (.iconst 0, 1) := by decide +kernel
theorem dX1_next_54 : decode cX1_next 54 = .ok (.ireturn, 1) := by decide +kernel
theorem dX1_placeOfNextGreater_0 : decode cX1_placeOfNextGreater 0 = .ok (.aload_n 0, 1) := by decide +kernel
theorem dX1_placeOfNextGreater_1 : decode cX1_placeOfNextGreater 1 = .ok (.getfield 24, 3) := by decide +kernel
theorem dX1_placeOfNextGreater_4 : decode cX1_placeOfNextGreater 4 = .ok (.iconst 1, 1) := by decide +kernel
theorem dX1_placeOfNextGreater_5 : decode cX1_placeOfNextGreater 5 = .ok (.isub, 1) := by decide +kernel
theorem dX1_placeOfNextGreater_6 : decode cX1_placeOfNextGreater 6 = .ok (.istore_n 2, 1) := by decide +kernel
theorem dX1_placeOfNextGreater_7 : decode cX1_placeOfNextGreater 7 = .ok (.iload_n 2, 1) := by decide +kernel
theorem dX1_placeOfNextGreater_8 : decode cX1_placeOfNextGreater 8 = .ok (.iload_n 1, 1) := by decide +kernel
theorem dX1_placeOfNextGreater_9 : decode cX1_placeOfNextGreater 9 = .ok (.if_icmp .le 26, 3) := by decide +kernel
theorem dX1_placeOfNextGreater_12 : decode cX1_placeOfNextGreater 12 = .ok (.aload_n 0, 1) := by decide +kernel
theorem dX1_placeOfNextGreater_13 : decode cX1_placeOfNextGreater 13 = .ok (.getfield 9, 3) := by decide +kernel
theorem dX1_placeOfNextGreater_16 : decode cX1_placeOfNextGreater 16 = .ok (.iload_n 2, 1) := by decide +kernel
theorem dX1_placeOfNextGreater_17 : decode cX1_placeOfNextGreater 17 = .ok (.iaload, 1) := by decide +kernel
theorem dX1_placeOfNextGreater_18 : decode cX1_placeOfNextGreater 18 = .ok (.aload_n 0, 1) := by decide +kernel
theorem dX1_placeOfNextGreater_19 : decode cX1_placeOfNextGreater 19 = .ok (.getfield 9, 3) := by decide +kernel
theorem dX1_placeOfNextGreater_22 : decode cX1_placeOfNextGreater 22 = .ok (.iload_n 1, 1) := by decide +kernel
theorem dX1_placeOfNextGreater_23 : decode cX1_placeOfNextGreater 23 = .ok (.iaload, 1) := by decide +kernel
theorem dX1_placeOfNextGreater_24 : decode cX1_placeOfNextGreater 24 = .ok (.if_icmp .le 5, 3) := by decide +kernel
theorem dX1_placeOfNextGreater_27 : decode cX1_placeOfNextGreater 27 = .ok (.iload_n 2, 1) := by decide +kernel
theorem dX1_placeOfNextGreater_28 : decode cX1_placeOfNextGreater 28 = .ok (.ireturn, 1) := by decide +kernel
theorem dX1_placeOfNextGreater_29 : decode cX1_placeOfNextGreater 29 = .ok (.iinc 2 (-1), 3) := by decide +kernel
theorem dX1_placeOfNextGreater_32 : decode cX1_placeOfNextGreater 32 = .ok (.goto (-25), 3) := by decide +kernel
theorem dX1_placeOfNextGreater_35 : decode cX1_placeOfNextGreater 35 = .ok (.iload_n 1, 1) := by decide +kernel
theorem dX1_placeOfNextGreater_36 : decode cX1_placeOfNextGreater 36 = .ok (.ireturn, 1) := by decide +kernel
set_option maxRecDepth 20000 in
theorem ggX1_reverseFrom_X1_swap : GoodIn wsX1_reverseFrom wsX1_swap := goodIn_r _ [6, 7, 8, 9] (by decide +kernel) (by decide +kernel)
set_option maxRecDepth 20000 in
theorem gX1_reverseFrom_X1_swap : GoodIn wsX1_reverseFrom (wsV RX1 32 RX1 yX1_swap wsX1_swap) := goodIn_app (goodIn_of _ (by decide +kernel)) ggX1_reverseFrom_X1_swap
theorem dX1_reverseFrom_0 : decode cX1_reverseFrom 0 = .ok (.aload_n 0, 1) := by decide +kernel
theorem dX1_reverseFrom_1 : decode cX1_reverseFrom 1 = .ok (.getfield 24, 3) := by decide +kernel
theorem dX1_reverseFrom_4 : decode cX1_reverseFrom 4 = .ok (.iconst 1, 1) := by decide +kernel
theorem dX1_reverseFrom_5 : decode cX1_reverseFrom 5 = .ok (.isub, 1) := by decide +kernel
theorem dX1_reverseFrom_6 : decode cX1_reverseFrom 6 = .ok (.istore_n 2, 1) := by decide +kernel
theorem dX1_reverseFrom_7 : decode cX1_reverseFrom 7 = .ok (.iload_n 1, 1) := by decide +kernel
theorem dX1_reverseFrom_8 : decode cX1_reverseFrom 8 = .ok (.istore_n 3, 1) := by decide +kernel
theorem dX1_reverseFrom_9 : decode cX1_reverseFrom 9 = .ok (.iload_n 3, 1) := by decide +kernel
theorem dX1_reverseFrom_10 : decode cX1_reverseFrom 10 = .ok (.iload_n 2, 1) := by decide +kernel
theorem dX1_reverseFrom_11 : decode cX1_reverseFrom 11 = .ok (.if_icmp .ge 18, 3) := by decide +kernel
theorem dX1_reverseFrom_14 : decode cX1_reverseFrom 14 = .ok (.aload_n 0, 1) := by decide +kernel
theorem dX1_reverseFrom_15 : decode cX1_reverseFrom 15 = .ok (.iload_n 3, 1) := by decide +kernel
theorem dX1_reverseFrom_16 : decode cX1_reverseFrom 16 = .ok (.iload_n 2, 1) := by decide +kernel
theorem dX1_reverseFrom_17 : decode cX1_reverseFrom 17 = .ok (.invokevirtual 32, 3) := by decide +kernel
theorem dX1_reverseFrom_20 : decode cX1_reverseFrom 20 = .ok (.iinc 2 (-1), 3) := by decide +kernel
theorem dX1_reverseFrom_23 : decode cX1_reverseFrom 23 = .ok (.iinc 3 1, 3) := by decide +kernel
theorem dX1_reverseFrom_26 : decode cX1_reverseFrom 26 = .ok (.goto (-17), 3) := by decide +kernel
theorem dX1_reverseFrom_29 : decode cX1_reverseFrom 29 = .ok (.return_, 1) := by decide +kernel
theorem dX1_swap_0 : decode cX1_swap 0 = .ok (.aload_n 0, 1) := by decide +kernel
theorem dX1_swap_1 : decode cX1_swap 1 = .ok (.getfield 9, 3) := by decide +kernel
theorem dX1_swap_4 : decode cX1_swap 4 = .ok (.iload_n 1, 1) := by decide +kernel
theorem dX1_swap_5 : decode cX1_swap 5 = .ok (.iaload, 1) := by decide +kernel
theorem dX1_swap_6 : decode cX1_swap 6 = .ok (.istore_n 3, 1) := by decide +kernel
theorem dX1_swap_7 : decode cX1_swap 7 = .ok (.aload_n 0, 1) := by decide +kernel
theorem dX1_swap_8 : decode cX1_swap 8 = .ok (.getfield 9, 3) := by decide +kernel
theorem dX1_swap_11 : decode cX1_swap 11 = .ok (.iload_n 1, 1) := by decide +kernel
theorem dX1_swap_12 : decode cX1_swap 12 = .ok (.aload_n 0, 1) := by decide +kernel
theorem dX1_swap_13 : decode cX1_swap 13 = .ok (.getfield 9, 3) := by decide +kernel
theorem dX1_swap_16 : decode cX1_swap 16 = .ok (.iload_n 2, 1) := by decide +kernel
theorem dX1_swap_17 : decode cX1_swap 17 = .ok (.iaload, 1) := by decide +kernel
theorem dX1_swap_18 : decode cX1_swap 18 = .ok (.iastore, 1) := by decide +kernel
theorem dX1_swap_19 : decode cX1_swap 19 = .ok (.aload_n 0, 1) := by decide +kernel
theorem dX1_swap_20 : decode cX1_swap 20 = .ok (.getfield 9, 3) := by decide +kernel
theorem dX1_swap_23 : decode cX1_swap 23 = .ok (.iload_n 2, 1) := by decide +kernel
theorem dX1_swap_24 : decode cX1_swap 24 = .ok (.iload_n 3, 1) := by decide +kernel
theorem dX1_swap_25 : decode cX1_swap 25 = .ok (.iastore, 1) := by decide +kernel
theorem dX1_swap_26 : decode cX1_swap 26 = .ok (.return_, 1) := by decide +kernel
theorem dX2_init_0 : decode cX2_init 0 = .ok (.aload_n 0, 1) := by decide +kernel
theorem dX2_init_1 : decode cX2_init 1 = .ok (.invokespecial 3, 3) := by decide +kernel
theorem dX2_init_4 : decode cX2_init 4 = .ok (.aload_n 0, 1) := by decide +kernel
theorem dX2_init_5 : decode cX2_init 5 = .ok (.bipush 8, 2) := by decide +kernel
theorem dX2_init_7 : decode cX2_init 7 = .ok (.newarray .int, 2) := by decide +kernel
theorem dX2_init_9 : decode cX2_init 9 = .ok (.putfield 9, 3) := by decide +kernel
theorem dX2_init_12 : decode cX2_init 12 = .ok (.aload_n 0, 1) := by decide +kernel
theorem dX2_init_13 : decode cX2_init 13 = .ok (.bipush 8, 2) := by decide +kernel
theorem dX2_init_15 : decode cX2_init 15 = .ok (.newarray .int, 2) := by decide +kernel
theorem dX2_init_17 : decode cX2_init 17 = .ok (.putfield 15, 3) := by decide +kernel
theorem dX2_init_20 : decode cX2_init 20 = .ok (.return_, 1) := by decide +kernel
theorem dX2_note_0 : decode cX2_note 0 = .ok (.aload_n 0, 1) := by decide +kernel
theorem dX2_note_1 : decode cX2_note 1 = .ok (.getfield 18, 3) := by decide +kernel
theorem dX2_note_4 : decode cX2_note 4 = .ok (.bipush 8, 2) := by decide +kernel
theorem dX2_note_6 : decode cX2_note 6 = .ok (.if_icmp .lt 5, 3) := by decide +kernel
theorem dX2_note_9 : decode cX2_note 9 = .ok (.iconst 0, 1) := by decide +kernel
theorem dX2_note_10 : decode cX2_note 10 = .ok (.ireturn, 1) := by decide +kernel
theorem dX2_note_11 : decode cX2_note 11 = .ok (.aload_n 0, 1) := by decide +kernel
theorem dX2_note_12 : decode cX2_note 12 = .ok (.getfield 9, 3) := by decide +kernel
theorem dX2_note_15 : decode cX2_note 15 = .ok (.aload_n 0, 1) := by decide +kernel
theorem dX2_note_16 : decode cX2_note 16 = .ok (.getfield 18, 3) := by decide +kernel
theorem dX2_note_19 : decode cX2_note 19 = .ok (.iload_n 1, 1) := by decide +kernel
theorem dX2_note_20 : decode cX2_note 20 = .ok (.iastore, 1) := by decide +kernel
theorem dX2_note_21 : decode cX2_note 21 = .ok (.aload_n 0, 1) := by decide +kernel
theorem dX2_note_22 : decode cX2_note 22 = .ok (.getfield 15, 3) := by decide +kernel
theorem dX2_note_25 : decode cX2_note 25 = .ok (.aload_n 0, 1) := by decide +kernel
theorem dX2_note_26 : decode cX2_note 26 = .ok (.getfield 18, 3) := by decide +kernel
theorem dX2_note_29 : decode cX2_note 29 = .ok (.iload_n 2, 1) := by decide +kernel
theorem dX2_note_30 : decode cX2_note 30 = .ok (.iastore, 1) := by decide +kernel
theorem dX2_note_31 : decode cX2_note 31 = .ok (.aload_n 0, 1) := by decide +kernel
theorem dX2_note_32 : decode cX2_note 32 = .ok (.dup, 1) := by decide +kernel
theorem dX2_note_33 : decode cX2_note 33 = .ok (.getfield 18, 3) := by decide +kernel
theorem dX2_note_36 : decode cX2_note 36 = .ok (.iconst 1, 1) := by decide +kernel
theorem dX2_note_37 : decode cX2_note 37 = .ok (.iadd, 1) := by decide +kernel
theorem dX2_note_38 : decode cX2_note 38 = .ok (.putfield 18, 3) := by decide +kernel
theorem dX2_note_41 : decode cX2_note 41 = .ok (.iconst 1, 1) := by decide +kernel
theorem dX2_note_42 : decode cX2_note 42 = .ok (.ireturn, 1) := by decide +kernel
set_option maxRecDepth 20000 in
theorem ggX2_agreeWith_X4_counselBy : GoodIn wsX2_agreeWith wsX4_counselBy := goodIn_r _ [8, 9, 10, 11, 12, 13, 7, 14, 15, 16, 17, 18, 19, 20, 21, 22, 23, 24, 25, 26, 27, 28, 29, 30, 34, 35, 36, 37, 38, 39, 40] (by decide +kernel) (by decide +kernel)
set_option maxRecDepth 20000 in
theorem gX2_agreeWith_X4_counselBy : GoodIn wsX2_agreeWith (wsV RX2 22 RX4 yX4_counselBy wsX4_counselBy) := goodIn_app (goodIn_of _ (by decide +kernel)) ggX2_agreeWith_X4_counselBy
theorem dX2_agreeWith_0 : decode cX2_agreeWith 0 = .ok (.iconst 0, 1) := by decide +kernel
theorem dX2_agreeWith_1 : decode cX2_agreeWith 1 = .ok (.istore_n 2, 1) := by decide +kernel
theorem dX2_agreeWith_2 : decode cX2_agreeWith 2 = .ok (.iload_n 2, 1) := by decide +kernel
theorem dX2_agreeWith_3 : decode cX2_agreeWith 3 = .ok (.aload_n 0, 1) := by decide +kernel
theorem dX2_agreeWith_4 : decode cX2_agreeWith 4 = .ok (.getfield 18, 3) := by decide +kernel
theorem dX2_agreeWith_7 : decode cX2_agreeWith 7 = .ok (.if_icmp .ge 30, 3) := by decide +kernel
theorem dX2_agreeWith_10 : decode cX2_agreeWith 10 = .ok (.aload_n 1, 1) := by decide +kernel
theorem dX2_agreeWith_11 : decode cX2_agreeWith 11 = .ok (.aload_n 0, 1) := by decide +kernel
theorem dX2_agreeWith_12 : decode cX2_agreeWith 12 = .ok (.getfield 9, 3) := by decide +kernel
theorem dX2_agreeWith_15 : decode cX2_agreeWith 15 = .ok (.iload_n 2, 1) := by decide +kernel
theorem dX2_agreeWith_16 : decode cX2_agreeWith 16 = .ok (.iaload, 1) := by decide +kernel
theorem dX2_agreeWith_17 : decode cX2_agreeWith 17 = .ok (.invokevirtual 22, 3) := by decide +kernel
theorem dX2_agreeWith_20 : decode cX2_agreeWith 20 = .ok (.aload_n 0, 1) := by decide +kernel
theorem dX2_agreeWith_21 : decode cX2_agreeWith 21 = .ok (.getfield 15, 3) := by decide +kernel
theorem dX2_agreeWith_24 : decode cX2_agreeWith 24 = .ok (.iload_n 2, 1) := by decide +kernel
theorem dX2_agreeWith_25 : decode cX2_agreeWith 25 = .ok (.iaload, 1) := by decide +kernel
theorem dX2_agreeWith_26 : decode cX2_agreeWith 26 = .ok (.if_icmp .eq 5, 3) := by decide +kernel
theorem dX2_agreeWith_29 : decode cX2_agreeWith 29 = .ok (.iconst 0, 1) := by decide +kernel
theorem dX2_agreeWith_30 : decode cX2_agreeWith 30 = .ok (.ireturn, 1) := by decide +kernel
theorem dX2_agreeWith_31 : decode cX2_agreeWith 31 = .ok (.iinc 2 1, 3) := by decide +kernel
theorem dX2_agreeWith_34 : decode cX2_agreeWith 34 = .ok (.goto (-32), 3) := by decide +kernel
theorem dX2_agreeWith_37 : decode cX2_agreeWith 37 = .ok (.iconst 1, 1) := by decide +kernel
theorem dX2_agreeWith_38 : decode cX2_agreeWith 38 = .ok (.ireturn, 1) := by decide +kernel
theorem dX3_init_0 : decode cX3_init 0 = .ok (.aload_n 0, 1) := by decide +kernel
theorem dX3_init_1 : decode cX3_init 1 = .ok (.invokespecial 3, 3) := by decide +kernel
theorem dX3_init_4 : decode cX3_init 4 = .ok (.aload_n 0, 1) := by decide +kernel
theorem dX3_init_5 : decode cX3_init 5 = .ok (.bipush 60, 2) := by decide +kernel
theorem dX3_init_7 : decode cX3_init 7 = .ok (.newarray .int, 2) := by decide +kernel
theorem dX3_init_9 : decode cX3_init 9 = .ok (.putfield 9, 3) := by decide +kernel
theorem dX3_init_12 : decode cX3_init 12 = .ok (.return_, 1) := by decide +kernel
theorem dX3_begin_0 : decode cX3_begin 0 = .ok (.aload_n 0, 1) := by decide +kernel
theorem dX3_begin_1 : decode cX3_begin 1 = .ok (.iconst 1, 1) := by decide +kernel
theorem dX3_begin_2 : decode cX3_begin 2 = .ok (.putfield 15, 3) := by decide +kernel
theorem dX3_begin_5 : decode cX3_begin 5 = .ok (.aload_n 0, 1) := by decide +kernel
theorem dX3_begin_6 : decode cX3_begin 6 = .ok (.iload_n 1, 1) := by decide +kernel
theorem dX3_begin_7 : decode cX3_begin 7 = .ok (.putfield 19, 3) := by decide +kernel
theorem dX3_begin_10 : decode cX3_begin 10 = .ok (.aload_n 0, 1) := by decide +kernel
theorem dX3_begin_11 : decode cX3_begin 11 = .ok (.iload_n 2, 1) := by decide +kernel
theorem dX3_begin_12 : decode cX3_begin 12 = .ok (.iconst 0, 1) := by decide +kernel
theorem dX3_begin_13 : decode cX3_begin 13 = .ok (.invokestatic 23, 3) := by decide +kernel
theorem dX3_begin_16 : decode cX3_begin 16 = .ok (.bipush 60, 2) := by decide +kernel
theorem dX3_begin_18 : decode cX3_begin 18 = .ok (.invokestatic 29, 3) := by decide +kernel
theorem dX3_begin_21 : decode cX3_begin 21 = .ok (.putfield 32, 3) := by decide +kernel
theorem dX3_begin_24 : decode cX3_begin 24 = .ok (.iconst 0, 1) := by decide +kernel
theorem dX3_begin_25 : decode cX3_begin 25 = .ok (.istore_n 3, 1) := by decide +kernel
theorem dX3_begin_26 : decode cX3_begin 26 = .ok (.iload_n 3, 1) := by decide +kernel
theorem dX3_begin_27 : decode cX3_begin 27 = .ok (.bipush 60, 2) := by decide +kernel
theorem dX3_begin_29 : decode cX3_begin 29 = .ok (.if_icmp .ge 16, 3) := by decide +kernel
theorem dX3_begin_32 : decode cX3_begin 32 = .ok (.aload_n 0, 1) := by decide +kernel
theorem dX3_begin_33 : decode cX3_begin 33 = .ok (.getfield 9, 3) := by decide +kernel
theorem dX3_begin_36 : decode cX3_begin 36 = .ok (.iload_n 3, 1) := by decide +kernel
theorem dX3_begin_37 : decode cX3_begin 37 = .ok (.iconst 0, 1) := by decide +kernel
theorem dX3_begin_38 : decode cX3_begin 38 = .ok (.iastore, 1) := by decide +kernel
theorem dX3_begin_39 : decode cX3_begin 39 = .ok (.iinc 3 1, 3) := by decide +kernel
theorem dX3_begin_42 : decode cX3_begin 42 = .ok (.goto (-16), 3) := by decide +kernel
theorem dX3_begin_45 : decode cX3_begin 45 = .ok (.return_, 1) := by decide +kernel
theorem dX3_faultAsLane_0 : decode cX3_faultAsLane 0 = .ok (.aload_n 0, 1) := by decide +kernel
theorem dX3_faultAsLane_1 : decode cX3_faultAsLane 1 = .ok (.getfield 15, 3) := by decide +kernel
theorem dX3_faultAsLane_4 : decode cX3_faultAsLane 4 = .ok (.ifCond .ne 5, 3) := by decide +kernel
theorem dX3_faultAsLane_7 : decode cX3_faultAsLane 7 = .ok (.iconst 1, 1) := by decide +kernel
theorem dX3_faultAsLane_8 : decode cX3_faultAsLane 8 = .ok (.ireturn, 1) := by decide +kernel
theorem dX3_faultAsLane_9 : decode cX3_faultAsLane 9 = .ok (.aload_n 0, 1) := by decide +kernel
theorem dX3_faultAsLane_10 : decode cX3_faultAsLane 10 = .ok (.getfield 19, 3) := by decide +kernel
theorem dX3_faultAsLane_13 : decode cX3_faultAsLane 13 = .ok (.iload_n 1, 1) := by decide +kernel
theorem dX3_faultAsLane_14 : decode cX3_faultAsLane 14 = .ok (.if_icmp .ne 7, 3) := by decide +kernel
theorem dX3_faultAsLane_17 : decode cX3_faultAsLane 17 = .ok (.iconst 0, 1) := by decide +kernel
theorem dX3_faultAsLane_18 : decode cX3_faultAsLane 18 = .ok (.goto 4, 3) := by decide +kernel
theorem dX3_faultAsLane_21 : decode cX3_faultAsLane 21 = .ok (.iconst 2, 1) := by decide +kernel
theorem dX3_faultAsLane_22 : decode cX3_faultAsLane 22 = .ok (.ireturn, 1) := by decide +kernel
theorem dX3_faultOfCell_0 : decode cX3_faultOfCell 0 = .ok (.aload_n 0, 1) := by decide +kernel
theorem dX3_faultOfCell_1 : decode cX3_faultOfCell 1 = .ok (.getfield 15, 3) := by decide +kernel
theorem dX3_faultOfCell_4 : decode cX3_faultOfCell 4 = .ok (.ifCond .ne 5, 3) := by decide +kernel
theorem dX3_faultOfCell_7 : decode cX3_faultOfCell 7 = .ok (.iconst 1, 1) := by decide +kernel
theorem dX3_faultOfCell_8 : decode cX3_faultOfCell 8 = .ok (.ireturn, 1) := by decide +kernel
theorem dX3_faultOfCell_9 : decode cX3_faultOfCell 9 = .ok (.iload_n 1, 1) := by decide +kernel
theorem dX3_faultOfCell_10 : decode cX3_faultOfCell 10 = .ok (.ifCond .lt 15, 3) := by decide +kernel
theorem dX3_faultOfCell_13 : decode cX3_faultOfCell 13 = .ok (.iload_n 1, 1) := by decide +kernel
theorem dX3_faultOfCell_14 : decode cX3_faultOfCell 14 = .ok (.aload_n 0, 1) := by decide +kernel
theorem dX3_faultOfCell_15 : decode cX3_faultOfCell 15 = .ok (.getfield 32, 3) := by decide +kernel
theorem dX3_faultOfCell_18 : decode cX3_faultOfCell 18 = .ok (.if_icmp .ge 7, 3) := by decide +kernel
theorem dX3_faultOfCell_21 : decode cX3_faultOfCell 21 = .ok (.iconst 0, 1) := by decide +kernel
theorem dX3_faultOfCell_22 : decode cX3_faultOfCell 22 = .ok (.goto 4, 3) := by decide +kernel
theorem dX3_faultOfCell_25 : decode cX3_faultOfCell 25 = .ok (.iconst 3, 1) := by decide +kernel
theorem dX3_faultOfCell_26 : decode cX3_faultOfCell 26 = .ok (.ireturn, 1) := by decide +kernel
theorem dX3_faultOfCells_0 : decode cX3_faultOfCells 0 = .ok (.aload_n 0, 1) := by decide +kernel
theorem dX3_faultOfCells_1 : decode cX3_faultOfCells 1 = .ok (.getfield 15, 3) := by decide +kernel
theorem dX3_faultOfCells_4 : decode cX3_faultOfCells 4 = .ok (.ifCond .ne 5, 3) := by decide +kernel
theorem dX3_faultOfCells_7 : decode cX3_faultOfCells 7 = .ok (.iconst 1, 1) := by decide +kernel
theorem dX3_faultOfCells_8 : decode cX3_faultOfCells 8 = .ok (.ireturn, 1) := by decide +kernel
theorem dX3_faultOfCells_9 : decode cX3_faultOfCells 9 = .ok (.iload_n 1, 1) := by decide +kernel
theorem dX3_faultOfCells_10 : decode cX3_faultOfCells 10 = .ok (.ifCond .lt 29, 3) := by decide +kernel
theorem dX3_faultOfCells_13 : decode cX3_faultOfCells 13 = .ok (.iload_n 1, 1) := by decide +kernel
theorem dX3_faultOfCells_14 : decode cX3_faultOfCells 14 = .ok (.aload_n 0, 1) := by decide +kernel
theorem dX3_faultOfCells_15 : decode cX3_faultOfCells 15 = .ok (.getfield 32, 3) := by decide +kernel
theorem dX3_faultOfCells_18 : decode cX3_faultOfCells 18 = .ok (.if_icmp .gt 21, 3) := by decide +kernel
theorem dX3_faultOfCells_21 : decode cX3_faultOfCells 21 = .ok (.iload_n 2, 1) := by decide +kernel
theorem dX3_faultOfCells_22 : decode cX3_faultOfCells 22 = .ok (.ifCond .lt 17, 3) := by decide +kernel
theorem dX3_faultOfCells_25 : decode cX3_faultOfCells 25 = .ok (.iload_n 2, 1) := by decide +kernel
theorem dX3_faultOfCells_26 : decode cX3_faultOfCells 26 = .ok (.aload_n 0, 1) := by decide +kernel
theorem dX3_faultOfCells_27 : decode cX3_faultOfCells 27 = .ok (.getfield 32, 3) := by decide +kernel
theorem dX3_faultOfCells_30 : decode cX3_faultOfCells 30 = .ok (.iload_n 1, 1) := by decide +kernel
theorem dX3_faultOfCells_31 : decode cX3_faultOfCells 31 = .ok (.isub, 1) := by decide +kernel
theorem dX3_faultOfCells_32 : decode cX3_faultOfCells 32 = .ok (.if_icmp .gt 7, 3) := by decide +kernel
theorem dX3_faultOfCells_35 : decode cX3_faultOfCells 35 = .ok (.iconst 0, 1) := by decide +kernel
theorem dX3_faultOfCells_36 : decode cX3_faultOfCells 36 = .ok (.goto 4, 3) := by decide +kernel
theorem dX3_faultOfCells_39 : decode cX3_faultOfCells 39 = .ok (.iconst 3, 1) := by decide +kernel
theorem dX3_faultOfCells_40 : decode cX3_faultOfCells 40 = .ok (.ireturn, 1) := by decide +kernel
set_option maxRecDepth 20000 in
theorem ggX3_faultOfCopy_X3_faultOfCells : GoodIn wsX3_faultOfCopy wsX3_faultOfCells := goodIn_r _ [7, 1, 8, 9, 10, 11, 12] (by decide +kernel) (by decide +kernel)
set_option maxRecDepth 20000 in
theorem gX3_faultOfCopy_X3_faultOfCells : GoodIn wsX3_faultOfCopy (wsV RX3 35 RX3 yX3_faultOfCells wsX3_faultOfCells) := goodIn_app (goodIn_of _ (by decide +kernel)) ggX3_faultOfCopy_X3_faultOfCells
theorem dX3_faultOfCopy_0 : decode cX3_faultOfCopy 0 = .ok (.aload_n 0, 1) := by decide +kernel
theorem dX3_faultOfCopy_1 : decode cX3_faultOfCopy 1 = .ok (.getfield 15, 3) := by decide +kernel
theorem dX3_faultOfCopy_4 : decode cX3_faultOfCopy 4 = .ok (.ifCond .eq 10, 3) := by decide +kernel
theorem dX3_faultOfCopy_7 : decode cX3_faultOfCopy 7 = .ok (.aload_n 2, 1) := by decide +kernel
theorem dX3_faultOfCopy_8 : decode cX3_faultOfCopy 8 = .ok (.getfield 15, 3) := by decide +kernel
theorem dX3_faultOfCopy_11 : decode cX3_faultOfCopy 11 = .ok (.ifCond .ne 5, 3) := by decide +kernel
theorem dX3_faultOfCopy_14 : decode cX3_faultOfCopy 14 = .ok (.iconst 1, 1) := by decide +kernel
theorem dX3_faultOfCopy_15 : decode cX3_faultOfCopy 15 = .ok (.ireturn, 1) := by decide +kernel
theorem dX3_faultOfCopy_16 : decode cX3_faultOfCopy 16 = .ok (.aload_n 0, 1) := by decide +kernel
theorem dX3_faultOfCopy_17 : decode cX3_faultOfCopy 17 = .ok (.getfield 19, 3) := by decide +kernel
theorem dX3_faultOfCopy_20 : decode cX3_faultOfCopy 20 = .ok (.aload_n 2, 1) := by decide +kernel
theorem dX3_faultOfCopy_21 : decode cX3_faultOfCopy 21 = .ok (.getfield 19, 3) := by decide +kernel
theorem dX3_faultOfCopy_24 : decode cX3_faultOfCopy 24 = .ok (.if_icmp .eq 5, 3) := by decide +kernel
theorem dX3_faultOfCopy_27 : decode cX3_faultOfCopy 27 = .ok (.iconst 2, 1) := by decide +kernel
theorem dX3_faultOfCopy_28 : decode cX3_faultOfCopy 28 = .ok (.ireturn, 1) := by decide +kernel
theorem dX3_faultOfCopy_29 : decode cX3_faultOfCopy 29 = .ok (.aload_n 0, 1) := by decide +kernel
theorem dX3_faultOfCopy_30 : decode cX3_faultOfCopy 30 = .ok (.iload_n 1, 1) := by decide +kernel
theorem dX3_faultOfCopy_31 : decode cX3_faultOfCopy 31 = .ok (.iload 4, 2) := by decide +kernel
theorem dX3_faultOfCopy_33 : decode cX3_faultOfCopy 33 = .ok (.invokevirtual 35, 3) := by decide +kernel
theorem dX3_faultOfCopy_36 : decode cX3_faultOfCopy 36 = .ok (.istore 5, 2) := by decide +kernel
theorem dX3_faultOfCopy_38 : decode cX3_faultOfCopy 38 = .ok (.iload 5, 2) := by decide +kernel
theorem dX3_faultOfCopy_40 : decode cX3_faultOfCopy 40 = .ok (.ifCond .ne 13, 3) := by decide +kernel
theorem dX3_faultOfCopy_43 : decode cX3_faultOfCopy 43 = .ok (.aload_n 2, 1) := by decide +kernel
theorem dX3_faultOfCopy_44 : decode cX3_faultOfCopy 44 = .ok (.iload_n 3, 1) := by decide +kernel
theorem dX3_faultOfCopy_45 : decode cX3_faultOfCopy 45 = .ok (.iload 4, 2) := by decide +kernel
theorem dX3_faultOfCopy_47 : decode cX3_faultOfCopy 47 = .ok (.invokevirtual 35, 3) := by decide +kernel
theorem dX3_faultOfCopy_50 : decode cX3_faultOfCopy 50 = .ok (.goto 5, 3) := by decide +kernel
theorem dX3_faultOfCopy_53 : decode cX3_faultOfCopy 53 = .ok (.iload 5, 2) := by decide +kernel
theorem dX3_faultOfCopy_55 : decode cX3_faultOfCopy 55 = .ok (.ireturn, 1) := by decide +kernel
theorem dX3_getCell_0 : decode cX3_getCell 0 = .ok (.iload_n 1, 1) := by decide +kernel
theorem dX3_getCell_1 : decode cX3_getCell 1 = .ok (.ifCond .lt 20, 3) := by decide +kernel
theorem dX3_getCell_4 : decode cX3_getCell 4 = .ok (.iload_n 1, 1) := by decide +kernel
theorem dX3_getCell_5 : decode cX3_getCell 5 = .ok (.aload_n 0, 1) := by decide +kernel
theorem dX3_getCell_6 : decode cX3_getCell 6 = .ok (.getfield 32, 3) := by decide +kernel
theorem dX3_getCell_9 : decode cX3_getCell 9 = .ok (.if_icmp .ge 12, 3) := by decide +kernel
theorem dX3_getCell_12 : decode cX3_getCell 12 = .ok (.aload_n 0, 1) := by decide +kernel
theorem dX3_getCell_13 : decode cX3_getCell 13 = .ok (.getfield 9, 3) := by decide +kernel
theorem dX3_getCell_16 : decode cX3_getCell 16 = .ok (.iload_n 1, 1) := by decide +kernel
theorem dX3_getCell_17 : decode cX3_getCell 17 = .ok (.iaload, 1) := by decide +kernel
theorem dX3_getCell_18 : decode cX3_getCell 18 = .ok (.goto 4, 3) := by decide +kernel
theorem dX3_getCell_21 : decode cX3_getCell 21 = .ok (.iconst 0, 1) := by decide +kernel
theorem dX3_getCell_22 : decode cX3_getCell 22 = .ok (.ireturn, 1) := by decide +kernel
set_option maxRecDepth 20000 in
theorem ggX3_setCell_X3_cut : GoodIn wsX3_setCell wsX3_cut := goodIn_r _ [7, 8, 9, 10, 11, 12] (by decide +kernel) (by decide +kernel)
set_option maxRecDepth 20000 in
theorem gX3_setCell_X3_cut : GoodIn wsX3_setCell (wsV RX3 38 RX3 yX3_cut wsX3_cut) := goodIn_app (goodIn_of _ (by decide +kernel)) ggX3_setCell_X3_cut
theorem dX3_setCell_0 : decode cX3_setCell 0 = .ok (.iload_n 1, 1) := by decide +kernel
theorem dX3_setCell_1 : decode cX3_setCell 1 = .ok (.ifCond .lt 22, 3) := by decide +kernel
theorem dX3_setCell_4 : decode cX3_setCell 4 = .ok (.iload_n 1, 1) := by decide +kernel
theorem dX3_setCell_5 : decode cX3_setCell 5 = .ok (.aload_n 0, 1) := by decide +kernel
theorem dX3_setCell_6 : decode cX3_setCell 6 = .ok (.getfield 32, 3) := by decide +kernel
theorem dX3_setCell_9 : decode cX3_setCell 9 = .ok (.if_icmp .ge 14, 3) := by decide +kernel
theorem dX3_setCell_12 : decode cX3_setCell 12 = .ok (.aload_n 0, 1) := by decide +kernel
theorem dX3_setCell_13 : decode cX3_setCell 13 = .ok (.getfield 9, 3) := by decide +kernel
theorem dX3_setCell_16 : decode cX3_setCell 16 = .ok (.iload_n 1, 1) := by decide +kernel
theorem dX3_setCell_17 : decode cX3_setCell 17 = .ok (.aload_n 0, 1) := by decide +kernel
theorem dX3_setCell_18 : decode cX3_setCell 18 = .ok (.iload_n 2, 1) := by decide +kernel
theorem dX3_setCell_19 : decode cX3_setCell 19 = .ok (.invokevirtual 38, 3) := by decide +kernel
theorem dX3_setCell_22 : decode cX3_setCell 22 = .ok (.iastore, 1) := by decide +kernel
theorem dX3_setCell_23 : decode cX3_setCell 23 = .ok (.return_, 1) := by decide +kernel
theorem dX3_cut_0 : decode cX3_cut 0 = .ok (.aload_n 0, 1) := by decide +kernel
theorem dX3_cut_1 : decode cX3_cut 1 = .ok (.getfield 19, 3) := by decide +kernel
theorem dX3_cut_4 : decode cX3_cut 4 = .ok (.lookupswitch 34 #[(0, 28), (1, 31)], 28) := by decide +kernel
theorem dX3_cut_32 : decode cX3_cut 32 = .ok (.iload_n 1, 1) := by decide +kernel
theorem dX3_cut_33 : decode cX3_cut 33 = .ok (.i2b, 1) := by decide +kernel
theorem dX3_cut_34 : decode cX3_cut 34 = .ok (.ireturn, 1) := by decide +kernel
theorem dX3_cut_35 : decode cX3_cut 35 = .ok (.iload_n 1, 1) := by decide +kernel
theorem dX3_cut_36 : decode cX3_cut 36 = .ok (.i2s, 1) := by decide +kernel
theorem dX3_cut_37 : decode cX3_cut 37 = .ok (.ireturn, 1) := by decide +kernel
theorem dX3_cut_38 : decode cX3_cut 38 = .ok (.iload_n 1, 1) := by decide +kernel
theorem dX3_cut_39 : decode cX3_cut 39 = .ok (.ireturn, 1) := by decide +kernel
set_option maxRecDepth 20000 in
theorem ggX4_init_X0_init : GoodIn wsX4_init wsX0_init := goodIn_r _ [9, 10, 2, 3] (by decide +kernel) (by decide +kernel)
set_option maxRecDepth 20000 in
theorem gX4_init_X0_init_n17 : GoodIn wsX4_init (wsX0_init) := ggX4_init_X0_init
theorem dX4_init_0 : decode cX4_init 0 = .ok (.aload_n 0, 1) := by decide +kernel
theorem dX4_init_1 : decode cX4_init 1 = .ok (.invokespecial 3, 3) := by decide +kernel
theorem dX4_init_4 : decode cX4_init 4 = .ok (.aload_n 0, 1) := by decide +kernel
theorem dX4_init_5 : decode cX4_init 5 = .ok (.bipush 6, 2) := by decide +kernel
theorem dX4_init_7 : decode cX4_init 7 = .ok (.anewarray 9, 3) := by decide +kernel
theorem dX4_init_10 : decode cX4_init 10 = .ok (.putfield 11, 3) := by decide +kernel
theorem dX4_init_13 : decode cX4_init 13 = .ok (.iconst 0, 1) := by decide +kernel
theorem dX4_init_14 : decode cX4_init 14 = .ok (.istore_n 1, 1) := by decide +kernel
theorem dX4_init_15 : decode cX4_init 15 = .ok (.iload_n 1, 1) := by decide +kernel
theorem dX4_init_16 : decode cX4_init 16 = .ok (.bipush 6, 2) := by decide +kernel
theorem dX4_init_18 : decode cX4_init 18 = .ok (.if_icmp .ge 22, 3) := by decide +kernel
theorem dX4_init_21 : decode cX4_init 21 = .ok (.aload_n 0, 1) := by decide +kernel
theorem dX4_init_22 : decode cX4_init 22 = .ok (.getfield 11, 3) := by decide +kernel
theorem dX4_init_25 : decode cX4_init 25 = .ok (.iload_n 1, 1) := by decide +kernel
theorem dX4_init_26 : decode cX4_init 26 = .ok (.new 9, 3) := by decide +kernel
theorem dX4_init_29 : decode cX4_init 29 = .ok (.dup, 1) := by decide +kernel
theorem dX4_init_30 : decode cX4_init 30 = .ok (.invokespecial 17, 3) := by decide +kernel
theorem dX4_init_33 : decode cX4_init 33 = .ok (.aastore, 1) := by decide +kernel
theorem dX4_init_34 : decode cX4_init 34 = .ok (.iinc 1 1, 3) := by decide +kernel
theorem dX4_init_37 : decode cX4_init 37 = .ok (.goto (-22), 3) := by decide +kernel
theorem dX4_init_40 : decode cX4_init 40 = .ok (.return_, 1) := by decide +kernel
theorem dX4_stands_0 : decode cX4_stands 0 = .ok (.aload_n 0, 1) := by decide +kernel
theorem dX4_stands_1 : decode cX4_stands 1 = .ok (.getfield 18, 3) := by decide +kernel
theorem dX4_stands_4 : decode cX4_stands 4 = .ok (.ifCond .le 7, 3) := by decide +kernel
theorem dX4_stands_7 : decode cX4_stands 7 = .ok (.iconst 1, 1) := by decide +kernel
theorem dX4_stands_8 : decode cX4_stands 8 = .ok (.goto 4, 3) := by decide +kernel
theorem dX4_stands_11 : decode cX4_stands 11 = .ok (.iconst 0, 1) := by decide +kernel
theorem dX4_stands_12 : decode cX4_stands 12 = .ok (.ireturn, 1) := by decide +kernel
theorem dX4_layerAt_0 : decode cX4_layerAt 0 = .ok (.iload_n 1, 1) := by decide +kernel
theorem dX4_layerAt_1 : decode cX4_layerAt 1 = .ok (.ifCond .lt 26, 3) := by decide +kernel
theorem dX4_layerAt_4 : decode cX4_layerAt 4 = .ok (.iload_n 1, 1) := by decide +kernel
theorem dX4_layerAt_5 : decode cX4_layerAt 5 = .ok (.aload_n 0, 1) := by decide +kernel
theorem dX4_layerAt_6 : decode cX4_layerAt 6 = .ok (.getfield 18, 3) := by decide +kernel
theorem dX4_layerAt_9 : decode cX4_layerAt 9 = .ok (.if_icmp .ge 18, 3) := by decide +kernel
theorem dX4_layerAt_12 : decode cX4_layerAt 12 = .ok (.iload_n 1, 1) := by decide +kernel
theorem dX4_layerAt_13 : decode cX4_layerAt 13 = .ok (.bipush 6, 2) := by decide +kernel
theorem dX4_layerAt_15 : decode cX4_layerAt 15 = .ok (.if_icmp .ge 12, 3) := by decide +kernel
theorem dX4_layerAt_18 : decode cX4_layerAt 18 = .ok (.aload_n 0, 1) := by decide +kernel
theorem dX4_layerAt_19 : decode cX4_layerAt 19 = .ok (.getfield 11, 3) := by decide +kernel
theorem dX4_layerAt_22 : decode cX4_layerAt 22 = .ok (.iload_n 1, 1) := by decide +kernel
theorem dX4_layerAt_23 : decode cX4_layerAt 23 = .ok (.aaload, 1) := by decide +kernel
theorem dX4_layerAt_24 : decode cX4_layerAt 24 = .ok (.goto 4, 3) := by decide +kernel
theorem dX4_layerAt_27 : decode cX4_layerAt 27 = .ok (.aconst_null, 1) := by decide +kernel
theorem dX4_layerAt_28 : decode cX4_layerAt 28 = .ok (.areturn, 1) := by decide +kernel
theorem dX4_warmth_0 : decode cX4_warmth 0 = .ok (.aload_n 0, 1) := by decide +kernel
theorem dX4_warmth_1 : decode cX4_warmth 1 = .ok (.getfield 22, 3) := by decide +kernel
theorem dX4_warmth_4 : decode cX4_warmth 4 = .ok (.aload_n 0, 1) := by decide +kernel
theorem dX4_warmth_5 : decode cX4_warmth 5 = .ok (.getfield 25, 3) := by decide +kernel
theorem dX4_warmth_8 : decode cX4_warmth 8 = .ok (.isub, 1) := by decide +kernel
theorem dX4_warmth_9 : decode cX4_warmth 9 = .ok (.ireturn, 1) := by decide +kernel
set_option maxRecDepth 20000 in
theorem ggX4_liftedBy_X0_grip : GoodIn wsX4_liftedBy wsX0_grip := goodIn_r _ [7, 8, 9, 14, 15, 16] (by decide +kernel) (by decide +kernel)
set_option maxRecDepth 20000 in
theorem gX4_liftedBy_X0_grip : GoodIn wsX4_liftedBy (wsV RX4 28 RX0 yX0_grip wsX0_grip) := goodIn_app (goodIn_of _ (by decide +kernel)) ggX4_liftedBy_X0_grip
theorem dX4_liftedBy_0 : decode cX4_liftedBy 0 = .ok (.iconst 0, 1) := by decide +kernel
theorem dX4_liftedBy_1 : decode cX4_liftedBy 1 = .ok (.istore_n 2, 1) := by decide +kernel
theorem dX4_liftedBy_2 : decode cX4_liftedBy 2 = .ok (.iload_n 2, 1) := by decide +kernel
theorem dX4_liftedBy_3 : decode cX4_liftedBy 3 = .ok (.aload_n 0, 1) := by decide +kernel
theorem dX4_liftedBy_4 : decode cX4_liftedBy 4 = .ok (.getfield 18, 3) := by decide +kernel
theorem dX4_liftedBy_7 : decode cX4_liftedBy 7 = .ok (.if_icmp .ge 24, 3) := by decide +kernel
theorem dX4_liftedBy_10 : decode cX4_liftedBy 10 = .ok (.aload_n 0, 1) := by decide +kernel
theorem dX4_liftedBy_11 : decode cX4_liftedBy 11 = .ok (.getfield 11, 3) := by decide +kernel
theorem dX4_liftedBy_14 : decode cX4_liftedBy 14 = .ok (.iload_n 2, 1) := by decide +kernel
theorem dX4_liftedBy_15 : decode cX4_liftedBy 15 = .ok (.aaload, 1) := by decide +kernel
theorem dX4_liftedBy_16 : decode cX4_liftedBy 16 = .ok (.invokevirtual 28, 3) := by decide +kernel
theorem dX4_liftedBy_19 : decode cX4_liftedBy 19 = .ok (.iload_n 1, 1) := by decide +kernel
theorem dX4_liftedBy_20 : decode cX4_liftedBy 20 = .ok (.if_icmp .le 5, 3) := by decide +kernel
theorem dX4_liftedBy_23 : decode cX4_liftedBy 23 = .ok (.iload_n 2, 1) := by decide +kernel
theorem dX4_liftedBy_24 : decode cX4_liftedBy 24 = .ok (.ireturn, 1) := by decide +kernel
theorem dX4_liftedBy_25 : decode cX4_liftedBy 25 = .ok (.iinc 2 1, 3) := by decide +kernel
theorem dX4_liftedBy_28 : decode cX4_liftedBy 28 = .ok (.goto (-26), 3) := by decide +kernel
theorem dX4_liftedBy_31 : decode cX4_liftedBy 31 = .ok (.aload_n 0, 1) := by decide +kernel
theorem dX4_liftedBy_32 : decode cX4_liftedBy 32 = .ok (.getfield 18, 3) := by decide +kernel
theorem dX4_liftedBy_35 : decode cX4_liftedBy 35 = .ok (.ireturn, 1) := by decide +kernel
set_option maxRecDepth 20000 in
theorem ggX4_heardBy_X0_grip : GoodIn wsX4_heardBy wsX0_grip := goodIn_r _ [8, 9, 10, 15, 16, 17] (by decide +kernel) (by decide +kernel)
set_option maxRecDepth 20000 in
theorem gX4_heardBy_X0_grip : GoodIn wsX4_heardBy (wsV RX4 28 RX0 yX0_grip wsX0_grip) := goodIn_app (goodIn_of _ (by decide +kernel)) ggX4_heardBy_X0_grip
theorem dX4_heardBy_0 : decode cX4_heardBy 0 = .ok (.iconst 0, 1) := by decide +kernel
theorem dX4_heardBy_1 : decode cX4_heardBy 1 = .ok (.istore_n 2, 1) := by decide +kernel
theorem dX4_heardBy_2 : decode cX4_heardBy 2 = .ok (.iload_n 2, 1) := by decide +kernel
theorem dX4_heardBy_3 : decode cX4_heardBy 3 = .ok (.aload_n 0, 1) := by decide +kernel
theorem dX4_heardBy_4 : decode cX4_heardBy 4 = .ok (.getfield 18, 3) := by decide +kernel
theorem dX4_heardBy_7 : decode cX4_heardBy 7 = .ok (.if_icmp .ge 37, 3) := by decide +kernel
theorem dX4_heardBy_10 : decode cX4_heardBy 10 = .ok (.aload_n 0, 1) := by decide +kernel
theorem dX4_heardBy_11 : decode cX4_heardBy 11 = .ok (.getfield 11, 3) := by decide +kernel
theorem dX4_heardBy_14 : decode cX4_heardBy 14 = .ok (.iload_n 2, 1) := by decide +kernel
theorem dX4_heardBy_15 : decode cX4_heardBy 15 = .ok (.aaload, 1) := by decide +kernel
theorem dX4_heardBy_16 : decode cX4_heardBy 16 = .ok (.getfield 32, 3) := by decide +kernel
theorem dX4_heardBy_19 : decode cX4_heardBy 19 = .ok (.iconst 2, 1) := by decide +kernel
theorem dX4_heardBy_20 : decode cX4_heardBy 20 = .ok (.if_icmp .eq 16, 3) := by decide +kernel
theorem dX4_heardBy_23 : decode cX4_heardBy 23 = .ok (.aload_n 0, 1) := by decide +kernel
theorem dX4_heardBy_24 : decode cX4_heardBy 24 = .ok (.getfield 11, 3) := by decide +kernel
theorem dX4_heardBy_27 : decode cX4_heardBy 27 = .ok (.iload_n 2, 1) := by decide +kernel
theorem dX4_heardBy_28 : decode cX4_heardBy 28 = .ok (.aaload, 1) := by decide +kernel
theorem dX4_heardBy_29 : decode cX4_heardBy 29 = .ok (.invokevirtual 28, 3) := by decide +kernel
theorem dX4_heardBy_32 : decode cX4_heardBy 32 = .ok (.iload_n 1, 1) := by decide +kernel
theorem dX4_heardBy_33 : decode cX4_heardBy 33 = .ok (.if_icmp .le 5, 3) := by decide +kernel
theorem dX4_heardBy_36 : decode cX4_heardBy 36 = .ok (.iload_n 2, 1) := by decide +kernel
theorem dX4_heardBy_37 : decode cX4_heardBy 37 = .ok (.ireturn, 1) := by decide +kernel
theorem dX4_heardBy_38 : decode cX4_heardBy 38 = .ok (.iinc 2 1, 3) := by decide +kernel
theorem dX4_heardBy_41 : decode cX4_heardBy 41 = .ok (.goto (-39), 3) := by decide +kernel
theorem dX4_heardBy_44 : decode cX4_heardBy 44 = .ok (.aload_n 0, 1) := by decide +kernel
theorem dX4_heardBy_45 : decode cX4_heardBy 45 = .ok (.getfield 18, 3) := by decide +kernel
theorem dX4_heardBy_48 : decode cX4_heardBy 48 = .ok (.ireturn, 1) := by decide +kernel
set_option maxRecDepth 20000 in
theorem ggX4_counselBy_X4_heardBy : GoodIn wsX4_counselBy wsX4_heardBy := goodIn_r _ [7, 8, 1, 9, 10, 11, 12, 13, 14, 15, 16, 24, 25, 26, 27, 28, 29, 30] (by decide +kernel) (by decide +kernel)
set_option maxRecDepth 20000 in
theorem gX4_counselBy_X4_heardBy : GoodIn wsX4_counselBy (wsV RX4 35 RX4 yX4_heardBy wsX4_heardBy) := goodIn_app (goodIn_of _ (by decide +kernel)) ggX4_counselBy_X4_heardBy
set_option maxRecDepth 20000 in
theorem ggX4_counselBy_X4_votesOf : GoodIn wsX4_counselBy wsX4_votesOf := goodIn_r _ [20, 1, 2, 24, 25, 26, 27, 28, 29, 30] (by decide +kernel) (by decide +kernel)
set_option maxRecDepth 20000 in
theorem gX4_counselBy_X4_votesOf : GoodIn wsX4_counselBy (wsV RX4 39 RX4 yX4_votesOf wsX4_votesOf) := goodIn_app (goodIn_of _ (by decide +kernel)) ggX4_counselBy_X4_votesOf
set_option maxRecDepth 20000 in
theorem ggX4_counselBy_X4_votesFor : GoodIn wsX4_counselBy wsX4_votesFor := goodIn_r _ [23] (by decide +kernel) (by decide +kernel)
set_option maxRecDepth 20000 in
theorem gX4_counselBy_X4_votesFor : GoodIn wsX4_counselBy (va_wsS RX4 46 yX4_votesFor wsX4_votesFor) := goodIn_app (goodIn_of _ (by decide +kernel)) ggX4_counselBy_X4_votesFor
theorem dX4_counselBy_0 : decode cX4_counselBy 0 = .ok (.aload_n 0, 1) := by decide +kernel
theorem dX4_counselBy_1 : decode cX4_counselBy 1 = .ok (.iload_n 1, 1) := by decide +kernel
theorem dX4_counselBy_2 : decode cX4_counselBy 2 = .ok (.invokevirtual 35, 3) := by decide +kernel
theorem dX4_counselBy_5 : decode cX4_counselBy 5 = .ok (.istore_n 2, 1) := by decide +kernel
theorem dX4_counselBy_6 : decode cX4_counselBy 6 = .ok (.aload_n 0, 1) := by decide +kernel
theorem dX4_counselBy_7 : decode cX4_counselBy 7 = .ok (.iload_n 2, 1) := by decide +kernel
theorem dX4_counselBy_8 : decode cX4_counselBy 8 = .ok (.invokevirtual 39, 3) := by decide +kernel
theorem dX4_counselBy_11 : decode cX4_counselBy 11 = .ok (.lstore_n 3, 1) := by decide +kernel
theorem dX4_counselBy_12 : decode cX4_counselBy 12 = .ok (.iconst 0, 1) := by decide +kernel
theorem dX4_counselBy_13 : decode cX4_counselBy 13 = .ok (.istore 5, 2) := by decide +kernel
theorem dX4_counselBy_15 : decode cX4_counselBy 15 = .ok (.bipush (-9), 2) := by decide +kernel
theorem dX4_counselBy_17 : decode cX4_counselBy 17 = .ok (.istore 6, 2) := by decide +kernel
theorem dX4_counselBy_19 : decode cX4_counselBy 19 = .ok (.iconst 0, 1) := by decide +kernel
theorem dX4_counselBy_20 : decode cX4_counselBy 20 = .ok (.istore 7, 2) := by decide +kernel
theorem dX4_counselBy_22 : decode cX4_counselBy 22 = .ok (.iload 7, 2) := by decide +kernel
theorem dX4_counselBy_24 : decode cX4_counselBy 24 = .ok (.iload_n 2, 1) := by decide +kernel
theorem dX4_counselBy_25 : decode cX4_counselBy 25 = .ok (.if_icmp .ge 48, 3) := by decide +kernel
theorem dX4_counselBy_28 : decode cX4_counselBy 28 = .ok (.aload_n 0, 1) := by decide +kernel
theorem dX4_counselBy_29 : decode cX4_counselBy 29 = .ok (.getfield 11, 3) := by decide +kernel
theorem dX4_counselBy_32 : decode cX4_counselBy 32 = .ok (.iload 7, 2) := by decide +kernel
theorem dX4_counselBy_34 : decode cX4_counselBy 34 = .ok (.aaload, 1) := by decide +kernel
theorem dX4_counselBy_35 : decode cX4_counselBy 35 = .ok (.getfield 43, 3) := by decide +kernel
theorem dX4_counselBy_38 : decode cX4_counselBy 38 = .ok (.lload_n 3, 1) := by decide +kernel
theorem dX4_counselBy_39 : decode cX4_counselBy 39 = .ok (.invokestatic 46, 3) := by decide +kernel
theorem dX4_counselBy_42 : decode cX4_counselBy 42 = .ok (.istore 8, 2) := by decide +kernel
theorem dX4_counselBy_44 : decode cX4_counselBy 44 = .ok (.iload 8, 2) := by decide +kernel
theorem dX4_counselBy_46 : decode cX4_counselBy 46 = .ok (.iload 5, 2) := by decide +kernel
theorem dX4_counselBy_48 : decode cX4_counselBy 48 = .ok (.if_icmp .le 19, 3) := by decide +kernel
theorem dX4_counselBy_51 : decode cX4_counselBy 51 = .ok (.iload 8, 2) := by decide +kernel
theorem dX4_counselBy_53 : decode cX4_counselBy 53 = .ok (.istore 5, 2) := by decide +kernel
theorem dX4_counselBy_55 : decode cX4_counselBy 55 = .ok (.aload_n 0, 1) := by decide +kernel
theorem dX4_counselBy_56 : decode cX4_counselBy 56 = .ok (.getfield 11, 3) := by decide +kernel
theorem dX4_counselBy_59 : decode cX4_counselBy 59 = .ok (.iload 7, 2) := by decide +kernel
theorem dX4_counselBy_61 : decode cX4_counselBy 61 = .ok (.aaload, 1) := by decide +kernel
theorem dX4_counselBy_62 : decode cX4_counselBy 62 = .ok (.getfield 43, 3) := by decide +kernel
theorem dX4_counselBy_65 : decode cX4_counselBy 65 = .ok (.istore 6, 2) := by decide +kernel
theorem dX4_counselBy_67 : decode cX4_counselBy 67 = .ok (.iinc 7 1, 3) := by decide +kernel
theorem dX4_counselBy_70 : decode cX4_counselBy 70 = .ok (.goto (-48), 3) := by decide +kernel
theorem dX4_counselBy_73 : decode cX4_counselBy 73 = .ok (.iload 6, 2) := by decide +kernel
theorem dX4_counselBy_75 : decode cX4_counselBy 75 = .ok (.ireturn, 1) := by decide +kernel
set_option maxRecDepth 20000 in
theorem ggX4_mostAlike_X4_votesOf : GoodIn wsX4_mostAlike wsX4_votesOf := goodIn_r _ [11, 1, 2, 15, 16, 17, 18, 19, 20, 21] (by decide +kernel) (by decide +kernel)
set_option maxRecDepth 20000 in
theorem gX4_mostAlike_X4_votesOf : GoodIn wsX4_mostAlike (wsV RX4 39 RX4 yX4_votesOf wsX4_votesOf) := goodIn_app (goodIn_of _ (by decide +kernel)) ggX4_mostAlike_X4_votesOf
set_option maxRecDepth 20000 in
theorem ggX4_mostAlike_X4_votesFor : GoodIn wsX4_mostAlike wsX4_votesFor := goodIn_r _ [14] (by decide +kernel) (by decide +kernel)
set_option maxRecDepth 20000 in
theorem gX4_mostAlike_X4_votesFor : GoodIn wsX4_mostAlike (va_wsS RX4 46 yX4_votesFor wsX4_votesFor) := goodIn_app (goodIn_of _ (by decide +kernel)) ggX4_mostAlike_X4_votesFor
theorem dX4_mostAlike_0 : decode cX4_mostAlike 0 = .ok (.aload_n 0, 1) := by decide +kernel
theorem dX4_mostAlike_1 : decode cX4_mostAlike 1 = .ok (.iload_n 1, 1) := by decide +kernel
theorem dX4_mostAlike_2 : decode cX4_mostAlike 2 = .ok (.invokevirtual 39, 3) := by decide +kernel
theorem dX4_mostAlike_5 : decode cX4_mostAlike 5 = .ok (.lstore_n 2, 1) := by decide +kernel
theorem dX4_mostAlike_6 : decode cX4_mostAlike 6 = .ok (.iconst 0, 1) := by decide +kernel
theorem dX4_mostAlike_7 : decode cX4_mostAlike 7 = .ok (.istore 4, 2) := by decide +kernel
theorem dX4_mostAlike_9 : decode cX4_mostAlike 9 = .ok (.iconst 0, 1) := by decide +kernel
theorem dX4_mostAlike_10 : decode cX4_mostAlike 10 = .ok (.istore 5, 2) := by decide +kernel
theorem dX4_mostAlike_12 : decode cX4_mostAlike 12 = .ok (.iload 5, 2) := by decide +kernel
theorem dX4_mostAlike_14 : decode cX4_mostAlike 14 = .ok (.iload_n 1, 1) := by decide +kernel
theorem dX4_mostAlike_15 : decode cX4_mostAlike 15 = .ok (.if_icmp .ge 30, 3) := by decide +kernel
theorem dX4_mostAlike_18 : decode cX4_mostAlike 18 = .ok (.iload 4, 2) := by decide +kernel
theorem dX4_mostAlike_20 : decode cX4_mostAlike 20 = .ok (.aload_n 0, 1) := by decide +kernel
theorem dX4_mostAlike_21 : decode cX4_mostAlike 21 = .ok (.getfield 11, 3) := by decide +kernel
theorem dX4_mostAlike_24 : decode cX4_mostAlike 24 = .ok (.iload 5, 2) := by decide +kernel
theorem dX4_mostAlike_26 : decode cX4_mostAlike 26 = .ok (.aaload, 1) := by decide +kernel
theorem dX4_mostAlike_27 : decode cX4_mostAlike 27 = .ok (.getfield 43, 3) := by decide +kernel
theorem dX4_mostAlike_30 : decode cX4_mostAlike 30 = .ok (.lload_n 2, 1) := by decide +kernel
theorem dX4_mostAlike_31 : decode cX4_mostAlike 31 = .ok (.invokestatic 46, 3) := by decide +kernel
theorem dX4_mostAlike_34 : decode cX4_mostAlike 34 = .ok (.invokestatic 50, 3) := by decide +kernel
theorem dX4_mostAlike_37 : decode cX4_mostAlike 37 = .ok (.istore 4, 2) := by decide +kernel
theorem dX4_mostAlike_39 : decode cX4_mostAlike 39 = .ok (.iinc 5 1, 3) := by decide +kernel
theorem dX4_mostAlike_42 : decode cX4_mostAlike 42 = .ok (.goto (-30), 3) := by decide +kernel
theorem dX4_mostAlike_45 : decode cX4_mostAlike 45 = .ok (.iload 4, 2) := by decide +kernel
theorem dX4_mostAlike_47 : decode cX4_mostAlike 47 = .ok (.ireturn, 1) := by decide +kernel
theorem dX4_votesOf_0 : decode cX4_votesOf 0 = .ok (.lconst 0, 1) := by decide +kernel
theorem dX4_votesOf_1 : decode cX4_votesOf 1 = .ok (.lstore_n 2, 1) := by decide +kernel
theorem dX4_votesOf_2 : decode cX4_votesOf 2 = .ok (.iconst 0, 1) := by decide +kernel
theorem dX4_votesOf_3 : decode cX4_votesOf 3 = .ok (.istore 4, 2) := by decide +kernel
theorem dX4_votesOf_5 : decode cX4_votesOf 5 = .ok (.iload 4, 2) := by decide +kernel
theorem dX4_votesOf_7 : decode cX4_votesOf 7 = .ok (.iload_n 1, 1) := by decide +kernel
theorem dX4_votesOf_8 : decode cX4_votesOf 8 = .ok (.if_icmp .ge 26, 3) := by decide +kernel
theorem dX4_votesOf_11 : decode cX4_votesOf 11 = .ok (.lload_n 2, 1) := by decide +kernel
theorem dX4_votesOf_12 : decode cX4_votesOf 12 = .ok (.lconst 1, 1) := by decide +kernel
theorem dX4_votesOf_13 : decode cX4_votesOf 13 = .ok (.iconst 4, 1) := by decide +kernel
theorem dX4_votesOf_14 : decode cX4_votesOf 14 = .ok (.aload_n 0, 1) := by decide +kernel
theorem dX4_votesOf_15 : decode cX4_votesOf 15 = .ok (.getfield 11, 3) := by decide +kernel
theorem dX4_votesOf_18 : decode cX4_votesOf 18 = .ok (.iload 4, 2) := by decide +kernel
theorem dX4_votesOf_20 : decode cX4_votesOf 20 = .ok (.aaload, 1) := by decide +kernel
theorem dX4_votesOf_21 : decode cX4_votesOf 21 = .ok (.getfield 43, 3) := by decide +kernel
theorem dX4_votesOf_24 : decode cX4_votesOf 24 = .ok (.imul, 1) := by decide +kernel
theorem dX4_votesOf_25 : decode cX4_votesOf 25 = .ok (.lshl, 1) := by decide +kernel
theorem dX4_votesOf_26 : decode cX4_votesOf 26 = .ok (.ladd, 1) := by decide +kernel
theorem dX4_votesOf_27 : decode cX4_votesOf 27 = .ok (.lstore_n 2, 1) := by decide +kernel
theorem dX4_votesOf_28 : decode cX4_votesOf 28 = .ok (.iinc 4 1, 3) := by decide +kernel
theorem dX4_votesOf_31 : decode cX4_votesOf 31 = .ok (.goto (-26), 3) := by decide +kernel
theorem dX4_votesOf_34 : decode cX4_votesOf 34 = .ok (.lload_n 2, 1) := by decide +kernel
theorem dX4_votesOf_35 : decode cX4_votesOf 35 = .ok (.lreturn, 1) := by decide +kernel
theorem dX4_votesFor_0 : decode cX4_votesFor 0 = .ok (.lload_n 1, 1) := by decide +kernel
theorem dX4_votesFor_1 : decode cX4_votesFor 1 = .ok (.iconst 4, 1) := by decide +kernel
theorem dX4_votesFor_2 : decode cX4_votesFor 2 = .ok (.iload_n 0, 1) := by decide +kernel
theorem dX4_votesFor_3 : decode cX4_votesFor 3 = .ok (.imul, 1) := by decide +kernel
theorem dX4_votesFor_4 : decode cX4_votesFor 4 = .ok (.lshr, 1) := by decide +kernel
theorem dX4_votesFor_5 : decode cX4_votesFor 5 = .ok (.l2i, 1) := by decide +kernel
theorem dX4_votesFor_6 : decode cX4_votesFor 6 = .ok (.bipush 15, 2) := by decide +kernel
theorem dX4_votesFor_8 : decode cX4_votesFor 8 = .ok (.iand, 1) := by decide +kernel
theorem dX4_votesFor_9 : decode cX4_votesFor 9 = .ok (.ireturn, 1) := by decide +kernel
theorem dX4_unlikeTwos_0 : decode cX4_unlikeTwos 0 = .ok (.iconst 0, 1) := by decide +kernel
theorem dX4_unlikeTwos_1 : decode cX4_unlikeTwos 1 = .ok (.istore_n 2, 1) := by decide +kernel
theorem dX4_unlikeTwos_2 : decode cX4_unlikeTwos 2 = .ok (.iconst 0, 1) := by decide +kernel
theorem dX4_unlikeTwos_3 : decode cX4_unlikeTwos 3 = .ok (.istore_n 3, 1) := by decide +kernel
theorem dX4_unlikeTwos_4 : decode cX4_unlikeTwos 4 = .ok (.iload_n 3, 1) := by decide +kernel
theorem dX4_unlikeTwos_5 : decode cX4_unlikeTwos 5 = .ok (.iload_n 1, 1) := by decide +kernel
theorem dX4_unlikeTwos_6 : decode cX4_unlikeTwos 6 = .ok (.if_icmp .ge 51, 3) := by decide +kernel
theorem dX4_unlikeTwos_9 : decode cX4_unlikeTwos 9 = .ok (.iload_n 3, 1) := by decide +kernel
theorem dX4_unlikeTwos_10 : decode cX4_unlikeTwos 10 = .ok (.iconst 1, 1) := by decide +kernel
theorem dX4_unlikeTwos_11 : decode cX4_unlikeTwos 11 = .ok (.iadd, 1) := by decide +kernel
theorem dX4_unlikeTwos_12 : decode cX4_unlikeTwos 12 = .ok (.istore 4, 2) := by decide +kernel
theorem dX4_unlikeTwos_14 : decode cX4_unlikeTwos 14 = .ok (.iload 4, 2) := by decide +kernel
theorem dX4_unlikeTwos_16 : decode cX4_unlikeTwos 16 = .ok (.iload_n 1, 1) := by decide +kernel
theorem dX4_unlikeTwos_17 : decode cX4_unlikeTwos 17 = .ok (.if_icmp .ge 34, 3) := by decide +kernel
theorem dX4_unlikeTwos_20 : decode cX4_unlikeTwos 20 = .ok (.aload_n 0, 1) := by decide +kernel
theorem dX4_unlikeTwos_21 : decode cX4_unlikeTwos 21 = .ok (.getfield 11, 3) := by decide +kernel
theorem dX4_unlikeTwos_24 : decode cX4_unlikeTwos 24 = .ok (.iload 4, 2) := by decide +kernel
theorem dX4_unlikeTwos_26 : decode cX4_unlikeTwos 26 = .ok (.aaload, 1) := by decide +kernel
theorem dX4_unlikeTwos_27 : decode cX4_unlikeTwos 27 = .ok (.getfield 43, 3) := by decide +kernel
theorem dX4_unlikeTwos_30 : decode cX4_unlikeTwos 30 = .ok (.aload_n 0, 1) := by decide +kernel
theorem dX4_unlikeTwos_31 : decode cX4_unlikeTwos 31 = .ok (.getfield 11, 3) := by decide +kernel
theorem dX4_unlikeTwos_34 : decode cX4_unlikeTwos 34 = .ok (.iload_n 3, 1) := by decide +kernel
theorem dX4_unlikeTwos_35 : decode cX4_unlikeTwos 35 = .ok (.aaload, 1) := by decide +kernel
theorem dX4_unlikeTwos_36 : decode cX4_unlikeTwos 36 = .ok (.getfield 43, 3) := by decide +kernel
theorem dX4_unlikeTwos_39 : decode cX4_unlikeTwos 39 = .ok (.if_icmp .eq 6, 3) := by decide +kernel
theorem dX4_unlikeTwos_42 : decode cX4_unlikeTwos 42 = .ok (.iinc 2 1, 3) := by decide +kernel
theorem dX4_unlikeTwos_45 : decode cX4_unlikeTwos 45 = .ok (.iinc 4 1, 3) := by decide +kernel
theorem dX4_unlikeTwos_48 : decode cX4_unlikeTwos 48 = .ok (.goto (-34), 3) := by decide +kernel
theorem dX4_unlikeTwos_51 : decode cX4_unlikeTwos 51 = .ok (.iinc 3 1, 3) := by decide +kernel
theorem dX4_unlikeTwos_54 : decode cX4_unlikeTwos 54 = .ok (.goto (-50), 3) := by decide +kernel
theorem dX4_unlikeTwos_57 : decode cX4_unlikeTwos 57 = .ok (.iload_n 2, 1) := by decide +kernel
theorem dX4_unlikeTwos_58 : decode cX4_unlikeTwos 58 = .ok (.ireturn, 1) := by decide +kernel
set_option maxRecDepth 20000 in
theorem ggX4_layOnTop_X0_becomeLike : GoodIn wsX4_layOnTop wsX0_becomeLike := goodIn_r _ [7, 8, 9, 10, 11, 12, 13, 6, 14, 20, 21, 22] (by decide +kernel) (by decide +kernel)
set_option maxRecDepth 20000 in
theorem gX4_layOnTop_X0_becomeLike : GoodIn wsX4_layOnTop (wsV RX4 56 RX0 yX0_becomeLike wsX0_becomeLike) := goodIn_app (goodIn_of _ (by decide +kernel)) ggX4_layOnTop_X0_becomeLike
set_option maxRecDepth 20000 in
theorem ggX4_layOnTop_X0_become : GoodIn wsX4_layOnTop wsX0_become := goodIn_r _ [14, 8, 9, 10, 20, 21, 22] (by decide +kernel) (by decide +kernel)
set_option maxRecDepth 20000 in
theorem gX4_layOnTop_X0_become : GoodIn wsX4_layOnTop (wsV RX4 60 RX0 yX0_become wsX0_become) := goodIn_app (goodIn_of _ (by decide +kernel)) ggX4_layOnTop_X0_become
theorem dX4_layOnTop_0 : decode cX4_layOnTop 0 = .ok (.aload_n 0, 1) := by decide +kernel
theorem dX4_layOnTop_1 : decode cX4_layOnTop 1 = .ok (.getfield 18, 3) := by decide +kernel
theorem dX4_layOnTop_4 : decode cX4_layOnTop 4 = .ok (.bipush 6, 2) := by decide +kernel
theorem dX4_layOnTop_6 : decode cX4_layOnTop 6 = .ok (.if_icmp .lt 5, 3) := by decide +kernel
theorem dX4_layOnTop_9 : decode cX4_layOnTop 9 = .ok (.iconst 0, 1) := by decide +kernel
theorem dX4_layOnTop_10 : decode cX4_layOnTop 10 = .ok (.ireturn, 1) := by decide +kernel
theorem dX4_layOnTop_11 : decode cX4_layOnTop 11 = .ok (.aload_n 0, 1) := by decide +kernel
theorem dX4_layOnTop_12 : decode cX4_layOnTop 12 = .ok (.getfield 18, 3) := by decide +kernel
theorem dX4_layOnTop_15 : decode cX4_layOnTop 15 = .ok (.istore 4, 2) := by decide +kernel
theorem dX4_layOnTop_17 : decode cX4_layOnTop 17 = .ok (.iload 4, 2) := by decide +kernel
theorem dX4_layOnTop_19 : decode cX4_layOnTop 19 = .ok (.ifCond .le 28, 3) := by decide +kernel
theorem dX4_layOnTop_22 : decode cX4_layOnTop 22 = .ok (.aload_n 0, 1) := by decide +kernel
theorem dX4_layOnTop_23 : decode cX4_layOnTop 23 = .ok (.getfield 11, 3) := by decide +kernel
theorem dX4_layOnTop_26 : decode cX4_layOnTop 26 = .ok (.iload 4, 2) := by decide +kernel
theorem dX4_layOnTop_28 : decode cX4_layOnTop 28 = .ok (.aaload, 1) := by decide +kernel
theorem dX4_layOnTop_29 : decode cX4_layOnTop 29 = .ok (.aload_n 0, 1) := by decide +kernel
theorem dX4_layOnTop_30 : decode cX4_layOnTop 30 = .ok (.getfield 11, 3) := by decide +kernel
theorem dX4_layOnTop_33 : decode cX4_layOnTop 33 = .ok (.iload 4, 2) := by decide +kernel
theorem dX4_layOnTop_35 : decode cX4_layOnTop 35 = .ok (.iconst 1, 1) := by decide +kernel
theorem dX4_layOnTop_36 : decode cX4_layOnTop 36 = .ok (.isub, 1) := by decide +kernel
theorem dX4_layOnTop_37 : decode cX4_layOnTop 37 = .ok (.aaload, 1) := by decide +kernel
theorem dX4_layOnTop_38 : decode cX4_layOnTop 38 = .ok (.invokevirtual 56, 3) := by decide +kernel
theorem dX4_layOnTop_41 : decode cX4_layOnTop 41 = .ok (.iinc 4 (-1), 3) := by decide +kernel
theorem dX4_layOnTop_44 : decode cX4_layOnTop 44 = .ok (.goto (-27), 3) := by decide +kernel
theorem dX4_layOnTop_47 : decode cX4_layOnTop 47 = .ok (.aload_n 0, 1) := by decide +kernel
theorem dX4_layOnTop_48 : decode cX4_layOnTop 48 = .ok (.getfield 11, 3) := by decide +kernel
theorem dX4_layOnTop_51 : decode cX4_layOnTop 51 = .ok (.iconst 0, 1) := by decide +kernel
theorem dX4_layOnTop_52 : decode cX4_layOnTop 52 = .ok (.aaload, 1) := by decide +kernel
theorem dX4_layOnTop_53 : decode cX4_layOnTop 53 = .ok (.iload_n 1, 1) := by decide +kernel
theorem dX4_layOnTop_54 : decode cX4_layOnTop 54 = .ok (.iload_n 2, 1) := by decide +kernel
theorem dX4_layOnTop_55 : decode cX4_layOnTop 55 = .ok (.iload_n 3, 1) := by decide +kernel
theorem dX4_layOnTop_56 : decode cX4_layOnTop 56 = .ok (.invokevirtual 60, 3) := by decide +kernel
theorem dX4_layOnTop_59 : decode cX4_layOnTop 59 = .ok (.aload_n 0, 1) := by decide +kernel
theorem dX4_layOnTop_60 : decode cX4_layOnTop 60 = .ok (.dup, 1) := by decide +kernel
theorem dX4_layOnTop_61 : decode cX4_layOnTop 61 = .ok (.getfield 18, 3) := by decide +kernel
theorem dX4_layOnTop_64 : decode cX4_layOnTop 64 = .ok (.iconst 1, 1) := by decide +kernel
theorem dX4_layOnTop_65 : decode cX4_layOnTop 65 = .ok (.iadd, 1) := by decide +kernel
theorem dX4_layOnTop_66 : decode cX4_layOnTop 66 = .ok (.putfield 18, 3) := by decide +kernel
theorem dX4_layOnTop_69 : decode cX4_layOnTop 69 = .ok (.iconst 1, 1) := by decide +kernel
theorem dX4_layOnTop_70 : decode cX4_layOnTop 70 = .ok (.ireturn, 1) := by decide +kernel
set_option maxRecDepth 20000 in
theorem ggX4_peelTop_X4_warmth : GoodIn wsX4_peelTop wsX4_warmth := goodIn_r _ [7, 8, 9, 30, 31, 32, 33] (by decide +kernel) (by decide +kernel)
set_option maxRecDepth 20000 in
theorem gX4_peelTop_X4_warmth : GoodIn wsX4_peelTop (wsV RX4 64 RX4 yX4_warmth wsX4_warmth) := goodIn_app (goodIn_of _ (by decide +kernel)) ggX4_peelTop_X4_warmth
set_option maxRecDepth 20000 in
theorem ggX4_peelTop_X4_liftedBy : GoodIn wsX4_peelTop wsX4_liftedBy := goodIn_r _ [13, 1, 2, 14, 15, 16, 17, 18, 19, 20, 30, 31, 32, 33, 34, 35, 36] (by decide +kernel) (by decide +kernel)
set_option maxRecDepth 20000 in
theorem gX4_peelTop_X4_liftedBy : GoodIn wsX4_peelTop (wsV RX4 67 RX4 yX4_liftedBy wsX4_liftedBy) := goodIn_app (goodIn_of _ (by decide +kernel)) ggX4_peelTop_X4_liftedBy
set_option maxRecDepth 20000 in
theorem ggX4_peelTop_X0_becomeLike : GoodIn wsX4_peelTop wsX0_becomeLike := goodIn_r _ [24, 19, 20, 25, 26, 27, 28, 17, 29, 34, 35, 36] (by decide +kernel) (by decide +kernel)
set_option maxRecDepth 20000 in
theorem gX4_peelTop_X0_becomeLike : GoodIn wsX4_peelTop (wsV RX4 56 RX0 yX0_becomeLike wsX0_becomeLike) := goodIn_app (goodIn_of _ (by decide +kernel)) ggX4_peelTop_X0_becomeLike
theorem dX4_peelTop_0 : decode cX4_peelTop 0 = .ok (.aload_n 0, 1) := by decide +kernel
theorem dX4_peelTop_1 : decode cX4_peelTop 1 = .ok (.getfield 18, 3) := by decide +kernel
theorem dX4_peelTop_4 : decode cX4_peelTop 4 = .ok (.iconst 2, 1) := by decide +kernel
theorem dX4_peelTop_5 : decode cX4_peelTop 5 = .ok (.if_icmp .lt 14, 3) := by decide +kernel
theorem dX4_peelTop_8 : decode cX4_peelTop 8 = .ok (.aload_n 0, 1) := by decide +kernel
theorem dX4_peelTop_9 : decode cX4_peelTop 9 = .ok (.aload_n 0, 1) := by decide +kernel
theorem dX4_peelTop_10 : decode cX4_peelTop 10 = .ok (.invokevirtual 64, 3) := by decide +kernel
theorem dX4_peelTop_13 : decode cX4_peelTop 13 = .ok (.invokevirtual 67, 3) := by decide +kernel
theorem dX4_peelTop_16 : decode cX4_peelTop 16 = .ok (.ifCond .ne 5, 3) := by decide +kernel
theorem dX4_peelTop_19 : decode cX4_peelTop 19 = .ok (.iconst 0, 1) := by decide +kernel
theorem dX4_peelTop_20 : decode cX4_peelTop 20 = .ok (.ireturn, 1) := by decide +kernel
theorem dX4_peelTop_21 : decode cX4_peelTop 21 = .ok (.iconst 1, 1) := by decide +kernel
theorem dX4_peelTop_22 : decode cX4_peelTop 22 = .ok (.istore_n 1, 1) := by decide +kernel
theorem dX4_peelTop_23 : decode cX4_peelTop 23 = .ok (.iload_n 1, 1) := by decide +kernel
theorem dX4_peelTop_24 : decode cX4_peelTop 24 = .ok (.aload_n 0, 1) := by decide +kernel
theorem dX4_peelTop_25 : decode cX4_peelTop 25 = .ok (.getfield 18, 3) := by decide +kernel
theorem dX4_peelTop_28 : decode cX4_peelTop 28 = .ok (.if_icmp .ge 26, 3) := by decide +kernel
theorem dX4_peelTop_31 : decode cX4_peelTop 31 = .ok (.aload_n 0, 1) := by decide +kernel
theorem dX4_peelTop_32 : decode cX4_peelTop 32 = .ok (.getfield 11, 3) := by decide +kernel
theorem dX4_peelTop_35 : decode cX4_peelTop 35 = .ok (.iload_n 1, 1) := by decide +kernel
theorem dX4_peelTop_36 : decode cX4_peelTop 36 = .ok (.iconst 1, 1) := by decide +kernel
theorem dX4_peelTop_37 : decode cX4_peelTop 37 = .ok (.isub, 1) := by decide +kernel
theorem dX4_peelTop_38 : decode cX4_peelTop 38 = .ok (.aaload, 1) := by decide +kernel
theorem dX4_peelTop_39 : decode cX4_peelTop 39 = .ok (.aload_n 0, 1) := by decide +kernel
theorem dX4_peelTop_40 : decode cX4_peelTop 40 = .ok (.getfield 11, 3) := by decide +kernel
theorem dX4_peelTop_43 : decode cX4_peelTop 43 = .ok (.iload_n 1, 1) := by decide +kernel
theorem dX4_peelTop_44 : decode cX4_peelTop 44 = .ok (.aaload, 1) := by decide +kernel
theorem dX4_peelTop_45 : decode cX4_peelTop 45 = .ok (.invokevirtual 56, 3) := by decide +kernel
theorem dX4_peelTop_48 : decode cX4_peelTop 48 = .ok (.iinc 1 1, 3) := by decide +kernel
theorem dX4_peelTop_51 : decode cX4_peelTop 51 = .ok (.goto (-28), 3) := by decide +kernel
theorem dX4_peelTop_54 : decode cX4_peelTop 54 = .ok (.aload_n 0, 1) := by decide +kernel
theorem dX4_peelTop_55 : decode cX4_peelTop 55 = .ok (.dup, 1) := by decide +kernel
theorem dX4_peelTop_56 : decode cX4_peelTop 56 = .ok (.getfield 18, 3) := by decide +kernel
theorem dX4_peelTop_59 : decode cX4_peelTop 59 = .ok (.iconst 1, 1) := by decide +kernel
theorem dX4_peelTop_60 : decode cX4_peelTop 60 = .ok (.isub, 1) := by decide +kernel
theorem dX4_peelTop_61 : decode cX4_peelTop 61 = .ok (.putfield 18, 3) := by decide +kernel
theorem dX4_peelTop_64 : decode cX4_peelTop 64 = .ok (.iconst 1, 1) := by decide +kernel
theorem dX4_peelTop_65 : decode cX4_peelTop 65 = .ok (.ireturn, 1) := by decide +kernel
set_option maxRecDepth 20000 in
theorem ggX4_doAct_X4_peelTop : GoodIn wsX4_doAct wsX4_peelTop := goodIn_r _ [7, 8, 9, 10, 11, 12, 6, 13, 1, 2, 14, 15, 16, 17, 18, 19, 20, 21, 22, 23, 24, 25, 26, 27, 28, 29, 30, 31, 32, 33, 39, 40, 41, 42, 43, 44, 45] (by decide +kernel) (by decide +kernel)
set_option maxRecDepth 20000 in
theorem gX4_doAct_X4_peelTop : GoodIn wsX4_doAct (wsV RX4 70 RX4 yX4_peelTop wsX4_peelTop) := goodIn_app (goodIn_of _ (by decide +kernel)) ggX4_doAct_X4_peelTop
set_option maxRecDepth 20000 in
theorem ggX4_doAct_X4_layOnTop : GoodIn wsX4_doAct wsX4_layOnTop := goodIn_r _ [37, 8, 9, 25, 26, 27, 21, 28, 23, 24, 29, 30, 31, 32, 33, 38, 39, 40, 41, 42, 43, 44, 45] (by decide +kernel) (by decide +kernel)
set_option maxRecDepth 20000 in
theorem gX4_doAct_X4_layOnTop : GoodIn wsX4_doAct (wsV RX4 74 RX4 yX4_layOnTop wsX4_layOnTop) := goodIn_app (goodIn_of _ (by decide +kernel)) ggX4_doAct_X4_layOnTop
theorem dX4_doAct_0 : decode cX4_doAct 0 = .ok (.iload_n 1, 1) := by decide +kernel
theorem dX4_doAct_1 : decode cX4_doAct 1 = .ok (.tableswitch 46 0 2 #[27, 34, 41], 27) := by decide +kernel
theorem dX4_doAct_28 : decode cX4_doAct 28 = .ok (.aload_n 0, 1) := by decide +kernel
theorem dX4_doAct_29 : decode cX4_doAct 29 = .ok (.iload_n 2, 1) := by decide +kernel
theorem dX4_doAct_30 : decode cX4_doAct 30 = .ok (.putfield 22, 3) := by decide +kernel
theorem dX4_doAct_33 : decode cX4_doAct 33 = .ok (.iconst 1, 1) := by decide +kernel
theorem dX4_doAct_34 : decode cX4_doAct 34 = .ok (.ireturn, 1) := by decide +kernel
theorem dX4_doAct_35 : decode cX4_doAct 35 = .ok (.aload_n 0, 1) := by decide +kernel
theorem dX4_doAct_36 : decode cX4_doAct 36 = .ok (.iload_n 2, 1) := by decide +kernel
theorem dX4_doAct_37 : decode cX4_doAct 37 = .ok (.putfield 25, 3) := by decide +kernel
theorem dX4_doAct_40 : decode cX4_doAct 40 = .ok (.iconst 1, 1) := by decide +kernel
theorem dX4_doAct_41 : decode cX4_doAct 41 = .ok (.ireturn, 1) := by decide +kernel
theorem dX4_doAct_42 : decode cX4_doAct 42 = .ok (.aload_n 0, 1) := by decide +kernel
theorem dX4_doAct_43 : decode cX4_doAct 43 = .ok (.invokevirtual 70, 3) := by decide +kernel
theorem dX4_doAct_46 : decode cX4_doAct 46 = .ok (.ireturn, 1) := by decide +kernel
theorem dX4_doAct_47 : decode cX4_doAct 47 = .ok (.aload_n 0, 1) := by decide +kernel
theorem dX4_doAct_48 : decode cX4_doAct 48 = .ok (.iconst 0, 1) := by decide +kernel
theorem dX4_doAct_49 : decode cX4_doAct 49 = .ok (.iload_n 2, 1) := by decide +kernel
theorem dX4_doAct_50 : decode cX4_doAct 50 = .ok (.iload_n 2, 1) := by decide +kernel
theorem dX4_doAct_51 : decode cX4_doAct 51 = .ok (.invokevirtual 74, 3) := by decide +kernel
theorem dX4_doAct_54 : decode cX4_doAct 54 = .ok (.ireturn, 1) := by decide +kernel
set_option maxRecDepth 20000 in
theorem ggX4_change_X4_layerAt : GoodIn wsX4_change wsX4_layerAt := goodIn_r _ [8, 9, 10, 14, 15, 16, 17] (by decide +kernel) (by decide +kernel)
set_option maxRecDepth 20000 in
theorem gX4_change_X4_layerAt : GoodIn wsX4_change (wsV RX4 78 RX4 yX4_layerAt wsX4_layerAt) := goodIn_app (goodIn_of _ (by decide +kernel)) ggX4_change_X4_layerAt
theorem dX4_change_0 : decode cX4_change 0 = .ok (.aload_n 0, 1) := by decide +kernel
theorem dX4_change_1 : decode cX4_change 1 = .ok (.iload_n 1, 1) := by decide +kernel
theorem dX4_change_2 : decode cX4_change 2 = .ok (.invokevirtual 78, 3) := by decide +kernel
theorem dX4_change_5 : decode cX4_change 5 = .ok (.astore 4, 2) := by decide +kernel
theorem dX4_change_7 : decode cX4_change 7 = .ok (.aload 4, 2) := by decide +kernel
theorem dX4_change_9 : decode cX4_change 9 = .ok (.ifnonnull 4, 3) := by decide +kernel
theorem dX4_change_12 : decode cX4_change 12 = .ok (.return_, 1) := by decide +kernel
theorem dX4_change_13 : decode cX4_change 13 = .ok (.iload_n 2, 1) := by decide +kernel
theorem dX4_change_14 : decode cX4_change 14 = .ok (.lookupswitch 44 #[(0, 26), (1, 35)], 26) := by decide +kernel
theorem dX4_change_40 : decode cX4_change 40 = .ok (.aload 4, 2) := by decide +kernel
theorem dX4_change_42 : decode cX4_change 42 = .ok (.iload_n 3, 1) := by decide +kernel
theorem dX4_change_43 : decode cX4_change 43 = .ok (.putfield 32, 3) := by decide +kernel
theorem dX4_change_46 : decode cX4_change 46 = .ok (.goto 18, 3) := by decide +kernel
theorem dX4_change_49 : decode cX4_change 49 = .ok (.aload 4, 2) := by decide +kernel
theorem dX4_change_51 : decode cX4_change 51 = .ok (.iload_n 3, 1) := by decide +kernel
theorem dX4_change_52 : decode cX4_change 52 = .ok (.putfield 82, 3) := by decide +kernel
theorem dX4_change_55 : decode cX4_change 55 = .ok (.goto 9, 3) := by decide +kernel
theorem dX4_change_58 : decode cX4_change 58 = .ok (.aload 4, 2) := by decide +kernel
theorem dX4_change_60 : decode cX4_change 60 = .ok (.iload_n 3, 1) := by decide +kernel
theorem dX4_change_61 : decode cX4_change 61 = .ok (.putfield 43, 3) := by decide +kernel
theorem dX4_change_64 : decode cX4_change 64 = .ok (.return_, 1) := by decide +kernel
set_option maxRecDepth 20000 in
theorem ggX4_readText_X4_digitAt : GoodIn wsX4_readText wsX4_digitAt := goodIn_r _ [4, 5, 6, 7, 8, 9, 10, 11, 35, 36, 37, 38] (by decide +kernel) (by decide +kernel)
set_option maxRecDepth 20000 in
theorem gX4_readText_X4_digitAt : GoodIn wsX4_readText (va_wsS RX4 85 yX4_digitAt wsX4_digitAt) := goodIn_app (goodIn_of _ (by decide +kernel)) ggX4_readText_X4_digitAt
set_option maxRecDepth 20000 in
theorem ggX4_readText_X4_begin : GoodIn wsX4_readText wsX4_begin := goodIn_r _ [15, 16, 17, 18, 39, 40, 41, 42] (by decide +kernel) (by decide +kernel)
set_option maxRecDepth 20000 in
theorem gX4_readText_X4_begin : GoodIn wsX4_readText (wsV RX4 89 RX4 yX4_begin wsX4_begin) := goodIn_app (goodIn_of _ (by decide +kernel)) ggX4_readText_X4_begin
set_option maxRecDepth 20000 in
theorem ggX4_readText_X3_getCell : GoodIn wsX4_readText wsX3_getCell := goodIn_r _ [9, 10, 11, 35, 36, 37, 38] (by decide +kernel) (by decide +kernel)
set_option maxRecDepth 20000 in
theorem gX4_readText_X3_getCell : GoodIn wsX4_readText (wsV RX4 93 RX3 yX3_getCell wsX3_getCell) := goodIn_app (goodIn_of _ (by decide +kernel)) ggX4_readText_X3_getCell
set_option maxRecDepth 20000 in
theorem ggX4_readText_X5_kindOf : GoodIn wsX4_readText wsX5_kindOf := goodIn_r _ [21] (by decide +kernel) (by decide +kernel)
set_option maxRecDepth 20000 in
theorem gX4_readText_X5_kindOf_n98 : GoodIn wsX4_readText (wsX5_kindOf) := ggX4_readText_X5_kindOf
set_option maxRecDepth 20000 in
theorem ggX4_readText_X4_addBelow : GoodIn wsX4_readText wsX4_addBelow := goodIn_r _ [25, 16, 26, 27, 28, 29, 30, 31, 32, 33, 34, 39, 40, 41, 42, 43, 44, 45] (by decide +kernel) (by decide +kernel)
set_option maxRecDepth 20000 in
theorem gX4_readText_X4_addBelow : GoodIn wsX4_readText (wsV RX4 101 RX4 yX4_addBelow wsX4_addBelow) := goodIn_app (goodIn_of _ (by decide +kernel)) ggX4_readText_X4_addBelow
theorem dX4_readText_0 : decode cX4_readText 0 = .ok (.aload_n 0, 1) := by decide +kernel
theorem dX4_readText_1 : decode cX4_readText 1 = .ok (.aload_n 1, 1) := by decide +kernel
theorem dX4_readText_2 : decode cX4_readText 2 = .ok (.iload_n 2, 1) := by decide +kernel
theorem dX4_readText_3 : decode cX4_readText 3 = .ok (.iconst 1, 1) := by decide +kernel
theorem dX4_readText_4 : decode cX4_readText 4 = .ok (.iadd, 1) := by decide +kernel
theorem dX4_readText_5 : decode cX4_readText 5 = .ok (.invokestatic 85, 3) := by decide +kernel
theorem dX4_readText_8 : decode cX4_readText 8 = .ok (.aload_n 1, 1) := by decide +kernel
theorem dX4_readText_9 : decode cX4_readText 9 = .ok (.iload_n 2, 1) := by decide +kernel
theorem dX4_readText_10 : decode cX4_readText 10 = .ok (.iconst 2, 1) := by decide +kernel
theorem dX4_readText_11 : decode cX4_readText 11 = .ok (.iadd, 1) := by decide +kernel
theorem dX4_readText_12 : decode cX4_readText 12 = .ok (.invokestatic 85, 3) := by decide +kernel
theorem dX4_readText_15 : decode cX4_readText 15 = .ok (.invokevirtual 89, 3) := by decide +kernel
theorem dX4_readText_18 : decode cX4_readText 18 = .ok (.iload_n 2, 1) := by decide +kernel
theorem dX4_readText_19 : decode cX4_readText 19 = .ok (.iconst 3, 1) := by decide +kernel
theorem dX4_readText_20 : decode cX4_readText 20 = .ok (.iadd, 1) := by decide +kernel
theorem dX4_readText_21 : decode cX4_readText 21 = .ok (.istore 4, 2) := by decide +kernel
theorem dX4_readText_23 : decode cX4_readText 23 = .ok (.iload 4, 2) := by decide +kernel
theorem dX4_readText_25 : decode cX4_readText 25 = .ok (.iload_n 2, 1) := by decide +kernel
theorem dX4_readText_26 : decode cX4_readText 26 = .ok (.iload_n 3, 1) := by decide +kernel
theorem dX4_readText_27 : decode cX4_readText 27 = .ok (.iadd, 1) := by decide +kernel
theorem dX4_readText_28 : decode cX4_readText 28 = .ok (.iconst 4, 1) := by decide +kernel
theorem dX4_readText_29 : decode cX4_readText 29 = .ok (.isub, 1) := by decide +kernel
theorem dX4_readText_30 : decode cX4_readText 30 = .ok (.if_icmp .gt 40, 3) := by decide +kernel
theorem dX4_readText_33 : decode cX4_readText 33 = .ok (.aload_n 0, 1) := by decide +kernel
theorem dX4_readText_34 : decode cX4_readText 34 = .ok (.aload_n 1, 1) := by decide +kernel
theorem dX4_readText_35 : decode cX4_readText 35 = .ok (.iload 4, 2) := by decide +kernel
theorem dX4_readText_37 : decode cX4_readText 37 = .ok (.iconst 1, 1) := by decide +kernel
theorem dX4_readText_38 : decode cX4_readText 38 = .ok (.iadd, 1) := by decide +kernel
theorem dX4_readText_39 : decode cX4_readText 39 = .ok (.invokevirtual 93, 3) := by decide +kernel
theorem dX4_readText_42 : decode cX4_readText 42 = .ok (.invokestatic 98, 3) := by decide +kernel
theorem dX4_readText_45 : decode cX4_readText 45 = .ok (.aload_n 1, 1) := by decide +kernel
theorem dX4_readText_46 : decode cX4_readText 46 = .ok (.iload 4, 2) := by decide +kernel
theorem dX4_readText_48 : decode cX4_readText 48 = .ok (.iconst 2, 1) := by decide +kernel
theorem dX4_readText_49 : decode cX4_readText 49 = .ok (.iadd, 1) := by decide +kernel
theorem dX4_readText_50 : decode cX4_readText 50 = .ok (.invokestatic 85, 3) := by decide +kernel
theorem dX4_readText_53 : decode cX4_readText 53 = .ok (.aload_n 1, 1) := by decide +kernel
theorem dX4_readText_54 : decode cX4_readText 54 = .ok (.iload 4, 2) := by decide +kernel
theorem dX4_readText_56 : decode cX4_readText 56 = .ok (.iconst 3, 1) := by decide +kernel
theorem dX4_readText_57 : decode cX4_readText 57 = .ok (.iadd, 1) := by decide +kernel
theorem dX4_readText_58 : decode cX4_readText 58 = .ok (.invokestatic 85, 3) := by decide +kernel
theorem dX4_readText_61 : decode cX4_readText 61 = .ok (.invokevirtual 101, 3) := by decide +kernel
theorem dX4_readText_64 : decode cX4_readText 64 = .ok (.iinc 4 4, 3) := by decide +kernel
theorem dX4_readText_67 : decode cX4_readText 67 = .ok (.goto (-44), 3) := by decide +kernel
theorem dX4_readText_70 : decode cX4_readText 70 = .ok (.return_, 1) := by decide +kernel
set_option maxRecDepth 20000 in
theorem ggX4_digitAt_X3_getCell : GoodIn wsX4_digitAt wsX3_getCell := goodIn_r _ [5, 6, 7, 8, 9, 10, 11] (by decide +kernel) (by decide +kernel)
set_option maxRecDepth 20000 in
theorem gX4_digitAt_X3_getCell : GoodIn wsX4_digitAt (wsV RX4 93 RX3 yX3_getCell wsX3_getCell) := goodIn_app (goodIn_of _ (by decide +kernel)) ggX4_digitAt_X3_getCell
theorem dX4_digitAt_0 : decode cX4_digitAt 0 = .ok (.aload_n 0, 1) := by decide +kernel
theorem dX4_digitAt_1 : decode cX4_digitAt 1 = .ok (.iload_n 1, 1) := by decide +kernel
theorem dX4_digitAt_2 : decode cX4_digitAt 2 = .ok (.invokevirtual 93, 3) := by decide +kernel
theorem dX4_digitAt_5 : decode cX4_digitAt 5 = .ok (.bipush 48, 2) := by decide +kernel
theorem dX4_digitAt_7 : decode cX4_digitAt 7 = .ok (.isub, 1) := by decide +kernel
theorem dX4_digitAt_8 : decode cX4_digitAt 8 = .ok (.ireturn, 1) := by decide +kernel
theorem dX4_begin_0 : decode cX4_begin 0 = .ok (.aload_n 0, 1) := by decide +kernel
theorem dX4_begin_1 : decode cX4_begin 1 = .ok (.iconst 0, 1) := by decide +kernel
theorem dX4_begin_2 : decode cX4_begin 2 = .ok (.putfield 18, 3) := by decide +kernel
theorem dX4_begin_5 : decode cX4_begin 5 = .ok (.aload_n 0, 1) := by decide +kernel
theorem dX4_begin_6 : decode cX4_begin 6 = .ok (.iload_n 1, 1) := by decide +kernel
theorem dX4_begin_7 : decode cX4_begin 7 = .ok (.putfield 22, 3) := by decide +kernel
theorem dX4_begin_10 : decode cX4_begin 10 = .ok (.aload_n 0, 1) := by decide +kernel
theorem dX4_begin_11 : decode cX4_begin 11 = .ok (.iload_n 2, 1) := by decide +kernel
theorem dX4_begin_12 : decode cX4_begin 12 = .ok (.putfield 25, 3) := by decide +kernel
theorem dX4_begin_15 : decode cX4_begin 15 = .ok (.return_, 1) := by decide +kernel
set_option maxRecDepth 20000 in
theorem ggX4_addBelow_X0_become : GoodIn wsX4_addBelow wsX0_become := goodIn_r _ [7, 8, 9, 10, 15, 16, 17] (by decide +kernel) (by decide +kernel)
set_option maxRecDepth 20000 in
theorem gX4_addBelow_X0_become : GoodIn wsX4_addBelow (wsV RX4 60 RX0 yX0_become wsX0_become) := goodIn_app (goodIn_of _ (by decide +kernel)) ggX4_addBelow_X0_become
theorem dX4_addBelow_0 : decode cX4_addBelow 0 = .ok (.aload_n 0, 1) := by decide +kernel
theorem dX4_addBelow_1 : decode cX4_addBelow 1 = .ok (.getfield 18, 3) := by decide +kernel
theorem dX4_addBelow_4 : decode cX4_addBelow 4 = .ok (.bipush 6, 2) := by decide +kernel
theorem dX4_addBelow_6 : decode cX4_addBelow 6 = .ok (.if_icmp .ge 28, 3) := by decide +kernel
theorem dX4_addBelow_9 : decode cX4_addBelow 9 = .ok (.aload_n 0, 1) := by decide +kernel
theorem dX4_addBelow_10 : decode cX4_addBelow 10 = .ok (.getfield 11, 3) := by decide +kernel
theorem dX4_addBelow_13 : decode cX4_addBelow 13 = .ok (.aload_n 0, 1) := by decide +kernel
theorem dX4_addBelow_14 : decode cX4_addBelow 14 = .ok (.getfield 18, 3) := by decide +kernel
theorem dX4_addBelow_17 : decode cX4_addBelow 17 = .ok (.aaload, 1) := by decide +kernel
theorem dX4_addBelow_18 : decode cX4_addBelow 18 = .ok (.iload_n 1, 1) := by decide +kernel
theorem dX4_addBelow_19 : decode cX4_addBelow 19 = .ok (.iload_n 2, 1) := by decide +kernel
theorem dX4_addBelow_20 : decode cX4_addBelow 20 = .ok (.iload_n 3, 1) := by decide +kernel
theorem dX4_addBelow_21 : decode cX4_addBelow 21 = .ok (.invokevirtual 60, 3) := by decide +kernel
theorem dX4_addBelow_24 : decode cX4_addBelow 24 = .ok (.aload_n 0, 1) := by decide +kernel
theorem dX4_addBelow_25 : decode cX4_addBelow 25 = .ok (.dup, 1) := by decide +kernel
theorem dX4_addBelow_26 : decode cX4_addBelow 26 = .ok (.getfield 18, 3) := by decide +kernel
theorem dX4_addBelow_29 : decode cX4_addBelow 29 = .ok (.iconst 1, 1) := by decide +kernel
theorem dX4_addBelow_30 : decode cX4_addBelow 30 = .ok (.iadd, 1) := by decide +kernel
theorem dX4_addBelow_31 : decode cX4_addBelow 31 = .ok (.putfield 18, 3) := by decide +kernel
theorem dX4_addBelow_34 : decode cX4_addBelow 34 = .ok (.return_, 1) := by decide +kernel
set_option maxRecDepth 20000 in
theorem ggX4_addLike_X4_addBelow : GoodIn wsX4_addLike wsX4_addBelow := goodIn_r _ [8, 9, 10, 11, 12, 13, 14, 15, 16, 17, 18, 22, 23, 24, 25, 19, 20, 21] (by decide +kernel) (by decide +kernel)
set_option maxRecDepth 20000 in
theorem gX4_addLike_X4_addBelow : GoodIn wsX4_addLike (wsV RX4 101 RX4 yX4_addBelow wsX4_addBelow) := goodIn_app (goodIn_of _ (by decide +kernel)) ggX4_addLike_X4_addBelow
theorem dX4_addLike_0 : decode cX4_addLike 0 = .ok (.aload_n 1, 1) := by decide +kernel
theorem dX4_addLike_1 : decode cX4_addLike 1 = .ok (.ifnull 19, 3) := by decide +kernel
theorem dX4_addLike_4 : decode cX4_addLike 4 = .ok (.aload_n 0, 1) := by decide +kernel
theorem dX4_addLike_5 : decode cX4_addLike 5 = .ok (.aload_n 1, 1) := by decide +kernel
theorem dX4_addLike_6 : decode cX4_addLike 6 = .ok (.getfield 32, 3) := by decide +kernel
theorem dX4_addLike_9 : decode cX4_addLike 9 = .ok (.aload_n 1, 1) := by decide +kernel
theorem dX4_addLike_10 : decode cX4_addLike 10 = .ok (.getfield 82, 3) := by decide +kernel
theorem dX4_addLike_13 : decode cX4_addLike 13 = .ok (.aload_n 1, 1) := by decide +kernel
theorem dX4_addLike_14 : decode cX4_addLike 14 = .ok (.getfield 43, 3) := by decide +kernel
theorem dX4_addLike_17 : decode cX4_addLike 17 = .ok (.invokevirtual 101, 3) := by decide +kernel
theorem dX4_addLike_20 : decode cX4_addLike 20 = .ok (.return_, 1) := by decide +kernel
set_option maxRecDepth 20000 in
theorem ggX4_become_X4_becomeLess : GoodIn wsX4_become wsX4_becomeLess := goodIn_r _ [5, 6, 7, 8, 9, 10, 11, 4, 12, 13, 14, 15, 16, 17, 18, 19, 20, 21, 22, 23, 24, 25, 26, 27, 28, 29, 30, 31, 32, 33, 34, 35, 36, 37, 38, 39, 40, 41, 42, 43] (by decide +kernel) (by decide +kernel)
set_option maxRecDepth 20000 in
theorem gX4_become_X4_becomeLess : GoodIn wsX4_become (wsV RX4 104 RX4 yX4_becomeLess wsX4_becomeLess) := goodIn_app (goodIn_of _ (by decide +kernel)) ggX4_become_X4_becomeLess
theorem dX4_become_0 : decode cX4_become 0 = .ok (.aload_n 0, 1) := by decide +kernel
theorem dX4_become_1 : decode cX4_become 1 = .ok (.aload_n 1, 1) := by decide +kernel
theorem dX4_become_2 : decode cX4_become 2 = .ok (.iconst 0, 1) := by decide +kernel
theorem dX4_become_3 : decode cX4_become 3 = .ok (.invokevirtual 104, 3) := by decide +kernel
theorem dX4_become_6 : decode cX4_become 6 = .ok (.return_, 1) := by decide +kernel
set_option maxRecDepth 20000 in
theorem ggX4_becomeLess_X4_begin : GoodIn wsX4_becomeLess wsX4_begin := goodIn_r _ [8, 3, 1, 2, 33, 34, 35, 36] (by decide +kernel) (by decide +kernel)
set_option maxRecDepth 20000 in
theorem gX4_becomeLess_X4_begin : GoodIn wsX4_becomeLess (wsV RX4 89 RX4 yX4_begin wsX4_begin) := goodIn_app (goodIn_of _ (by decide +kernel)) ggX4_becomeLess_X4_begin
set_option maxRecDepth 20000 in
theorem ggX4_becomeLess_X4_layerAt : GoodIn wsX4_becomeLess wsX4_layerAt := goodIn_r _ [12, 3, 13, 33, 34, 35, 36] (by decide +kernel) (by decide +kernel)
set_option maxRecDepth 20000 in
theorem gX4_becomeLess_X4_layerAt : GoodIn wsX4_becomeLess (wsV RX4 78 RX4 yX4_layerAt wsX4_layerAt) := goodIn_app (goodIn_of _ (by decide +kernel)) ggX4_becomeLess_X4_layerAt
set_option maxRecDepth 20000 in
theorem ggX4_becomeLess_X4_addLike : GoodIn wsX4_becomeLess wsX4_addLike := goodIn_r _ [17, 18, 19, 20, 21, 22, 23, 7, 24, 3, 13, 25, 26, 27, 28, 29, 30, 31, 32, 37, 38, 39, 33, 34, 35, 36] (by decide +kernel) (by decide +kernel)
set_option maxRecDepth 20000 in
theorem gX4_becomeLess_X4_addLike : GoodIn wsX4_becomeLess (wsV RX4 108 RX4 yX4_addLike wsX4_addLike) := goodIn_app (goodIn_of _ (by decide +kernel)) ggX4_becomeLess_X4_addLike
theorem dX4_becomeLess_0 : decode cX4_becomeLess 0 = .ok (.aload_n 0, 1) := by decide +kernel
theorem dX4_becomeLess_1 : decode cX4_becomeLess 1 = .ok (.aload_n 1, 1) := by decide +kernel
theorem dX4_becomeLess_2 : decode cX4_becomeLess 2 = .ok (.getfield 22, 3) := by decide +kernel
theorem dX4_becomeLess_5 : decode cX4_becomeLess 5 = .ok (.aload_n 1, 1) := by decide +kernel
theorem dX4_becomeLess_6 : decode cX4_becomeLess 6 = .ok (.getfield 25, 3) := by decide +kernel
theorem dX4_becomeLess_9 : decode cX4_becomeLess 9 = .ok (.invokevirtual 89, 3) := by decide +kernel
theorem dX4_becomeLess_12 : decode cX4_becomeLess 12 = .ok (.iconst 0, 1) := by decide +kernel
theorem dX4_becomeLess_13 : decode cX4_becomeLess 13 = .ok (.istore_n 3, 1) := by decide +kernel
theorem dX4_becomeLess_14 : decode cX4_becomeLess 14 = .ok (.iload_n 3, 1) := by decide +kernel
theorem dX4_becomeLess_15 : decode cX4_becomeLess 15 = .ok (.aload_n 1, 1) := by decide +kernel
theorem dX4_becomeLess_16 : decode cX4_becomeLess 16 = .ok (.getfield 18, 3) := by decide +kernel
theorem dX4_becomeLess_19 : decode cX4_becomeLess 19 = .ok (.if_icmp .ge 26, 3) := by decide +kernel
theorem dX4_becomeLess_22 : decode cX4_becomeLess 22 = .ok (.iload_n 2, 1) := by decide +kernel
theorem dX4_becomeLess_23 : decode cX4_becomeLess 23 = .ok (.iconst 1, 1) := by decide +kernel
theorem dX4_becomeLess_24 : decode cX4_becomeLess 24 = .ok (.iload_n 3, 1) := by decide +kernel
theorem dX4_becomeLess_25 : decode cX4_becomeLess 25 = .ok (.ishl, 1) := by decide +kernel
theorem dX4_becomeLess_26 : decode cX4_becomeLess 26 = .ok (.iand, 1) := by decide +kernel
theorem dX4_becomeLess_27 : decode cX4_becomeLess 27 = .ok (.ifCond .ne 12, 3) := by decide +kernel
theorem dX4_becomeLess_30 : decode cX4_becomeLess 30 = .ok (.aload_n 0, 1) := by decide +kernel
theorem dX4_becomeLess_31 : decode cX4_becomeLess 31 = .ok (.aload_n 1, 1) := by decide +kernel
theorem dX4_becomeLess_32 : decode cX4_becomeLess 32 = .ok (.iload_n 3, 1) := by decide +kernel
theorem dX4_becomeLess_33 : decode cX4_becomeLess 33 = .ok (.invokevirtual 78, 3) := by decide +kernel
theorem dX4_becomeLess_36 : decode cX4_becomeLess 36 = .ok (.invokevirtual 108, 3) := by decide +kernel
theorem dX4_becomeLess_39 : decode cX4_becomeLess 39 = .ok (.iinc 3 1, 3) := by decide +kernel
theorem dX4_becomeLess_42 : decode cX4_becomeLess 42 = .ok (.goto (-28), 3) := by decide +kernel
theorem dX4_becomeLess_45 : decode cX4_becomeLess 45 = .ok (.return_, 1) := by decide +kernel
set_option maxRecDepth 20000 in
theorem ggX4_becomeOrdered_X4_begin : GoodIn wsX4_becomeOrdered wsX4_begin := goodIn_r _ [8, 3, 1, 2, 40, 41, 42, 43] (by decide +kernel) (by decide +kernel)
set_option maxRecDepth 20000 in
theorem gX4_becomeOrdered_X4_begin : GoodIn wsX4_becomeOrdered (wsV RX4 89 RX4 yX4_begin wsX4_begin) := goodIn_app (goodIn_of _ (by decide +kernel)) ggX4_becomeOrdered_X4_begin
set_option maxRecDepth 20000 in
theorem ggX4_becomeOrdered_X1_layerIn : GoodIn wsX4_becomeOrdered wsX1_layerIn := goodIn_r _ [13, 14, 15, 44, 45] (by decide +kernel) (by decide +kernel)
set_option maxRecDepth 20000 in
theorem gX4_becomeOrdered_X1_layerIn : GoodIn wsX4_becomeOrdered (wsV RX4 111 RX1 yX1_layerIn wsX1_layerIn) := goodIn_app (goodIn_of _ (by decide +kernel)) ggX4_becomeOrdered_X1_layerIn
set_option maxRecDepth 20000 in
theorem ggX4_becomeOrdered_X4_layerAt : GoodIn wsX4_becomeOrdered wsX4_layerAt := goodIn_r _ [19, 3, 20, 40, 41, 42, 43] (by decide +kernel) (by decide +kernel)
set_option maxRecDepth 20000 in
theorem gX4_becomeOrdered_X4_layerAt : GoodIn wsX4_becomeOrdered (wsV RX4 78 RX4 yX4_layerAt wsX4_layerAt) := goodIn_app (goodIn_of _ (by decide +kernel)) ggX4_becomeOrdered_X4_layerAt
set_option maxRecDepth 20000 in
theorem ggX4_becomeOrdered_X4_addLike : GoodIn wsX4_becomeOrdered wsX4_addLike := goodIn_r _ [24, 25, 26, 27, 28, 29, 30, 7, 31, 3, 20, 32, 33, 34, 35, 36, 37, 38, 39, 46, 47, 48, 40, 41, 42, 43] (by decide +kernel) (by decide +kernel)
set_option maxRecDepth 20000 in
theorem gX4_becomeOrdered_X4_addLike : GoodIn wsX4_becomeOrdered (wsV RX4 108 RX4 yX4_addLike wsX4_addLike) := goodIn_app (goodIn_of _ (by decide +kernel)) ggX4_becomeOrdered_X4_addLike
theorem dX4_becomeOrdered_0 : decode cX4_becomeOrdered 0 = .ok (.aload_n 0, 1) := by decide +kernel
theorem dX4_becomeOrdered_1 : decode cX4_becomeOrdered 1 = .ok (.aload_n 1, 1) := by decide +kernel
theorem dX4_becomeOrdered_2 : decode cX4_becomeOrdered 2 = .ok (.getfield 22, 3) := by decide +kernel
theorem dX4_becomeOrdered_5 : decode cX4_becomeOrdered 5 = .ok (.aload_n 1, 1) := by decide +kernel
theorem dX4_becomeOrdered_6 : decode cX4_becomeOrdered 6 = .ok (.getfield 25, 3) := by decide +kernel
theorem dX4_becomeOrdered_9 : decode cX4_becomeOrdered 9 = .ok (.invokevirtual 89, 3) := by decide +kernel
theorem dX4_becomeOrdered_12 : decode cX4_becomeOrdered 12 = .ok (.iconst 0, 1) := by decide +kernel
theorem dX4_becomeOrdered_13 : decode cX4_becomeOrdered 13 = .ok (.istore_n 3, 1) := by decide +kernel
theorem dX4_becomeOrdered_14 : decode cX4_becomeOrdered 14 = .ok (.iload_n 3, 1) := by decide +kernel
theorem dX4_becomeOrdered_15 : decode cX4_becomeOrdered 15 = .ok (.aload_n 1, 1) := by decide +kernel
theorem dX4_becomeOrdered_16 : decode cX4_becomeOrdered 16 = .ok (.getfield 18, 3) := by decide +kernel
theorem dX4_becomeOrdered_19 : decode cX4_becomeOrdered 19 = .ok (.if_icmp .ge 22, 3) := by decide +kernel
theorem dX4_becomeOrdered_22 : decode cX4_becomeOrdered 22 = .ok (.aload_n 0, 1) := by decide +kernel
theorem dX4_becomeOrdered_23 : decode cX4_becomeOrdered 23 = .ok (.aload_n 1, 1) := by decide +kernel
theorem dX4_becomeOrdered_24 : decode cX4_becomeOrdered 24 = .ok (.aload_n 2, 1) := by decide +kernel
theorem dX4_becomeOrdered_25 : decode cX4_becomeOrdered 25 = .ok (.iload_n 3, 1) := by decide +kernel
theorem dX4_becomeOrdered_26 : decode cX4_becomeOrdered 26 = .ok (.invokevirtual 111, 3) := by decide +kernel
theorem dX4_becomeOrdered_29 : decode cX4_becomeOrdered 29 = .ok (.invokevirtual 78, 3) := by decide +kernel
theorem dX4_becomeOrdered_32 : decode cX4_becomeOrdered 32 = .ok (.invokevirtual 108, 3) := by decide +kernel
theorem dX4_becomeOrdered_35 : decode cX4_becomeOrdered 35 = .ok (.iinc 3 1, 3) := by decide +kernel
theorem dX4_becomeOrdered_38 : decode cX4_becomeOrdered 38 = .ok (.goto (-24), 3) := by decide +kernel
theorem dX4_becomeOrdered_41 : decode cX4_becomeOrdered 41 = .ok (.return_, 1) := by decide +kernel
set_option maxRecDepth 20000 in
theorem ggX5_init_X4_init : GoodIn wsX5_init wsX4_init := goodIn_r _ [23, 24, 2, 3, 25, 26, 27, 28, 29, 30, 31, 46, 47, 48, 49, 66, 67, 68] (by decide +kernel) (by decide +kernel)
set_option maxRecDepth 20000 in
theorem gX5_init_X4_init : GoodIn wsX5_init (wsX4_init) := ggX5_init_X4_init
set_option maxRecDepth 20000 in
theorem ggX5_init_X2_init : GoodIn wsX5_init wsX2_init := goodIn_r _ [33, 34, 2, 3, 35, 36, 37, 57, 58, 59] (by decide +kernel) (by decide +kernel)
set_option maxRecDepth 20000 in
theorem gX5_init_X2_init_n23 : GoodIn wsX5_init (wsX2_init) := ggX5_init_X2_init
set_option maxRecDepth 20000 in
theorem ggX5_init_X1_init : GoodIn wsX5_init wsX1_init := goodIn_r _ [39, 40, 2, 3, 35, 41, 60, 61] (by decide +kernel) (by decide +kernel)
set_option maxRecDepth 20000 in
theorem gX5_init_X1_init_n30 : GoodIn wsX5_init (wsX1_init) := ggX5_init_X1_init
set_option maxRecDepth 20000 in
theorem ggX5_init_X3_init : GoodIn wsX5_init wsX3_init := goodIn_r _ [43, 44, 2, 3, 35, 45, 62, 63, 64, 65] (by decide +kernel) (by decide +kernel)
set_option maxRecDepth 20000 in
theorem gX5_init_X3_init_n41 : GoodIn wsX5_init (wsX3_init) := ggX5_init_X3_init
theorem dX5_init_0 : decode cX5_init 0 = .ok (.aload_n 0, 1) := by decide +kernel
theorem dX5_init_1 : decode cX5_init 1 = .ok (.invokespecial 3, 3) := by decide +kernel
theorem dX5_init_4 : decode cX5_init 4 = .ok (.aload_n 0, 1) := by decide +kernel
theorem dX5_init_5 : decode cX5_init 5 = .ok (.new 9, 3) := by decide +kernel
theorem dX5_init_8 : decode cX5_init 8 = .ok (.dup, 1) := by decide +kernel
theorem dX5_init_9 : decode cX5_init 9 = .ok (.invokespecial 11, 3) := by decide +kernel
theorem dX5_init_12 : decode cX5_init 12 = .ok (.putfield 12, 3) := by decide +kernel
theorem dX5_init_15 : decode cX5_init 15 = .ok (.aload_n 0, 1) := by decide +kernel
theorem dX5_init_16 : decode cX5_init 16 = .ok (.new 9, 3) := by decide +kernel
theorem dX5_init_19 : decode cX5_init 19 = .ok (.dup, 1) := by decide +kernel
theorem dX5_init_20 : decode cX5_init 20 = .ok (.invokespecial 11, 3) := by decide +kernel
theorem dX5_init_23 : decode cX5_init 23 = .ok (.putfield 18, 3) := by decide +kernel
theorem dX5_init_26 : decode cX5_init 26 = .ok (.aload_n 0, 1) := by decide +kernel
theorem dX5_init_27 : decode cX5_init 27 = .ok (.new 21, 3) := by decide +kernel
theorem dX5_init_30 : decode cX5_init 30 = .ok (.dup, 1) := by decide +kernel
theorem dX5_init_31 : decode cX5_init 31 = .ok (.invokespecial 23, 3) := by decide +kernel
theorem dX5_init_34 : decode cX5_init 34 = .ok (.putfield 24, 3) := by decide +kernel
theorem dX5_init_37 : decode cX5_init 37 = .ok (.aload_n 0, 1) := by decide +kernel
theorem dX5_init_38 : decode cX5_init 38 = .ok (.new 28, 3) := by decide +kernel
theorem dX5_init_41 : decode cX5_init 41 = .ok (.dup, 1) := by decide +kernel
theorem dX5_init_42 : decode cX5_init 42 = .ok (.invokespecial 30, 3) := by decide +kernel
theorem dX5_init_45 : decode cX5_init 45 = .ok (.putfield 31, 3) := by decide +kernel
theorem dX5_init_48 : decode cX5_init 48 = .ok (.aload_n 0, 1) := by decide +kernel
theorem dX5_init_49 : decode cX5_init 49 = .ok (.iconst 4, 1) := by decide +kernel
theorem dX5_init_50 : decode cX5_init 50 = .ok (.anewarray 35, 3) := by decide +kernel
theorem dX5_init_53 : decode cX5_init 53 = .ok (.putfield 37, 3) := by decide +kernel
theorem dX5_init_56 : decode cX5_init 56 = .ok (.iconst 0, 1) := by decide +kernel
theorem dX5_init_57 : decode cX5_init 57 = .ok (.istore_n 1, 1) := by decide +kernel
theorem dX5_init_58 : decode cX5_init 58 = .ok (.iload_n 1, 1) := by decide +kernel
theorem dX5_init_59 : decode cX5_init 59 = .ok (.iconst 4, 1) := by decide +kernel
theorem dX5_init_60 : decode cX5_init 60 = .ok (.if_icmp .ge 22, 3) := by decide +kernel
theorem dX5_init_63 : decode cX5_init 63 = .ok (.aload_n 0, 1) := by decide +kernel
theorem dX5_init_64 : decode cX5_init 64 = .ok (.getfield 37, 3) := by decide +kernel
theorem dX5_init_67 : decode cX5_init 67 = .ok (.iload_n 1, 1) := by decide +kernel
theorem dX5_init_68 : decode cX5_init 68 = .ok (.new 35, 3) := by decide +kernel
theorem dX5_init_71 : decode cX5_init 71 = .ok (.dup, 1) := by decide +kernel
theorem dX5_init_72 : decode cX5_init 72 = .ok (.invokespecial 41, 3) := by decide +kernel
theorem dX5_init_75 : decode cX5_init 75 = .ok (.aastore, 1) := by decide +kernel
theorem dX5_init_76 : decode cX5_init 76 = .ok (.iinc 1 1, 3) := by decide +kernel
theorem dX5_init_79 : decode cX5_init 79 = .ok (.goto (-21), 3) := by decide +kernel
theorem dX5_init_82 : decode cX5_init 82 = .ok (.return_, 1) := by decide +kernel
set_option maxRecDepth 20000 in
theorem ggX5_wall_X5_sheetAt : GoodIn wsX5_wall wsX5_sheetAt := goodIn_r _ [10, 11, 12, 13, 9, 14, 77, 78, 79, 80, 81, 82, 83] (by decide +kernel) (by decide +kernel)
set_option maxRecDepth 20000 in
theorem gX5_wall_X5_sheetAt : GoodIn wsX5_wall (wsV RX5 46 RX5 yX5_sheetAt wsX5_sheetAt) := goodIn_app (goodIn_of _ (by decide +kernel)) ggX5_wall_X5_sheetAt
set_option maxRecDepth 20000 in
theorem ggX5_wall_X5_isUpTo : GoodIn wsX5_wall wsX5_isUpTo := goodIn_r _ [14] (by decide +kernel) (by decide +kernel)
set_option maxRecDepth 20000 in
theorem gX5_wall_X5_isUpTo : GoodIn wsX5_wall (va_wsS RX5 50 yX5_isUpTo wsX5_isUpTo) := goodIn_app (goodIn_of _ (by decide +kernel)) ggX5_wall_X5_isUpTo
set_option maxRecDepth 20000 in
theorem ggX5_wall_X3_faultAsLane : GoodIn wsX5_wall wsX3_faultAsLane := goodIn_r _ [19, 20, 21, 91, 92, 93, 94] (by decide +kernel) (by decide +kernel)
set_option maxRecDepth 20000 in
theorem gX5_wall_X3_faultAsLane : GoodIn wsX5_wall (wsV RX5 54 RX3 yX3_faultAsLane wsX3_faultAsLane) := goodIn_app (goodIn_of _ (by decide +kernel)) ggX5_wall_X3_faultAsLane
set_option maxRecDepth 20000 in
theorem ggX5_wall_X3_faultOfCells : GoodIn wsX5_wall wsX3_faultOfCells := goodIn_r _ [25, 20, 26, 91, 92, 93, 94] (by decide +kernel) (by decide +kernel)
set_option maxRecDepth 20000 in
theorem gX5_wall_X3_faultOfCells : GoodIn wsX5_wall (wsV RX5 58 RX3 yX3_faultOfCells wsX3_faultOfCells) := goodIn_app (goodIn_of _ (by decide +kernel)) ggX5_wall_X3_faultOfCells
set_option maxRecDepth 20000 in
theorem ggX5_wall_X5_failed : GoodIn wsX5_wall wsX5_failed := goodIn_r _ [30, 1, 77, 78, 79, 80, 81, 82, 83] (by decide +kernel) (by decide +kernel)
set_option maxRecDepth 20000 in
theorem gX5_wall_X5_failed : GoodIn wsX5_wall (wsV RX5 62 RX5 yX5_failed wsX5_failed) := goodIn_app (goodIn_of _ (by decide +kernel)) ggX5_wall_X5_failed
set_option maxRecDepth 20000 in
theorem ggX5_wall_X5_firstFault : GoodIn wsX5_wall wsX5_firstFault := goodIn_r _ [33, 34, 35, 36, 18, 37, 26, 38, 39, 40, 9, 41, 42, 43, 44, 45, 46, 47, 91, 92, 93, 94] (by decide +kernel) (by decide +kernel)
set_option maxRecDepth 20000 in
theorem gX5_wall_X5_firstFault : GoodIn wsX5_wall (va_wsS RX5 65 yX5_firstFault wsX5_firstFault) := goodIn_app (goodIn_of _ (by decide +kernel)) ggX5_wall_X5_firstFault
set_option maxRecDepth 20000 in
theorem ggX5_wall_X4_readText : GoodIn wsX5_wall wsX4_readText := goodIn_r _ [52, 53, 54, 51, 55, 56, 35, 36, 18, 37, 26, 38, 57, 58, 59, 60, 61, 62, 63, 46, 9, 47, 64, 65, 66, 67, 68, 69, 70, 71, 72, 73, 74, 75, 76, 91, 92, 93, 94, 87, 88, 89, 90, 95, 96, 97] (by decide +kernel) (by decide +kernel)
set_option maxRecDepth 20000 in
theorem gX5_wall_X4_readText : GoodIn wsX5_wall (wsV RX5 69 RX4 yX4_readText wsX4_readText) := goodIn_app (goodIn_of _ (by decide +kernel)) ggX5_wall_X4_readText
end
section
theorem dX5_wall_0 : decode cX5_wall 0 = .ok (.aload_n 0, 1) := by decide +kernel
theorem dX5_wall_1 : decode cX5_wall 1 = .ok (.iconst 0, 1) := by decide +kernel
theorem dX5_wall_2 : decode cX5_wall 2 = .ok (.putfield 42, 3) := by decide +kernel
theorem dX5_wall_5 : decode cX5_wall 5 = .ok (.aload_n 0, 1) := by decide +kernel
theorem dX5_wall_6 : decode cX5_wall 6 = .ok (.iload_n 1, 1) := by decide +kernel
theorem dX5_wall_7 : decode cX5_wall 7 = .ok (.invokevirtual 46, 3) := by decide +kernel
theorem dX5_wall_10 : decode cX5_wall 10 = .ok (.astore 5, 2) := by decide +kernel
theorem dX5_wall_12 : decode cX5_wall 12 = .ok (.aload 5, 2) := by decide +kernel
theorem dX5_wall_14 : decode cX5_wall 14 = .ok (.ifnonnull 5, 3) := by decide +kernel
theorem dX5_wall_17 : decode cX5_wall 17 = .ok (.iconst (-1), 1) := by decide +kernel
theorem dX5_wall_18 : decode cX5_wall 18 = .ok (.ireturn, 1) := by decide +kernel
theorem dX5_wall_19 : decode cX5_wall 19 = .ok (.iload_n 2, 1) := by decide +kernel
theorem dX5_wall_20 : decode cX5_wall 20 = .ok (.iconst 2, 1) := by decide +kernel
theorem dX5_wall_21 : decode cX5_wall 21 = .ok (.invokestatic 50, 3) := by decide +kernel
theorem dX5_wall_24 : decode cX5_wall 24 = .ok (.ifCond .ne 6, 3) := by decide +kernel
theorem dX5_wall_27 : decode cX5_wall 27 = .ok (.bipush (-2), 2) := by decide +kernel
theorem dX5_wall_29 : decode cX5_wall 29 = .ok (.ireturn, 1) := by decide +kernel
theorem dX5_wall_30 : decode cX5_wall 30 = .ok (.aload 5, 2) := by decide +kernel
theorem dX5_wall_32 : decode cX5_wall 32 = .ok (.iload_n 2, 1) := by decide +kernel
theorem dX5_wall_33 : decode cX5_wall 33 = .ok (.invokevirtual 54, 3) := by decide +kernel
theorem dX5_wall_36 : decode cX5_wall 36 = .ok (.istore 6, 2) := by decide +kernel
theorem dX5_wall_38 : decode cX5_wall 38 = .ok (.iload 6, 2) := by decide +kernel
theorem dX5_wall_40 : decode cX5_wall 40 = .ok (.ifCond .ne 22, 3) := by decide +kernel
theorem dX5_wall_43 : decode cX5_wall 43 = .ok (.iload 4, 2) := by decide +kernel
theorem dX5_wall_45 : decode cX5_wall 45 = .ok (.ifCond .ge 7, 3) := by decide +kernel
theorem dX5_wall_48 : decode cX5_wall 48 = .ok (.iconst 4, 1) := by decide +kernel
theorem dX5_wall_49 : decode cX5_wall 49 = .ok (.goto 11, 3) := by decide +kernel
theorem dX5_wall_52 : decode cX5_wall 52 = .ok (.aload 5, 2) := by decide +kernel
theorem dX5_wall_54 : decode cX5_wall 54 = .ok (.iload_n 3, 1) := by decide +kernel
theorem dX5_wall_55 : decode cX5_wall 55 = .ok (.iload 4, 2) := by decide +kernel
theorem dX5_wall_57 : decode cX5_wall 57 = .ok (.invokevirtual 58, 3) := by decide +kernel
theorem dX5_wall_60 : decode cX5_wall 60 = .ok (.istore 6, 2) := by decide +kernel
theorem dX5_wall_62 : decode cX5_wall 62 = .ok (.iload 6, 2) := by decide +kernel
theorem dX5_wall_64 : decode cX5_wall 64 = .ok (.ifCond .eq 10, 3) := by decide +kernel
theorem dX5_wall_67 : decode cX5_wall 67 = .ok (.aload_n 0, 1) := by decide +kernel
theorem dX5_wall_68 : decode cX5_wall 68 = .ok (.iload 6, 2) := by decide +kernel
theorem dX5_wall_70 : decode cX5_wall 70 = .ok (.invokevirtual 62, 3) := by decide +kernel
theorem dX5_wall_73 : decode cX5_wall 73 = .ok (.ireturn, 1) := by decide +kernel
theorem dX5_wall_74 : decode cX5_wall 74 = .ok (.aload 5, 2) := by decide +kernel
theorem dX5_wall_76 : decode cX5_wall 76 = .ok (.iload_n 3, 1) := by decide +kernel
theorem dX5_wall_77 : decode cX5_wall 77 = .ok (.iload 4, 2) := by decide +kernel
theorem dX5_wall_79 : decode cX5_wall 79 = .ok (.invokestatic 65, 3) := by decide +kernel
theorem dX5_wall_82 : decode cX5_wall 82 = .ok (.istore 7, 2) := by decide +kernel
theorem dX5_wall_84 : decode cX5_wall 84 = .ok (.iload 7, 2) := by decide +kernel
theorem dX5_wall_86 : decode cX5_wall 86 = .ok (.ifCond .lt 9, 3) := by decide +kernel
theorem dX5_wall_89 : decode cX5_wall 89 = .ok (.bipush (-100), 2) := by decide +kernel
theorem dX5_wall_91 : decode cX5_wall 91 = .ok (.iload 7, 2) := by decide +kernel
theorem dX5_wall_93 : decode cX5_wall 93 = .ok (.isub, 1) := by decide +kernel
theorem dX5_wall_94 : decode cX5_wall 94 = .ok (.ireturn, 1) := by decide +kernel
theorem dX5_wall_95 : decode cX5_wall 95 = .ok (.aload_n 0, 1) := by decide +kernel
theorem dX5_wall_96 : decode cX5_wall 96 = .ok (.getfield 12, 3) := by decide +kernel
theorem dX5_wall_99 : decode cX5_wall 99 = .ok (.aload 5, 2) := by decide +kernel
theorem dX5_wall_101 : decode cX5_wall 101 = .ok (.iload_n 3, 1) := by decide +kernel
theorem dX5_wall_102 : decode cX5_wall 102 = .ok (.iload 4, 2) := by decide +kernel
theorem dX5_wall_104 : decode cX5_wall 104 = .ok (.invokevirtual 69, 3) := by decide +kernel
theorem dX5_wall_107 : decode cX5_wall 107 = .ok (.aload_n 0, 1) := by decide +kernel
theorem dX5_wall_108 : decode cX5_wall 108 = .ok (.getfield 24, 3) := by decide +kernel
theorem dX5_wall_111 : decode cX5_wall 111 = .ok (.iconst 0, 1) := by decide +kernel
theorem dX5_wall_112 : decode cX5_wall 112 = .ok (.putfield 73, 3) := by decide +kernel
theorem dX5_wall_115 : decode cX5_wall 115 = .ok (.aload_n 0, 1) := by decide +kernel
theorem dX5_wall_116 : decode cX5_wall 116 = .ok (.getfield 12, 3) := by decide +kernel
theorem dX5_wall_119 : decode cX5_wall 119 = .ok (.getfield 76, 3) := by decide +kernel
theorem dX5_wall_122 : decode cX5_wall 122 = .ok (.ireturn, 1) := by decide +kernel
set_option maxRecDepth 20000 in
theorem ggX5_ofLayer_X4_layerAt : GoodIn wsX5_ofLayer wsX4_layerAt := goodIn_r _ [9, 10, 11, 45, 46, 47, 48] (by decide +kernel) (by decide +kernel)
set_option maxRecDepth 20000 in
theorem gX5_ofLayer_X4_layerAt : GoodIn wsX5_ofLayer (wsV RX5 77 RX4 yX4_layerAt wsX4_layerAt) := goodIn_app (goodIn_of _ (by decide +kernel)) ggX5_ofLayer_X4_layerAt
set_option maxRecDepth 20000 in
theorem ggX5_ofLayer_X0_grip : GoodIn wsX5_ofLayer wsX0_grip := goodIn_r _ [16, 17, 18, 42, 43, 44] (by decide +kernel) (by decide +kernel)
set_option maxRecDepth 20000 in
theorem gX5_ofLayer_X0_grip : GoodIn wsX5_ofLayer (wsV RX5 92 RX0 yX0_grip wsX0_grip) := goodIn_app (goodIn_of _ (by decide +kernel)) ggX5_ofLayer_X0_grip
set_option maxRecDepth 20000 in
theorem ggX5_ofLayer_X4_warmth : GoodIn wsX5_ofLayer wsX4_warmth := goodIn_r _ [22, 23, 24, 45, 46, 47, 48] (by decide +kernel) (by decide +kernel)
set_option maxRecDepth 20000 in
theorem gX5_ofLayer_X4_warmth : GoodIn wsX5_ofLayer (wsV RX5 96 RX4 yX4_warmth wsX4_warmth) := goodIn_app (goodIn_of _ (by decide +kernel)) ggX5_ofLayer_X4_warmth
set_option maxRecDepth 20000 in
theorem ggX5_ofLayer_X4_liftedBy : GoodIn wsX5_ofLayer wsX4_liftedBy := goodIn_r _ [28, 10, 11, 29, 13, 14, 15, 16, 17, 18, 45, 46, 47, 48, 42, 43, 44] (by decide +kernel) (by decide +kernel)
set_option maxRecDepth 20000 in
theorem gX5_ofLayer_X4_liftedBy : GoodIn wsX5_ofLayer (wsV RX5 99 RX4 yX4_liftedBy wsX4_liftedBy) := goodIn_app (goodIn_of _ (by decide +kernel)) ggX5_ofLayer_X4_liftedBy
set_option maxRecDepth 20000 in
theorem ggX5_ofLayer_X4_heardBy : GoodIn wsX5_ofLayer wsX4_heardBy := goodIn_r _ [33, 10, 11, 34, 29, 13, 14, 15, 16, 17, 18, 45, 46, 47, 48, 42, 43, 44] (by decide +kernel) (by decide +kernel)
set_option maxRecDepth 20000 in
theorem gX5_ofLayer_X4_heardBy : GoodIn wsX5_ofLayer (wsV RX5 102 RX4 yX4_heardBy wsX4_heardBy) := goodIn_app (goodIn_of _ (by decide +kernel)) ggX5_ofLayer_X4_heardBy
theorem dX5_ofLayer_0 : decode cX5_ofLayer 0 = .ok (.aload_n 0, 1) := by decide +kernel
theorem dX5_ofLayer_1 : decode cX5_ofLayer 1 = .ok (.getfield 12, 3) := by decide +kernel
theorem dX5_ofLayer_4 : decode cX5_ofLayer 4 = .ok (.iload_n 1, 1) := by decide +kernel
theorem dX5_ofLayer_5 : decode cX5_ofLayer 5 = .ok (.invokevirtual 77, 3) := by decide +kernel
theorem dX5_ofLayer_8 : decode cX5_ofLayer 8 = .ok (.astore_n 3, 1) := by decide +kernel
theorem dX5_ofLayer_9 : decode cX5_ofLayer 9 = .ok (.aload_n 3, 1) := by decide +kernel
theorem dX5_ofLayer_10 : decode cX5_ofLayer 10 = .ok (.ifnonnull 5, 3) := by decide +kernel
theorem dX5_ofLayer_13 : decode cX5_ofLayer 13 = .ok (.iconst (-1), 1) := by decide +kernel
theorem dX5_ofLayer_14 : decode cX5_ofLayer 14 = .ok (.ireturn, 1) := by decide +kernel
theorem dX5_ofLayer_15 : decode cX5_ofLayer 15 = .ok (.iload_n 2, 1) := by decide +kernel
theorem dX5_ofLayer_16 : decode cX5_ofLayer 16 = .ok (.tableswitch 108 0 5 #[40, 45, 50, 55, 60, 84], 40) := by decide +kernel
theorem dX5_ofLayer_56 : decode cX5_ofLayer 56 = .ok (.aload_n 3, 1) := by decide +kernel
theorem dX5_ofLayer_57 : decode cX5_ofLayer 57 = .ok (.getfield 81, 3) := by decide +kernel
theorem dX5_ofLayer_60 : decode cX5_ofLayer 60 = .ok (.ireturn, 1) := by decide +kernel
theorem dX5_ofLayer_61 : decode cX5_ofLayer 61 = .ok (.aload_n 3, 1) := by decide +kernel
theorem dX5_ofLayer_62 : decode cX5_ofLayer 62 = .ok (.getfield 86, 3) := by decide +kernel
theorem dX5_ofLayer_65 : decode cX5_ofLayer 65 = .ok (.ireturn, 1) := by decide +kernel
theorem dX5_ofLayer_66 : decode cX5_ofLayer 66 = .ok (.aload_n 3, 1) := by decide +kernel
theorem dX5_ofLayer_67 : decode cX5_ofLayer 67 = .ok (.getfield 89, 3) := by decide +kernel
theorem dX5_ofLayer_70 : decode cX5_ofLayer 70 = .ok (.ireturn, 1) := by decide +kernel
theorem dX5_ofLayer_71 : decode cX5_ofLayer 71 = .ok (.aload_n 3, 1) := by decide +kernel
theorem dX5_ofLayer_72 : decode cX5_ofLayer 72 = .ok (.invokevirtual 92, 3) := by decide +kernel
theorem dX5_ofLayer_75 : decode cX5_ofLayer 75 = .ok (.ireturn, 1) := by decide +kernel
theorem dX5_ofLayer_76 : decode cX5_ofLayer 76 = .ok (.iload_n 1, 1) := by decide +kernel
theorem dX5_ofLayer_77 : decode cX5_ofLayer 77 = .ok (.aload_n 0, 1) := by decide +kernel
theorem dX5_ofLayer_78 : decode cX5_ofLayer 78 = .ok (.getfield 12, 3) := by decide +kernel
theorem dX5_ofLayer_81 : decode cX5_ofLayer 81 = .ok (.aload_n 0, 1) := by decide +kernel
theorem dX5_ofLayer_82 : decode cX5_ofLayer 82 = .ok (.getfield 12, 3) := by decide +kernel
theorem dX5_ofLayer_85 : decode cX5_ofLayer 85 = .ok (.invokevirtual 96, 3) := by decide +kernel
theorem dX5_ofLayer_88 : decode cX5_ofLayer 88 = .ok (.invokevirtual 99, 3) := by decide +kernel
theorem dX5_ofLayer_91 : decode cX5_ofLayer 91 = .ok (.if_icmp .ge 7, 3) := by decide +kernel
theorem dX5_ofLayer_94 : decode cX5_ofLayer 94 = .ok (.iconst 1, 1) := by decide +kernel
theorem dX5_ofLayer_95 : decode cX5_ofLayer 95 = .ok (.goto 4, 3) := by decide +kernel
theorem dX5_ofLayer_98 : decode cX5_ofLayer 98 = .ok (.iconst 0, 1) := by decide +kernel
theorem dX5_ofLayer_99 : decode cX5_ofLayer 99 = .ok (.ireturn, 1) := by decide +kernel
theorem dX5_ofLayer_100 : decode cX5_ofLayer 100 = .ok (.iload_n 1, 1) := by decide +kernel
theorem dX5_ofLayer_101 : decode cX5_ofLayer 101 = .ok (.aload_n 0, 1) := by decide +kernel
theorem dX5_ofLayer_102 : decode cX5_ofLayer 102 = .ok (.getfield 12, 3) := by decide +kernel
theorem dX5_ofLayer_105 : decode cX5_ofLayer 105 = .ok (.aload_n 0, 1) := by decide +kernel
theorem dX5_ofLayer_106 : decode cX5_ofLayer 106 = .ok (.getfield 12, 3) := by decide +kernel
theorem dX5_ofLayer_109 : decode cX5_ofLayer 109 = .ok (.invokevirtual 96, 3) := by decide +kernel
theorem dX5_ofLayer_112 : decode cX5_ofLayer 112 = .ok (.invokevirtual 102, 3) := by decide +kernel
theorem dX5_ofLayer_115 : decode cX5_ofLayer 115 = .ok (.if_icmp .ge 7, 3) := by decide +kernel
theorem dX5_ofLayer_118 : decode cX5_ofLayer 118 = .ok (.iconst 1, 1) := by decide +kernel
theorem dX5_ofLayer_119 : decode cX5_ofLayer 119 = .ok (.goto 4, 3) := by decide +kernel
theorem dX5_ofLayer_122 : decode cX5_ofLayer 122 = .ok (.iconst 0, 1) := by decide +kernel
theorem dX5_ofLayer_123 : decode cX5_ofLayer 123 = .ok (.ireturn, 1) := by decide +kernel
theorem dX5_ofLayer_124 : decode cX5_ofLayer 124 = .ok (.bipush (-2), 2) := by decide +kernel
theorem dX5_ofLayer_126 : decode cX5_ofLayer 126 = .ok (.ireturn, 1) := by decide +kernel
set_option maxRecDepth 20000 in
theorem ggX5_heat_X5_isUpTo : GoodIn wsX5_heat wsX5_isUpTo := goodIn_r _ [6] (by decide +kernel) (by decide +kernel)
set_option maxRecDepth 20000 in
theorem gX5_heat_X5_isUpTo : GoodIn wsX5_heat (va_wsS RX5 50 yX5_isUpTo wsX5_isUpTo) := goodIn_app (goodIn_of _ (by decide +kernel)) ggX5_heat_X5_isUpTo
set_option maxRecDepth 20000 in
theorem ggX5_heat_X4_stands : GoodIn wsX5_heat wsX4_stands := goodIn_r _ [11, 12, 20, 21, 22, 23] (by decide +kernel) (by decide +kernel)
set_option maxRecDepth 20000 in
theorem gX5_heat_X4_stands : GoodIn wsX5_heat (wsV RX5 105 RX4 yX4_stands wsX4_stands) := goodIn_app (goodIn_of _ (by decide +kernel)) ggX5_heat_X4_stands
theorem dX5_heat_0 : decode cX5_heat 0 = .ok (.iload_n 1, 1) := by decide +kernel
theorem dX5_heat_1 : decode cX5_heat 1 = .ok (.bipush 20, 2) := by decide +kernel
theorem dX5_heat_3 : decode cX5_heat 3 = .ok (.invokestatic 50, 3) := by decide +kernel
theorem dX5_heat_6 : decode cX5_heat 6 = .ok (.ifCond .ne 6, 3) := by decide +kernel
theorem dX5_heat_9 : decode cX5_heat 9 = .ok (.bipush (-2), 2) := by decide +kernel
theorem dX5_heat_11 : decode cX5_heat 11 = .ok (.ireturn, 1) := by decide +kernel
theorem dX5_heat_12 : decode cX5_heat 12 = .ok (.aload_n 0, 1) := by decide +kernel
theorem dX5_heat_13 : decode cX5_heat 13 = .ok (.getfield 12, 3) := by decide +kernel
theorem dX5_heat_16 : decode cX5_heat 16 = .ok (.invokevirtual 105, 3) := by decide +kernel
theorem dX5_heat_19 : decode cX5_heat 19 = .ok (.ifCond .ne 6, 3) := by decide +kernel
theorem dX5_heat_22 : decode cX5_heat 22 = .ok (.bipush (-3), 2) := by decide +kernel
theorem dX5_heat_24 : decode cX5_heat 24 = .ok (.ireturn, 1) := by decide +kernel
theorem dX5_heat_25 : decode cX5_heat 25 = .ok (.aload_n 0, 1) := by decide +kernel
theorem dX5_heat_26 : decode cX5_heat 26 = .ok (.getfield 12, 3) := by decide +kernel
theorem dX5_heat_29 : decode cX5_heat 29 = .ok (.getfield 109, 3) := by decide +kernel
theorem dX5_heat_32 : decode cX5_heat 32 = .ok (.istore_n 2, 1) := by decide +kernel
theorem dX5_heat_33 : decode cX5_heat 33 = .ok (.aload_n 0, 1) := by decide +kernel
theorem dX5_heat_34 : decode cX5_heat 34 = .ok (.getfield 12, 3) := by decide +kernel
theorem dX5_heat_37 : decode cX5_heat 37 = .ok (.iload_n 1, 1) := by decide +kernel
theorem dX5_heat_38 : decode cX5_heat 38 = .ok (.putfield 109, 3) := by decide +kernel
theorem dX5_heat_41 : decode cX5_heat 41 = .ok (.iload_n 2, 1) := by decide +kernel
theorem dX5_heat_42 : decode cX5_heat 42 = .ok (.ireturn, 1) := by decide +kernel
set_option maxRecDepth 20000 in
theorem ggX5_wet_X5_isUpTo : GoodIn wsX5_wet wsX5_isUpTo := goodIn_r _ [6] (by decide +kernel) (by decide +kernel)
set_option maxRecDepth 20000 in
theorem gX5_wet_X5_isUpTo : GoodIn wsX5_wet (va_wsS RX5 50 yX5_isUpTo wsX5_isUpTo) := goodIn_app (goodIn_of _ (by decide +kernel)) ggX5_wet_X5_isUpTo
set_option maxRecDepth 20000 in
theorem ggX5_wet_X4_stands : GoodIn wsX5_wet wsX4_stands := goodIn_r _ [11, 12, 20, 21, 22, 23] (by decide +kernel) (by decide +kernel)
set_option maxRecDepth 20000 in
theorem gX5_wet_X4_stands : GoodIn wsX5_wet (wsV RX5 105 RX4 yX4_stands wsX4_stands) := goodIn_app (goodIn_of _ (by decide +kernel)) ggX5_wet_X4_stands
theorem dX5_wet_0 : decode cX5_wet 0 = .ok (.iload_n 1, 1) := by decide +kernel
theorem dX5_wet_1 : decode cX5_wet 1 = .ok (.bipush 9, 2) := by decide +kernel
theorem dX5_wet_3 : decode cX5_wet 3 = .ok (.invokestatic 50, 3) := by decide +kernel
theorem dX5_wet_6 : decode cX5_wet 6 = .ok (.ifCond .ne 6, 3) := by decide +kernel
theorem dX5_wet_9 : decode cX5_wet 9 = .ok (.bipush (-2), 2) := by decide +kernel
theorem dX5_wet_11 : decode cX5_wet 11 = .ok (.ireturn, 1) := by decide +kernel
theorem dX5_wet_12 : decode cX5_wet 12 = .ok (.aload_n 0, 1) := by decide +kernel
theorem dX5_wet_13 : decode cX5_wet 13 = .ok (.getfield 12, 3) := by decide +kernel
theorem dX5_wet_16 : decode cX5_wet 16 = .ok (.invokevirtual 105, 3) := by decide +kernel
theorem dX5_wet_19 : decode cX5_wet 19 = .ok (.ifCond .ne 6, 3) := by decide +kernel
theorem dX5_wet_22 : decode cX5_wet 22 = .ok (.bipush (-3), 2) := by decide +kernel
theorem dX5_wet_24 : decode cX5_wet 24 = .ok (.ireturn, 1) := by decide +kernel
theorem dX5_wet_25 : decode cX5_wet 25 = .ok (.aload_n 0, 1) := by decide +kernel
theorem dX5_wet_26 : decode cX5_wet 26 = .ok (.getfield 12, 3) := by decide +kernel
theorem dX5_wet_29 : decode cX5_wet 29 = .ok (.getfield 112, 3) := by decide +kernel
theorem dX5_wet_32 : decode cX5_wet 32 = .ok (.istore_n 2, 1) := by decide +kernel
theorem dX5_wet_33 : decode cX5_wet 33 = .ok (.aload_n 0, 1) := by decide +kernel
theorem dX5_wet_34 : decode cX5_wet 34 = .ok (.getfield 12, 3) := by decide +kernel
theorem dX5_wet_37 : decode cX5_wet 37 = .ok (.iload_n 1, 1) := by decide +kernel
theorem dX5_wet_38 : decode cX5_wet 38 = .ok (.putfield 112, 3) := by decide +kernel
theorem dX5_wet_41 : decode cX5_wet 41 = .ok (.iload_n 2, 1) := by decide +kernel
theorem dX5_wet_42 : decode cX5_wet 42 = .ok (.ireturn, 1) := by decide +kernel
set_option maxRecDepth 20000 in
theorem ggX5_paste_X4_layerAt : GoodIn wsX5_paste wsX4_layerAt := goodIn_r _ [7, 8, 9, 24, 25, 26, 27] (by decide +kernel) (by decide +kernel)
set_option maxRecDepth 20000 in
theorem gX5_paste_X4_layerAt : GoodIn wsX5_paste (wsV RX5 77 RX4 yX4_layerAt wsX4_layerAt) := goodIn_app (goodIn_of _ (by decide +kernel)) ggX5_paste_X4_layerAt
set_option maxRecDepth 20000 in
theorem ggX5_paste_X5_isUpTo : GoodIn wsX5_paste wsX5_isUpTo := goodIn_r _ [13] (by decide +kernel) (by decide +kernel)
set_option maxRecDepth 20000 in
theorem gX5_paste_X5_isUpTo : GoodIn wsX5_paste (va_wsS RX5 50 yX5_isUpTo wsX5_isUpTo) := goodIn_app (goodIn_of _ (by decide +kernel)) ggX5_paste_X5_isUpTo
theorem dX5_paste_0 : decode cX5_paste 0 = .ok (.aload_n 0, 1) := by decide +kernel
theorem dX5_paste_1 : decode cX5_paste 1 = .ok (.getfield 12, 3) := by decide +kernel
theorem dX5_paste_4 : decode cX5_paste 4 = .ok (.iload_n 1, 1) := by decide +kernel
theorem dX5_paste_5 : decode cX5_paste 5 = .ok (.invokevirtual 77, 3) := by decide +kernel
theorem dX5_paste_8 : decode cX5_paste 8 = .ok (.astore_n 3, 1) := by decide +kernel
theorem dX5_paste_9 : decode cX5_paste 9 = .ok (.aload_n 3, 1) := by decide +kernel
theorem dX5_paste_10 : decode cX5_paste 10 = .ok (.ifnonnull 5, 3) := by decide +kernel
theorem dX5_paste_13 : decode cX5_paste 13 = .ok (.iconst (-1), 1) := by decide +kernel
theorem dX5_paste_14 : decode cX5_paste 14 = .ok (.ireturn, 1) := by decide +kernel
theorem dX5_paste_15 : decode cX5_paste 15 = .ok (.iload_n 2, 1) := by decide +kernel
theorem dX5_paste_16 : decode cX5_paste 16 = .ok (.bipush 9, 2) := by decide +kernel
theorem dX5_paste_18 : decode cX5_paste 18 = .ok (.invokestatic 50, 3) := by decide +kernel
theorem dX5_paste_21 : decode cX5_paste 21 = .ok (.ifCond .ne 6, 3) := by decide +kernel
theorem dX5_paste_24 : decode cX5_paste 24 = .ok (.bipush (-2), 2) := by decide +kernel
theorem dX5_paste_26 : decode cX5_paste 26 = .ok (.ireturn, 1) := by decide +kernel
theorem dX5_paste_27 : decode cX5_paste 27 = .ok (.aload_n 3, 1) := by decide +kernel
theorem dX5_paste_28 : decode cX5_paste 28 = .ok (.getfield 86, 3) := by decide +kernel
theorem dX5_paste_31 : decode cX5_paste 31 = .ok (.istore 4, 2) := by decide +kernel
theorem dX5_paste_33 : decode cX5_paste 33 = .ok (.aload_n 3, 1) := by decide +kernel
theorem dX5_paste_34 : decode cX5_paste 34 = .ok (.iload_n 2, 1) := by decide +kernel
theorem dX5_paste_35 : decode cX5_paste 35 = .ok (.putfield 86, 3) := by decide +kernel
theorem dX5_paste_38 : decode cX5_paste 38 = .ok (.iload 4, 2) := by decide +kernel
theorem dX5_paste_40 : decode cX5_paste 40 = .ok (.ireturn, 1) := by decide +kernel
set_option maxRecDepth 20000 in
theorem ggX5_heard_X4_stands : GoodIn wsX5_heard wsX4_stands := goodIn_r _ [6, 7, 38, 39, 40, 41] (by decide +kernel) (by decide +kernel)
set_option maxRecDepth 20000 in
theorem gX5_heard_X4_stands : GoodIn wsX5_heard (wsV RX5 105 RX4 yX4_stands wsX4_stands) := goodIn_app (goodIn_of _ (by decide +kernel)) ggX5_heard_X4_stands
set_option maxRecDepth 20000 in
theorem ggX5_heard_X4_warmth : GoodIn wsX5_heard wsX4_warmth := goodIn_r _ [11, 12, 13, 38, 39, 40, 41] (by decide +kernel) (by decide +kernel)
set_option maxRecDepth 20000 in
theorem gX5_heard_X4_warmth : GoodIn wsX5_heard (wsV RX5 96 RX4 yX4_warmth wsX4_warmth) := goodIn_app (goodIn_of _ (by decide +kernel)) ggX5_heard_X4_warmth
set_option maxRecDepth 20000 in
theorem ggX5_heard_X4_heardBy : GoodIn wsX5_heard wsX4_heardBy := goodIn_r _ [17, 7, 18, 19, 20, 21, 22, 23, 24, 25, 26, 38, 39, 40, 41, 42, 43, 44] (by decide +kernel) (by decide +kernel)
set_option maxRecDepth 20000 in
theorem gX5_heard_X4_heardBy : GoodIn wsX5_heard (wsV RX5 102 RX4 yX4_heardBy wsX4_heardBy) := goodIn_app (goodIn_of _ (by decide +kernel)) ggX5_heard_X4_heardBy
set_option maxRecDepth 20000 in
theorem ggX5_heard_X5_setOfFirst : GoodIn wsX5_heard wsX5_setOfFirst := goodIn_r _ [30] (by decide +kernel) (by decide +kernel)
set_option maxRecDepth 20000 in
theorem gX5_heard_X5_setOfFirst : GoodIn wsX5_heard (va_wsS RX5 115 yX5_setOfFirst wsX5_setOfFirst) := goodIn_app (goodIn_of _ (by decide +kernel)) ggX5_heard_X5_setOfFirst
theorem dX5_heard_0 : decode cX5_heard 0 = .ok (.aload_n 0, 1) := by decide +kernel
theorem dX5_heard_1 : decode cX5_heard 1 = .ok (.getfield 12, 3) := by decide +kernel
theorem dX5_heard_4 : decode cX5_heard 4 = .ok (.invokevirtual 105, 3) := by decide +kernel
theorem dX5_heard_7 : decode cX5_heard 7 = .ok (.ifCond .eq 23, 3) := by decide +kernel
theorem dX5_heard_10 : decode cX5_heard 10 = .ok (.aload_n 0, 1) := by decide +kernel
theorem dX5_heard_11 : decode cX5_heard 11 = .ok (.getfield 12, 3) := by decide +kernel
theorem dX5_heard_14 : decode cX5_heard 14 = .ok (.aload_n 0, 1) := by decide +kernel
theorem dX5_heard_15 : decode cX5_heard 15 = .ok (.getfield 12, 3) := by decide +kernel
theorem dX5_heard_18 : decode cX5_heard 18 = .ok (.invokevirtual 96, 3) := by decide +kernel
theorem dX5_heard_21 : decode cX5_heard 21 = .ok (.invokevirtual 102, 3) := by decide +kernel
theorem dX5_heard_24 : decode cX5_heard 24 = .ok (.invokestatic 115, 3) := by decide +kernel
theorem dX5_heard_27 : decode cX5_heard 27 = .ok (.goto 5, 3) := by decide +kernel
theorem dX5_heard_30 : decode cX5_heard 30 = .ok (.bipush (-3), 2) := by decide +kernel
theorem dX5_heard_32 : decode cX5_heard 32 = .ok (.ireturn, 1) := by decide +kernel
set_option maxRecDepth 20000 in
theorem ggX5_counsel_X5_isUpTo : GoodIn wsX5_counsel wsX5_isUpTo := goodIn_r _ [5] (by decide +kernel) (by decide +kernel)
set_option maxRecDepth 20000 in
theorem gX5_counsel_X5_isUpTo : GoodIn wsX5_counsel (va_wsS RX5 50 yX5_isUpTo wsX5_isUpTo) := goodIn_app (goodIn_of _ (by decide +kernel)) ggX5_counsel_X5_isUpTo
set_option maxRecDepth 20000 in
theorem ggX5_counsel_X4_stands : GoodIn wsX5_counsel wsX4_stands := goodIn_r _ [10, 11, 44, 45, 46, 47] (by decide +kernel) (by decide +kernel)
set_option maxRecDepth 20000 in
theorem gX5_counsel_X4_stands : GoodIn wsX5_counsel (wsV RX5 105 RX4 yX4_stands wsX4_stands) := goodIn_app (goodIn_of _ (by decide +kernel)) ggX5_counsel_X4_stands
set_option maxRecDepth 20000 in
theorem ggX5_counsel_X4_counselBy : GoodIn wsX5_counsel wsX4_counselBy := goodIn_r _ [15, 16, 17, 18, 19, 20, 9, 21, 11, 22, 23, 24, 25, 26, 27, 28, 29, 30, 31, 32, 33, 34, 35, 36, 44, 45, 46, 47, 48, 49, 50] (by decide +kernel) (by decide +kernel)
set_option maxRecDepth 20000 in
theorem gX5_counsel_X4_counselBy : GoodIn wsX5_counsel (wsV RX5 118 RX4 yX4_counselBy wsX4_counselBy) := goodIn_app (goodIn_of _ (by decide +kernel)) ggX5_counsel_X4_counselBy
theorem dX5_counsel_0 : decode cX5_counsel 0 = .ok (.iload_n 1, 1) := by decide +kernel
theorem dX5_counsel_1 : decode cX5_counsel 1 = .ok (.bipush 20, 2) := by decide +kernel
theorem dX5_counsel_3 : decode cX5_counsel 3 = .ok (.invokestatic 50, 3) := by decide +kernel
theorem dX5_counsel_6 : decode cX5_counsel 6 = .ok (.ifCond .eq 12, 3) := by decide +kernel
theorem dX5_counsel_9 : decode cX5_counsel 9 = .ok (.iload_n 2, 1) := by decide +kernel
theorem dX5_counsel_10 : decode cX5_counsel 10 = .ok (.bipush 9, 2) := by decide +kernel
theorem dX5_counsel_12 : decode cX5_counsel 12 = .ok (.invokestatic 50, 3) := by decide +kernel
theorem dX5_counsel_15 : decode cX5_counsel 15 = .ok (.ifCond .ne 6, 3) := by decide +kernel
theorem dX5_counsel_18 : decode cX5_counsel 18 = .ok (.bipush (-2), 2) := by decide +kernel
theorem dX5_counsel_20 : decode cX5_counsel 20 = .ok (.ireturn, 1) := by decide +kernel
theorem dX5_counsel_21 : decode cX5_counsel 21 = .ok (.aload_n 0, 1) := by decide +kernel
theorem dX5_counsel_22 : decode cX5_counsel 22 = .ok (.getfield 12, 3) := by decide +kernel
theorem dX5_counsel_25 : decode cX5_counsel 25 = .ok (.invokevirtual 105, 3) := by decide +kernel
theorem dX5_counsel_28 : decode cX5_counsel 28 = .ok (.ifCond .eq 16, 3) := by decide +kernel
theorem dX5_counsel_31 : decode cX5_counsel 31 = .ok (.aload_n 0, 1) := by decide +kernel
theorem dX5_counsel_32 : decode cX5_counsel 32 = .ok (.getfield 12, 3) := by decide +kernel
theorem dX5_counsel_35 : decode cX5_counsel 35 = .ok (.iload_n 1, 1) := by decide +kernel
theorem dX5_counsel_36 : decode cX5_counsel 36 = .ok (.iload_n 2, 1) := by decide +kernel
theorem dX5_counsel_37 : decode cX5_counsel 37 = .ok (.isub, 1) := by decide +kernel
theorem dX5_counsel_38 : decode cX5_counsel 38 = .ok (.invokevirtual 118, 3) := by decide +kernel
theorem dX5_counsel_41 : decode cX5_counsel 41 = .ok (.goto 5, 3) := by decide +kernel
theorem dX5_counsel_44 : decode cX5_counsel 44 = .ok (.bipush (-3), 2) := by decide +kernel
theorem dX5_counsel_46 : decode cX5_counsel 46 = .ok (.ireturn, 1) := by decide +kernel
set_option maxRecDepth 20000 in
theorem ggX5_clash_X5_isUpTo : GoodIn wsX5_clash wsX5_isUpTo := goodIn_r _ [5] (by decide +kernel) (by decide +kernel)
set_option maxRecDepth 20000 in
theorem gX5_clash_X5_isUpTo : GoodIn wsX5_clash (va_wsS RX5 50 yX5_isUpTo wsX5_isUpTo) := goodIn_app (goodIn_of _ (by decide +kernel)) ggX5_clash_X5_isUpTo
set_option maxRecDepth 20000 in
theorem ggX5_clash_X4_stands : GoodIn wsX5_clash wsX4_stands := goodIn_r _ [10, 11, 58, 59, 60, 61] (by decide +kernel) (by decide +kernel)
set_option maxRecDepth 20000 in
theorem gX5_clash_X4_stands : GoodIn wsX5_clash (wsV RX5 105 RX4 yX4_stands wsX4_stands) := goodIn_app (goodIn_of _ (by decide +kernel)) ggX5_clash_X4_stands
set_option maxRecDepth 20000 in
theorem ggX5_clash_X4_warmth : GoodIn wsX5_clash wsX4_warmth := goodIn_r _ [15, 16, 17, 58, 59, 60, 61] (by decide +kernel) (by decide +kernel)
set_option maxRecDepth 20000 in
theorem gX5_clash_X4_warmth : GoodIn wsX5_clash (wsV RX5 96 RX4 yX4_warmth wsX4_warmth) := goodIn_app (goodIn_of _ (by decide +kernel)) ggX5_clash_X4_warmth
set_option maxRecDepth 20000 in
theorem ggX5_clash_X4_heardBy : GoodIn wsX5_clash wsX4_heardBy := goodIn_r _ [21, 11, 22, 23, 24, 25, 26, 27, 28, 29, 30, 58, 59, 60, 61, 62, 63, 64] (by decide +kernel) (by decide +kernel)
set_option maxRecDepth 20000 in
theorem gX5_clash_X4_heardBy : GoodIn wsX5_clash (wsV RX5 102 RX4 yX4_heardBy wsX4_heardBy) := goodIn_app (goodIn_of _ (by decide +kernel)) ggX5_clash_X4_heardBy
set_option maxRecDepth 20000 in
theorem ggX5_clash_X4_unlikeTwos : GoodIn wsX5_clash wsX4_unlikeTwos := goodIn_r _ [34, 22, 35, 58, 59, 60, 61, 62, 63, 64] (by decide +kernel) (by decide +kernel)
set_option maxRecDepth 20000 in
theorem gX5_clash_X4_unlikeTwos : GoodIn wsX5_clash (wsV RX5 121 RX4 yX4_unlikeTwos wsX4_unlikeTwos) := goodIn_app (goodIn_of _ (by decide +kernel)) ggX5_clash_X4_unlikeTwos
set_option maxRecDepth 20000 in
theorem ggX5_clash_X4_mostAlike : GoodIn wsX5_clash wsX4_mostAlike := goodIn_r _ [39, 22, 35, 40, 41, 42, 43, 44, 45, 46, 9, 47, 48, 49, 50, 58, 59, 60, 61, 62, 63, 64] (by decide +kernel) (by decide +kernel)
set_option maxRecDepth 20000 in
theorem gX5_clash_X4_mostAlike : GoodIn wsX5_clash (wsV RX5 124 RX4 yX4_mostAlike wsX4_mostAlike) := goodIn_app (goodIn_of _ (by decide +kernel)) ggX5_clash_X4_mostAlike
theorem dX5_clash_0 : decode cX5_clash 0 = .ok (.iload_n 1, 1) := by decide +kernel
theorem dX5_clash_1 : decode cX5_clash 1 = .ok (.iconst 1, 1) := by decide +kernel
theorem dX5_clash_2 : decode cX5_clash 2 = .ok (.invokestatic 50, 3) := by decide +kernel
theorem dX5_clash_5 : decode cX5_clash 5 = .ok (.ifCond .ne 6, 3) := by decide +kernel
theorem dX5_clash_8 : decode cX5_clash 8 = .ok (.bipush (-2), 2) := by decide +kernel
theorem dX5_clash_10 : decode cX5_clash 10 = .ok (.ireturn, 1) := by decide +kernel
theorem dX5_clash_11 : decode cX5_clash 11 = .ok (.aload_n 0, 1) := by decide +kernel
theorem dX5_clash_12 : decode cX5_clash 12 = .ok (.getfield 12, 3) := by decide +kernel
theorem dX5_clash_15 : decode cX5_clash 15 = .ok (.invokevirtual 105, 3) := by decide +kernel
theorem dX5_clash_18 : decode cX5_clash 18 = .ok (.ifCond .ne 6, 3) := by decide +kernel
theorem dX5_clash_21 : decode cX5_clash 21 = .ok (.bipush (-3), 2) := by decide +kernel
theorem dX5_clash_23 : decode cX5_clash 23 = .ok (.ireturn, 1) := by decide +kernel
theorem dX5_clash_24 : decode cX5_clash 24 = .ok (.aload_n 0, 1) := by decide +kernel
theorem dX5_clash_25 : decode cX5_clash 25 = .ok (.getfield 12, 3) := by decide +kernel
theorem dX5_clash_28 : decode cX5_clash 28 = .ok (.aload_n 0, 1) := by decide +kernel
theorem dX5_clash_29 : decode cX5_clash 29 = .ok (.getfield 12, 3) := by decide +kernel
theorem dX5_clash_32 : decode cX5_clash 32 = .ok (.invokevirtual 96, 3) := by decide +kernel
theorem dX5_clash_35 : decode cX5_clash 35 = .ok (.invokevirtual 102, 3) := by decide +kernel
theorem dX5_clash_38 : decode cX5_clash 38 = .ok (.istore_n 2, 1) := by decide +kernel
theorem dX5_clash_39 : decode cX5_clash 39 = .ok (.iload_n 1, 1) := by decide +kernel
theorem dX5_clash_40 : decode cX5_clash 40 = .ok (.ifCond .ne 14, 3) := by decide +kernel
theorem dX5_clash_43 : decode cX5_clash 43 = .ok (.aload_n 0, 1) := by decide +kernel
theorem dX5_clash_44 : decode cX5_clash 44 = .ok (.getfield 12, 3) := by decide +kernel
theorem dX5_clash_47 : decode cX5_clash 47 = .ok (.iload_n 2, 1) := by decide +kernel
theorem dX5_clash_48 : decode cX5_clash 48 = .ok (.invokevirtual 121, 3) := by decide +kernel
theorem dX5_clash_51 : decode cX5_clash 51 = .ok (.goto 13, 3) := by decide +kernel
theorem dX5_clash_54 : decode cX5_clash 54 = .ok (.iload_n 2, 1) := by decide +kernel
theorem dX5_clash_55 : decode cX5_clash 55 = .ok (.aload_n 0, 1) := by decide +kernel
theorem dX5_clash_56 : decode cX5_clash 56 = .ok (.getfield 12, 3) := by decide +kernel
theorem dX5_clash_59 : decode cX5_clash 59 = .ok (.iload_n 2, 1) := by decide +kernel
theorem dX5_clash_60 : decode cX5_clash 60 = .ok (.invokevirtual 124, 3) := by decide +kernel
theorem dX5_clash_63 : decode cX5_clash 63 = .ok (.isub, 1) := by decide +kernel
theorem dX5_clash_64 : decode cX5_clash 64 = .ok (.ireturn, 1) := by decide +kernel
set_option maxRecDepth 20000 in
theorem ggX5_putUp_X5_isUpTo : GoodIn wsX5_putUp wsX5_isUpTo := goodIn_r _ [6] (by decide +kernel) (by decide +kernel)
set_option maxRecDepth 20000 in
theorem gX5_putUp_X5_isUpTo : GoodIn wsX5_putUp (va_wsS RX5 50 yX5_isUpTo wsX5_isUpTo) := goodIn_app (goodIn_of _ (by decide +kernel)) ggX5_putUp_X5_isUpTo
set_option maxRecDepth 20000 in
theorem ggX5_putUp_X4_stands : GoodIn wsX5_putUp wsX4_stands := goodIn_r _ [11, 12, 38, 39, 40, 41] (by decide +kernel) (by decide +kernel)
set_option maxRecDepth 20000 in
theorem gX5_putUp_X4_stands : GoodIn wsX5_putUp (wsV RX5 105 RX4 yX4_stands wsX4_stands) := goodIn_app (goodIn_of _ (by decide +kernel)) ggX5_putUp_X4_stands
set_option maxRecDepth 20000 in
theorem ggX5_putUp_X4_layOnTop : GoodIn wsX5_putUp wsX4_layOnTop := goodIn_r _ [16, 12, 17, 18, 19, 20, 21, 22, 23, 24, 25, 26, 27, 28, 29, 30, 38, 39, 40, 41, 42, 43, 44] (by decide +kernel) (by decide +kernel)
set_option maxRecDepth 20000 in
theorem gX5_putUp_X4_layOnTop : GoodIn wsX5_putUp (wsV RX5 127 RX4 yX4_layOnTop wsX4_layOnTop) := goodIn_app (goodIn_of _ (by decide +kernel)) ggX5_putUp_X4_layOnTop
theorem dX5_putUp_0 : decode cX5_putUp 0 = .ok (.iload_n 1, 1) := by decide +kernel
theorem dX5_putUp_1 : decode cX5_putUp 1 = .ok (.iconst 2, 1) := by decide +kernel
theorem dX5_putUp_2 : decode cX5_putUp 2 = .ok (.invokestatic 50, 3) := by decide +kernel
theorem dX5_putUp_5 : decode cX5_putUp 5 = .ok (.ifCond .eq 21, 3) := by decide +kernel
theorem dX5_putUp_8 : decode cX5_putUp 8 = .ok (.iload_n 2, 1) := by decide +kernel
theorem dX5_putUp_9 : decode cX5_putUp 9 = .ok (.bipush 9, 2) := by decide +kernel
theorem dX5_putUp_11 : decode cX5_putUp 11 = .ok (.invokestatic 50, 3) := by decide +kernel
theorem dX5_putUp_14 : decode cX5_putUp 14 = .ok (.ifCond .eq 12, 3) := by decide +kernel
theorem dX5_putUp_17 : decode cX5_putUp 17 = .ok (.iload_n 3, 1) := by decide +kernel
theorem dX5_putUp_18 : decode cX5_putUp 18 = .ok (.bipush 9, 2) := by decide +kernel
theorem dX5_putUp_20 : decode cX5_putUp 20 = .ok (.invokestatic 50, 3) := by decide +kernel
theorem dX5_putUp_23 : decode cX5_putUp 23 = .ok (.ifCond .ne 6, 3) := by decide +kernel
theorem dX5_putUp_26 : decode cX5_putUp 26 = .ok (.bipush (-2), 2) := by decide +kernel
theorem dX5_putUp_28 : decode cX5_putUp 28 = .ok (.ireturn, 1) := by decide +kernel
theorem dX5_putUp_29 : decode cX5_putUp 29 = .ok (.aload_n 0, 1) := by decide +kernel
theorem dX5_putUp_30 : decode cX5_putUp 30 = .ok (.getfield 12, 3) := by decide +kernel
theorem dX5_putUp_33 : decode cX5_putUp 33 = .ok (.invokevirtual 105, 3) := by decide +kernel
theorem dX5_putUp_36 : decode cX5_putUp 36 = .ok (.ifCond .ne 6, 3) := by decide +kernel
theorem dX5_putUp_39 : decode cX5_putUp 39 = .ok (.bipush (-3), 2) := by decide +kernel
theorem dX5_putUp_41 : decode cX5_putUp 41 = .ok (.ireturn, 1) := by decide +kernel
theorem dX5_putUp_42 : decode cX5_putUp 42 = .ok (.aload_n 0, 1) := by decide +kernel
theorem dX5_putUp_43 : decode cX5_putUp 43 = .ok (.getfield 12, 3) := by decide +kernel
theorem dX5_putUp_46 : decode cX5_putUp 46 = .ok (.iload_n 1, 1) := by decide +kernel
theorem dX5_putUp_47 : decode cX5_putUp 47 = .ok (.iload_n 2, 1) := by decide +kernel
theorem dX5_putUp_48 : decode cX5_putUp 48 = .ok (.iload_n 3, 1) := by decide +kernel
theorem dX5_putUp_49 : decode cX5_putUp 49 = .ok (.invokevirtual 127, 3) := by decide +kernel
theorem dX5_putUp_52 : decode cX5_putUp 52 = .ok (.ifCond .eq 13, 3) := by decide +kernel
theorem dX5_putUp_55 : decode cX5_putUp 55 = .ok (.aload_n 0, 1) := by decide +kernel
theorem dX5_putUp_56 : decode cX5_putUp 56 = .ok (.getfield 12, 3) := by decide +kernel
theorem dX5_putUp_59 : decode cX5_putUp 59 = .ok (.getfield 76, 3) := by decide +kernel
theorem dX5_putUp_62 : decode cX5_putUp 62 = .ok (.goto 5, 3) := by decide +kernel
theorem dX5_putUp_65 : decode cX5_putUp 65 = .ok (.bipush (-4), 2) := by decide +kernel
theorem dX5_putUp_67 : decode cX5_putUp 67 = .ok (.ireturn, 1) := by decide +kernel
set_option maxRecDepth 20000 in
theorem ggX5_peel_X4_layerAt : GoodIn wsX5_peel wsX4_layerAt := goodIn_r _ [7, 8, 9, 50, 51, 52, 53] (by decide +kernel) (by decide +kernel)
set_option maxRecDepth 20000 in
theorem gX5_peel_X4_layerAt : GoodIn wsX5_peel (wsV RX5 77 RX4 yX4_layerAt wsX4_layerAt) := goodIn_app (goodIn_of _ (by decide +kernel)) ggX5_peel_X4_layerAt
set_option maxRecDepth 20000 in
theorem ggX5_peel_X4_peelTop : GoodIn wsX5_peel wsX4_peelTop := goodIn_r _ [13, 8, 9, 14, 15, 16, 6, 17, 18, 19, 20, 21, 22, 23, 24, 25, 26, 27, 28, 29, 30, 31, 32, 33, 34, 35, 36, 37, 38, 39, 50, 51, 52, 53, 47, 48, 49] (by decide +kernel) (by decide +kernel)
set_option maxRecDepth 20000 in
theorem gX5_peel_X4_peelTop : GoodIn wsX5_peel (wsV RX5 131 RX4 yX4_peelTop wsX4_peelTop) := goodIn_app (goodIn_of _ (by decide +kernel)) ggX5_peel_X4_peelTop
theorem dX5_peel_0 : decode cX5_peel 0 = .ok (.aload_n 0, 1) := by decide +kernel
theorem dX5_peel_1 : decode cX5_peel 1 = .ok (.getfield 12, 3) := by decide +kernel
theorem dX5_peel_4 : decode cX5_peel 4 = .ok (.iconst 0, 1) := by decide +kernel
theorem dX5_peel_5 : decode cX5_peel 5 = .ok (.invokevirtual 77, 3) := by decide +kernel
theorem dX5_peel_8 : decode cX5_peel 8 = .ok (.astore_n 1, 1) := by decide +kernel
theorem dX5_peel_9 : decode cX5_peel 9 = .ok (.aload_n 1, 1) := by decide +kernel
theorem dX5_peel_10 : decode cX5_peel 10 = .ok (.ifnonnull 6, 3) := by decide +kernel
theorem dX5_peel_13 : decode cX5_peel 13 = .ok (.bipush (-3), 2) := by decide +kernel
theorem dX5_peel_15 : decode cX5_peel 15 = .ok (.ireturn, 1) := by decide +kernel
theorem dX5_peel_16 : decode cX5_peel 16 = .ok (.aload_n 1, 1) := by decide +kernel
theorem dX5_peel_17 : decode cX5_peel 17 = .ok (.getfield 89, 3) := by decide +kernel
theorem dX5_peel_20 : decode cX5_peel 20 = .ok (.istore_n 2, 1) := by decide +kernel
theorem dX5_peel_21 : decode cX5_peel 21 = .ok (.aload_n 0, 1) := by decide +kernel
theorem dX5_peel_22 : decode cX5_peel 22 = .ok (.getfield 12, 3) := by decide +kernel
theorem dX5_peel_25 : decode cX5_peel 25 = .ok (.invokevirtual 131, 3) := by decide +kernel
theorem dX5_peel_28 : decode cX5_peel 28 = .ok (.ifCond .eq 7, 3) := by decide +kernel
theorem dX5_peel_31 : decode cX5_peel 31 = .ok (.iload_n 2, 1) := by decide +kernel
theorem dX5_peel_32 : decode cX5_peel 32 = .ok (.goto 5, 3) := by decide +kernel
theorem dX5_peel_35 : decode cX5_peel 35 = .ok (.bipush (-3), 2) := by decide +kernel
theorem dX5_peel_37 : decode cX5_peel 37 = .ok (.ireturn, 1) := by decide +kernel
set_option maxRecDepth 20000 in
theorem ggX5_days_X5_sheetAt : GoodIn wsX5_days wsX5_sheetAt := goodIn_r _ [7, 8, 9, 10, 6, 11, 138, 139, 140, 141, 142, 143, 144] (by decide +kernel) (by decide +kernel)
set_option maxRecDepth 20000 in
theorem gX5_days_X5_sheetAt : GoodIn wsX5_days (wsV RX5 46 RX5 yX5_sheetAt wsX5_sheetAt) := goodIn_app (goodIn_of _ (by decide +kernel)) ggX5_days_X5_sheetAt
set_option maxRecDepth 20000 in
theorem ggX5_days_X5_isUpTo : GoodIn wsX5_days wsX5_isUpTo := goodIn_r _ [11] (by decide +kernel) (by decide +kernel)
set_option maxRecDepth 20000 in
theorem gX5_days_X5_isUpTo : GoodIn wsX5_days (va_wsS RX5 50 yX5_isUpTo wsX5_isUpTo) := goodIn_app (goodIn_of _ (by decide +kernel)) ggX5_days_X5_isUpTo
set_option maxRecDepth 20000 in
theorem ggX5_days_X3_faultAsLane : GoodIn wsX5_days wsX3_faultAsLane := goodIn_r _ [16, 17, 18, 145, 146, 147, 148] (by decide +kernel) (by decide +kernel)
set_option maxRecDepth 20000 in
theorem gX5_days_X3_faultAsLane : GoodIn wsX5_days (wsV RX5 54 RX3 yX3_faultAsLane wsX3_faultAsLane) := goodIn_app (goodIn_of _ (by decide +kernel)) ggX5_days_X3_faultAsLane
set_option maxRecDepth 20000 in
theorem ggX5_days_X3_faultOfCells : GoodIn wsX5_days wsX3_faultOfCells := goodIn_r _ [22, 17, 23, 145, 146, 147, 148] (by decide +kernel) (by decide +kernel)
set_option maxRecDepth 20000 in
theorem gX5_days_X3_faultOfCells : GoodIn wsX5_days (wsV RX5 58 RX3 yX3_faultOfCells wsX3_faultOfCells) := goodIn_app (goodIn_of _ (by decide +kernel)) ggX5_days_X3_faultOfCells
set_option maxRecDepth 20000 in
theorem ggX5_days_X5_failed : GoodIn wsX5_days wsX5_failed := goodIn_r _ [27, 1, 138, 139, 140, 141, 142, 143, 144] (by decide +kernel) (by decide +kernel)
set_option maxRecDepth 20000 in
theorem gX5_days_X5_failed : GoodIn wsX5_days (wsV RX5 62 RX5 yX5_failed wsX5_failed) := goodIn_app (goodIn_of _ (by decide +kernel)) ggX5_days_X5_failed
set_option maxRecDepth 20000 in
theorem ggX5_days_X4_stands : GoodIn wsX5_days wsX4_stands := goodIn_r _ [32, 33, 149, 150, 151, 152] (by decide +kernel) (by decide +kernel)
set_option maxRecDepth 20000 in
theorem gX5_days_X4_stands : GoodIn wsX5_days (wsV RX5 105 RX4 yX4_stands wsX4_stands) := goodIn_app (goodIn_of _ (by decide +kernel)) ggX5_days_X4_stands
set_option maxRecDepth 20000 in
theorem ggX5_days_X5_areActs : GoodIn wsX5_days wsX5_areActs := goodIn_r _ [36, 37, 38, 39, 15, 40, 23, 41, 42, 43, 6, 44, 9, 10, 11, 145, 146, 147, 148] (by decide +kernel) (by decide +kernel)
set_option maxRecDepth 20000 in
theorem gX5_days_X5_areActs : GoodIn wsX5_days (va_wsS RX5 134 yX5_areActs wsX5_areActs) := goodIn_app (goodIn_of _ (by decide +kernel)) ggX5_days_X5_areActs
set_option maxRecDepth 20000 in
theorem ggX5_days_X5_afterDays : GoodIn wsX5_days wsX5_afterDays := goodIn_r _ [48, 49, 2, 50, 51, 52, 53, 31, 54, 55, 56, 57, 58, 59, 60, 33, 61, 62, 63, 64, 65, 66, 67, 68, 69, 70, 71, 72, 73, 74, 75, 76, 77, 78, 79, 80, 81, 82, 83, 84, 85, 86, 87, 88, 37, 38, 39, 15, 40, 23, 41, 89, 90, 91, 92, 93, 94, 95, 96, 97, 98, 99, 100, 101, 102, 103, 104, 105, 106, 107, 108, 109, 110, 111, 112, 113, 114, 115, 116, 117, 118, 119, 120, 121, 122, 123, 124, 125, 126, 127, 128, 129, 130, 131, 132, 133, 134, 135, 136, 6, 137, 138, 139, 140, 141, 142, 143, 144, 149, 150, 151, 152, 153, 154, 155, 145, 146, 147, 148] (by decide +kernel) (by decide +kernel)
set_option maxRecDepth 20000 in
theorem gX5_days_X5_afterDays : GoodIn wsX5_days (wsV RX5 138 RX5 yX5_afterDays wsX5_afterDays) := goodIn_app (goodIn_of _ (by decide +kernel)) ggX5_days_X5_afterDays
theorem dX5_days_0 : decode cX5_days 0 = .ok (.aload_n 0, 1) := by decide +kernel
theorem dX5_days_1 : decode cX5_days 1 = .ok (.iconst 0, 1) := by decide +kernel
theorem dX5_days_2 : decode cX5_days 2 = .ok (.putfield 42, 3) := by decide +kernel
theorem dX5_days_5 : decode cX5_days 5 = .ok (.aload_n 0, 1) := by decide +kernel
theorem dX5_days_6 : decode cX5_days 6 = .ok (.iload_n 1, 1) := by decide +kernel
theorem dX5_days_7 : decode cX5_days 7 = .ok (.invokevirtual 46, 3) := by decide +kernel
theorem dX5_days_10 : decode cX5_days 10 = .ok (.astore 6, 2) := by decide +kernel
theorem dX5_days_12 : decode cX5_days 12 = .ok (.aload 6, 2) := by decide +kernel
theorem dX5_days_14 : decode cX5_days 14 = .ok (.ifnonnull 5, 3) := by decide +kernel
theorem dX5_days_17 : decode cX5_days 17 = .ok (.iconst (-1), 1) := by decide +kernel
theorem dX5_days_18 : decode cX5_days 18 = .ok (.ireturn, 1) := by decide +kernel
theorem dX5_days_19 : decode cX5_days 19 = .ok (.iload_n 2, 1) := by decide +kernel
theorem dX5_days_20 : decode cX5_days 20 = .ok (.iconst 2, 1) := by decide +kernel
theorem dX5_days_21 : decode cX5_days 21 = .ok (.invokestatic 50, 3) := by decide +kernel
theorem dX5_days_24 : decode cX5_days 24 = .ok (.ifCond .eq 22, 3) := by decide +kernel
theorem dX5_days_27 : decode cX5_days 27 = .ok (.iload 4, 2) := by decide +kernel
theorem dX5_days_29 : decode cX5_days 29 = .ok (.bipush 20, 2) := by decide +kernel
theorem dX5_days_31 : decode cX5_days 31 = .ok (.invokestatic 50, 3) := by decide +kernel
theorem dX5_days_34 : decode cX5_days 34 = .ok (.ifCond .eq 12, 3) := by decide +kernel
theorem dX5_days_37 : decode cX5_days 37 = .ok (.iload 5, 2) := by decide +kernel
theorem dX5_days_39 : decode cX5_days 39 = .ok (.iconst 4, 1) := by decide +kernel
theorem dX5_days_40 : decode cX5_days 40 = .ok (.invokestatic 50, 3) := by decide +kernel
theorem dX5_days_43 : decode cX5_days 43 = .ok (.ifCond .ne 6, 3) := by decide +kernel
theorem dX5_days_46 : decode cX5_days 46 = .ok (.bipush (-2), 2) := by decide +kernel
theorem dX5_days_48 : decode cX5_days 48 = .ok (.ireturn, 1) := by decide +kernel
theorem dX5_days_49 : decode cX5_days 49 = .ok (.aload 6, 2) := by decide +kernel
theorem dX5_days_51 : decode cX5_days 51 = .ok (.iload_n 2, 1) := by decide +kernel
theorem dX5_days_52 : decode cX5_days 52 = .ok (.invokevirtual 54, 3) := by decide +kernel
theorem dX5_days_55 : decode cX5_days 55 = .ok (.istore 7, 2) := by decide +kernel
theorem dX5_days_57 : decode cX5_days 57 = .ok (.iload 7, 2) := by decide +kernel
theorem dX5_days_59 : decode cX5_days 59 = .ok (.ifCond .ne 15, 3) := by decide +kernel
theorem dX5_days_62 : decode cX5_days 62 = .ok (.aload 6, 2) := by decide +kernel
theorem dX5_days_64 : decode cX5_days 64 = .ok (.iload_n 3, 1) := by decide +kernel
theorem dX5_days_65 : decode cX5_days 65 = .ok (.iconst 2, 1) := by decide +kernel
theorem dX5_days_66 : decode cX5_days 66 = .ok (.iload 4, 2) := by decide +kernel
theorem dX5_days_68 : decode cX5_days 68 = .ok (.imul, 1) := by decide +kernel
theorem dX5_days_69 : decode cX5_days 69 = .ok (.invokevirtual 58, 3) := by decide +kernel
theorem dX5_days_72 : decode cX5_days 72 = .ok (.istore 7, 2) := by decide +kernel
theorem dX5_days_74 : decode cX5_days 74 = .ok (.iload 7, 2) := by decide +kernel
theorem dX5_days_76 : decode cX5_days 76 = .ok (.ifCond .eq 10, 3) := by decide +kernel
theorem dX5_days_79 : decode cX5_days 79 = .ok (.aload_n 0, 1) := by decide +kernel
theorem dX5_days_80 : decode cX5_days 80 = .ok (.iload 7, 2) := by decide +kernel
theorem dX5_days_82 : decode cX5_days 82 = .ok (.invokevirtual 62, 3) := by decide +kernel
theorem dX5_days_85 : decode cX5_days 85 = .ok (.ireturn, 1) := by decide +kernel
theorem dX5_days_86 : decode cX5_days 86 = .ok (.aload_n 0, 1) := by decide +kernel
theorem dX5_days_87 : decode cX5_days 87 = .ok (.getfield 12, 3) := by decide +kernel
theorem dX5_days_90 : decode cX5_days 90 = .ok (.invokevirtual 105, 3) := by decide +kernel
theorem dX5_days_93 : decode cX5_days 93 = .ok (.ifCond .ne 6, 3) := by decide +kernel
theorem dX5_days_96 : decode cX5_days 96 = .ok (.bipush (-3), 2) := by decide +kernel
theorem dX5_days_98 : decode cX5_days 98 = .ok (.ireturn, 1) := by decide +kernel
theorem dX5_days_99 : decode cX5_days 99 = .ok (.aload 6, 2) := by decide +kernel
theorem dX5_days_101 : decode cX5_days 101 = .ok (.iload_n 3, 1) := by decide +kernel
theorem dX5_days_102 : decode cX5_days 102 = .ok (.iload 4, 2) := by decide +kernel
theorem dX5_days_104 : decode cX5_days 104 = .ok (.invokestatic 134, 3) := by decide +kernel
theorem dX5_days_107 : decode cX5_days 107 = .ok (.ifCond .eq 17, 3) := by decide +kernel
theorem dX5_days_110 : decode cX5_days 110 = .ok (.aload_n 0, 1) := by decide +kernel
theorem dX5_days_111 : decode cX5_days 111 = .ok (.aload 6, 2) := by decide +kernel
theorem dX5_days_113 : decode cX5_days 113 = .ok (.iload_n 3, 1) := by decide +kernel
theorem dX5_days_114 : decode cX5_days 114 = .ok (.iload 4, 2) := by decide +kernel
theorem dX5_days_116 : decode cX5_days 116 = .ok (.iload 5, 2) := by decide +kernel
theorem dX5_days_118 : decode cX5_days 118 = .ok (.invokevirtual 138, 3) := by decide +kernel
theorem dX5_days_121 : decode cX5_days 121 = .ok (.goto 5, 3) := by decide +kernel
theorem dX5_days_124 : decode cX5_days 124 = .ok (.bipush (-2), 2) := by decide +kernel
theorem dX5_days_126 : decode cX5_days 126 = .ok (.ireturn, 1) := by decide +kernel
set_option maxRecDepth 20000 in
theorem ggX5_needs_X4_layerAt : GoodIn wsX5_needs wsX4_layerAt := goodIn_r _ [7, 8, 9, 29, 30, 31, 32] (by decide +kernel) (by decide +kernel)
set_option maxRecDepth 20000 in
theorem gX5_needs_X4_layerAt : GoodIn wsX5_needs (wsV RX5 77 RX4 yX4_layerAt wsX4_layerAt) := goodIn_app (goodIn_of _ (by decide +kernel)) ggX5_needs_X4_layerAt
set_option maxRecDepth 20000 in
theorem ggX5_needs_X4_heardBy : GoodIn wsX5_needs wsX4_heardBy := goodIn_r _ [13, 8, 9, 14, 15, 16, 17, 18, 19, 20, 21, 29, 30, 31, 32, 33, 34, 35] (by decide +kernel) (by decide +kernel)
set_option maxRecDepth 20000 in
theorem gX5_needs_X4_heardBy : GoodIn wsX5_needs (wsV RX5 102 RX4 yX4_heardBy wsX4_heardBy) := goodIn_app (goodIn_of _ (by decide +kernel)) ggX5_needs_X4_heardBy
theorem dX5_needs_0 : decode cX5_needs 0 = .ok (.aload_n 0, 1) := by decide +kernel
theorem dX5_needs_1 : decode cX5_needs 1 = .ok (.getfield 12, 3) := by decide +kernel
theorem dX5_needs_4 : decode cX5_needs 4 = .ok (.iload_n 1, 1) := by decide +kernel
theorem dX5_needs_5 : decode cX5_needs 5 = .ok (.invokevirtual 77, 3) := by decide +kernel
theorem dX5_needs_8 : decode cX5_needs 8 = .ok (.ifnonnull 5, 3) := by decide +kernel
theorem dX5_needs_11 : decode cX5_needs 11 = .ok (.iconst (-1), 1) := by decide +kernel
theorem dX5_needs_12 : decode cX5_needs 12 = .ok (.ireturn, 1) := by decide +kernel
theorem dX5_needs_13 : decode cX5_needs 13 = .ok (.iconst 0, 1) := by decide +kernel
theorem dX5_needs_14 : decode cX5_needs 14 = .ok (.istore_n 2, 1) := by decide +kernel
theorem dX5_needs_15 : decode cX5_needs 15 = .ok (.iload_n 2, 1) := by decide +kernel
theorem dX5_needs_16 : decode cX5_needs 16 = .ok (.bipush 20, 2) := by decide +kernel
theorem dX5_needs_18 : decode cX5_needs 18 = .ok (.if_icmp .gt 31, 3) := by decide +kernel
theorem dX5_needs_21 : decode cX5_needs 21 = .ok (.iload_n 1, 1) := by decide +kernel
theorem dX5_needs_22 : decode cX5_needs 22 = .ok (.aload_n 0, 1) := by decide +kernel
theorem dX5_needs_23 : decode cX5_needs 23 = .ok (.getfield 12, 3) := by decide +kernel
theorem dX5_needs_26 : decode cX5_needs 26 = .ok (.iload_n 2, 1) := by decide +kernel
theorem dX5_needs_27 : decode cX5_needs 27 = .ok (.aload_n 0, 1) := by decide +kernel
theorem dX5_needs_28 : decode cX5_needs 28 = .ok (.getfield 12, 3) := by decide +kernel
theorem dX5_needs_31 : decode cX5_needs 31 = .ok (.getfield 112, 3) := by decide +kernel
theorem dX5_needs_34 : decode cX5_needs 34 = .ok (.isub, 1) := by decide +kernel
theorem dX5_needs_35 : decode cX5_needs 35 = .ok (.invokevirtual 102, 3) := by decide +kernel
theorem dX5_needs_38 : decode cX5_needs 38 = .ok (.if_icmp .ge 5, 3) := by decide +kernel
theorem dX5_needs_41 : decode cX5_needs 41 = .ok (.iload_n 2, 1) := by decide +kernel
theorem dX5_needs_42 : decode cX5_needs 42 = .ok (.ireturn, 1) := by decide +kernel
theorem dX5_needs_43 : decode cX5_needs 43 = .ok (.iinc 2 1, 3) := by decide +kernel
theorem dX5_needs_46 : decode cX5_needs 46 = .ok (.goto (-31), 3) := by decide +kernel
theorem dX5_needs_49 : decode cX5_needs 49 = .ok (.bipush (-9), 2) := by decide +kernel
theorem dX5_needs_51 : decode cX5_needs 51 = .ok (.ireturn, 1) := by decide +kernel
set_option maxRecDepth 20000 in
theorem ggX5_gets_X5_isUpTo : GoodIn wsX5_gets wsX5_isUpTo := goodIn_r _ [6] (by decide +kernel) (by decide +kernel)
set_option maxRecDepth 20000 in
theorem gX5_gets_X5_isUpTo : GoodIn wsX5_gets (va_wsS RX5 50 yX5_isUpTo wsX5_isUpTo) := goodIn_app (goodIn_of _ (by decide +kernel)) ggX5_gets_X5_isUpTo
set_option maxRecDepth 20000 in
theorem ggX5_gets_X4_stands : GoodIn wsX5_gets wsX4_stands := goodIn_r _ [11, 12, 45, 46, 47, 48] (by decide +kernel) (by decide +kernel)
set_option maxRecDepth 20000 in
theorem gX5_gets_X4_stands : GoodIn wsX5_gets (wsV RX5 105 RX4 yX4_stands wsX4_stands) := goodIn_app (goodIn_of _ (by decide +kernel)) ggX5_gets_X4_stands
set_option maxRecDepth 20000 in
theorem ggX5_gets_X4_counselBy : GoodIn wsX5_gets wsX4_counselBy := goodIn_r _ [16, 17, 18, 19, 20, 21, 10, 22, 12, 23, 24, 25, 26, 27, 28, 29, 30, 31, 32, 33, 34, 35, 36, 37, 45, 46, 47, 48, 49, 50, 51] (by decide +kernel) (by decide +kernel)
set_option maxRecDepth 20000 in
theorem gX5_gets_X4_counselBy : GoodIn wsX5_gets (wsV RX5 118 RX4 yX4_counselBy wsX4_counselBy) := goodIn_app (goodIn_of _ (by decide +kernel)) ggX5_gets_X4_counselBy
theorem dX5_gets_0 : decode cX5_gets 0 = .ok (.iload_n 1, 1) := by decide +kernel
theorem dX5_gets_1 : decode cX5_gets 1 = .ok (.bipush 9, 2) := by decide +kernel
theorem dX5_gets_3 : decode cX5_gets 3 = .ok (.invokestatic 50, 3) := by decide +kernel
theorem dX5_gets_6 : decode cX5_gets 6 = .ok (.ifCond .ne 6, 3) := by decide +kernel
theorem dX5_gets_9 : decode cX5_gets 9 = .ok (.bipush (-2), 2) := by decide +kernel
theorem dX5_gets_11 : decode cX5_gets 11 = .ok (.ireturn, 1) := by decide +kernel
theorem dX5_gets_12 : decode cX5_gets 12 = .ok (.aload_n 0, 1) := by decide +kernel
theorem dX5_gets_13 : decode cX5_gets 13 = .ok (.getfield 12, 3) := by decide +kernel
theorem dX5_gets_16 : decode cX5_gets 16 = .ok (.invokevirtual 105, 3) := by decide +kernel
theorem dX5_gets_19 : decode cX5_gets 19 = .ok (.ifCond .ne 6, 3) := by decide +kernel
theorem dX5_gets_22 : decode cX5_gets 22 = .ok (.bipush (-3), 2) := by decide +kernel
theorem dX5_gets_24 : decode cX5_gets 24 = .ok (.ireturn, 1) := by decide +kernel
theorem dX5_gets_25 : decode cX5_gets 25 = .ok (.iconst 0, 1) := by decide +kernel
theorem dX5_gets_26 : decode cX5_gets 26 = .ok (.istore_n 2, 1) := by decide +kernel
theorem dX5_gets_27 : decode cX5_gets 27 = .ok (.iload_n 2, 1) := by decide +kernel
theorem dX5_gets_28 : decode cX5_gets 28 = .ok (.bipush 20, 2) := by decide +kernel
theorem dX5_gets_30 : decode cX5_gets 30 = .ok (.if_icmp .gt 31, 3) := by decide +kernel
theorem dX5_gets_33 : decode cX5_gets 33 = .ok (.aload_n 0, 1) := by decide +kernel
theorem dX5_gets_34 : decode cX5_gets 34 = .ok (.getfield 12, 3) := by decide +kernel
theorem dX5_gets_37 : decode cX5_gets 37 = .ok (.iload_n 2, 1) := by decide +kernel
theorem dX5_gets_38 : decode cX5_gets 38 = .ok (.aload_n 0, 1) := by decide +kernel
theorem dX5_gets_39 : decode cX5_gets 39 = .ok (.getfield 12, 3) := by decide +kernel
theorem dX5_gets_42 : decode cX5_gets 42 = .ok (.getfield 112, 3) := by decide +kernel
theorem dX5_gets_45 : decode cX5_gets 45 = .ok (.isub, 1) := by decide +kernel
theorem dX5_gets_46 : decode cX5_gets 46 = .ok (.invokevirtual 118, 3) := by decide +kernel
theorem dX5_gets_49 : decode cX5_gets 49 = .ok (.iload_n 1, 1) := by decide +kernel
theorem dX5_gets_50 : decode cX5_gets 50 = .ok (.if_icmp .ne 5, 3) := by decide +kernel
theorem dX5_gets_53 : decode cX5_gets 53 = .ok (.iload_n 2, 1) := by decide +kernel
theorem dX5_gets_54 : decode cX5_gets 54 = .ok (.ireturn, 1) := by decide +kernel
theorem dX5_gets_55 : decode cX5_gets 55 = .ok (.iinc 2 1, 3) := by decide +kernel
theorem dX5_gets_58 : decode cX5_gets 58 = .ok (.goto (-31), 3) := by decide +kernel
theorem dX5_gets_61 : decode cX5_gets 61 = .ok (.bipush (-9), 2) := by decide +kernel
theorem dX5_gets_63 : decode cX5_gets 63 = .ok (.ireturn, 1) := by decide +kernel
set_option maxRecDepth 20000 in
theorem ggX5_without_X5_isUpTo : GoodIn wsX5_without wsX5_isUpTo := goodIn_r _ [7] (by decide +kernel) (by decide +kernel)
set_option maxRecDepth 20000 in
theorem gX5_without_X5_isUpTo : GoodIn wsX5_without (va_wsS RX5 50 yX5_isUpTo wsX5_isUpTo) := goodIn_app (goodIn_of _ (by decide +kernel)) ggX5_without_X5_isUpTo
set_option maxRecDepth 20000 in
theorem ggX5_without_X4_stands : GoodIn wsX5_without wsX4_stands := goodIn_r _ [12, 13, 85, 86, 87, 88] (by decide +kernel) (by decide +kernel)
set_option maxRecDepth 20000 in
theorem gX5_without_X4_stands : GoodIn wsX5_without (wsV RX5 105 RX4 yX4_stands wsX4_stands) := goodIn_app (goodIn_of _ (by decide +kernel)) ggX5_without_X4_stands
set_option maxRecDepth 20000 in
theorem ggX5_without_J6_bitCount_0f7a4 : GoodIn wsX5_without wsJ6_bitCount_0f7a4 := goodIn_r _ [17, 18, 19, 20] (by decide +kernel) (by decide +kernel)
set_option maxRecDepth 20000 in
theorem gX5_without_J6_bitCount_0f7a4 : GoodIn wsX5_without (va_wsS RX5 142 yJ6_bitCount_0f7a4 wsJ6_bitCount_0f7a4) := goodIn_app (goodIn_of _ (by decide +kernel)) ggX5_without_J6_bitCount_0f7a4
set_option maxRecDepth 20000 in
theorem ggX5_without_X4_becomeLess : GoodIn wsX5_without wsX4_becomeLess := goodIn_r _ [24, 25, 26, 13, 27, 28, 29, 11, 30, 31, 32, 33, 34, 35, 36, 37, 38, 39, 40, 41, 42, 43, 44, 45, 46, 47, 48, 49, 50, 51, 52, 53, 54, 85, 86, 87, 88, 89, 90, 91] (by decide +kernel) (by decide +kernel)
set_option maxRecDepth 20000 in
theorem gX5_without_X4_becomeLess : GoodIn wsX5_without (wsV RX5 147 RX4 yX4_becomeLess wsX4_becomeLess) := goodIn_app (goodIn_of _ (by decide +kernel)) ggX5_without_X4_becomeLess
set_option maxRecDepth 20000 in
theorem ggX5_without_X4_warmth : GoodIn wsX5_without wsX4_warmth := goodIn_r _ [58, 25, 26, 85, 86, 87, 88] (by decide +kernel) (by decide +kernel)
set_option maxRecDepth 20000 in
theorem gX5_without_X4_warmth : GoodIn wsX5_without (wsV RX5 96 RX4 yX4_warmth wsX4_warmth) := goodIn_app (goodIn_of _ (by decide +kernel)) ggX5_without_X4_warmth
set_option maxRecDepth 20000 in
theorem ggX5_without_X4_counselBy : GoodIn wsX5_without wsX4_counselBy := goodIn_r _ [62, 35, 42, 63, 64, 65, 11, 66, 13, 40, 67, 68, 69, 50, 70, 52, 53, 71, 72, 73, 74, 75, 76, 77, 85, 86, 87, 88, 89, 90, 91] (by decide +kernel) (by decide +kernel)
set_option maxRecDepth 20000 in
theorem gX5_without_X4_counselBy : GoodIn wsX5_without (wsV RX5 118 RX4 yX4_counselBy wsX4_counselBy) := goodIn_app (goodIn_of _ (by decide +kernel)) ggX5_without_X4_counselBy
theorem dX5_without_0 : decode cX5_without 0 = .ok (.iload_n 1, 1) := by decide +kernel
theorem dX5_without_1 : decode cX5_without 1 = .ok (.bipush 9, 2) := by decide +kernel
theorem dX5_without_3 : decode cX5_without 3 = .ok (.invokestatic 50, 3) := by decide +kernel
theorem dX5_without_6 : decode cX5_without 6 = .ok (.ifCond .ne 6, 3) := by decide +kernel
theorem dX5_without_9 : decode cX5_without 9 = .ok (.bipush (-2), 2) := by decide +kernel
theorem dX5_without_11 : decode cX5_without 11 = .ok (.ireturn, 1) := by decide +kernel
theorem dX5_without_12 : decode cX5_without 12 = .ok (.aload_n 0, 1) := by decide +kernel
theorem dX5_without_13 : decode cX5_without 13 = .ok (.getfield 12, 3) := by decide +kernel
theorem dX5_without_16 : decode cX5_without 16 = .ok (.invokevirtual 105, 3) := by decide +kernel
theorem dX5_without_19 : decode cX5_without 19 = .ok (.ifCond .ne 6, 3) := by decide +kernel
theorem dX5_without_22 : decode cX5_without 22 = .ok (.bipush (-3), 2) := by decide +kernel
theorem dX5_without_24 : decode cX5_without 24 = .ok (.ireturn, 1) := by decide +kernel
theorem dX5_without_25 : decode cX5_without 25 = .ok (.bipush (-9), 2) := by decide +kernel
theorem dX5_without_27 : decode cX5_without 27 = .ok (.istore_n 2, 1) := by decide +kernel
theorem dX5_without_28 : decode cX5_without 28 = .ok (.iconst 0, 1) := by decide +kernel
theorem dX5_without_29 : decode cX5_without 29 = .ok (.istore_n 3, 1) := by decide +kernel
theorem dX5_without_30 : decode cX5_without 30 = .ok (.iload_n 3, 1) := by decide +kernel
theorem dX5_without_31 : decode cX5_without 31 = .ok (.iconst 1, 1) := by decide +kernel
theorem dX5_without_32 : decode cX5_without 32 = .ok (.aload_n 0, 1) := by decide +kernel
theorem dX5_without_33 : decode cX5_without 33 = .ok (.getfield 12, 3) := by decide +kernel
theorem dX5_without_36 : decode cX5_without 36 = .ok (.getfield 76, 3) := by decide +kernel
theorem dX5_without_39 : decode cX5_without 39 = .ok (.ishl, 1) := by decide +kernel
theorem dX5_without_40 : decode cX5_without 40 = .ok (.if_icmp .ge 58, 3) := by decide +kernel
theorem dX5_without_43 : decode cX5_without 43 = .ok (.iload_n 2, 1) := by decide +kernel
theorem dX5_without_44 : decode cX5_without 44 = .ok (.bipush (-9), 2) := by decide +kernel
theorem dX5_without_46 : decode cX5_without 46 = .ok (.if_icmp .eq 14, 3) := by decide +kernel
theorem dX5_without_49 : decode cX5_without 49 = .ok (.iload_n 3, 1) := by decide +kernel
theorem dX5_without_50 : decode cX5_without 50 = .ok (.invokestatic 142, 3) := by decide +kernel
theorem dX5_without_53 : decode cX5_without 53 = .ok (.iload_n 2, 1) := by decide +kernel
theorem dX5_without_54 : decode cX5_without 54 = .ok (.invokestatic 142, 3) := by decide +kernel
theorem dX5_without_57 : decode cX5_without 57 = .ok (.if_icmp .ge 35, 3) := by decide +kernel
theorem dX5_without_60 : decode cX5_without 60 = .ok (.aload_n 0, 1) := by decide +kernel
theorem dX5_without_61 : decode cX5_without 61 = .ok (.getfield 18, 3) := by decide +kernel
theorem dX5_without_64 : decode cX5_without 64 = .ok (.aload_n 0, 1) := by decide +kernel
theorem dX5_without_65 : decode cX5_without 65 = .ok (.getfield 12, 3) := by decide +kernel
theorem dX5_without_68 : decode cX5_without 68 = .ok (.iload_n 3, 1) := by decide +kernel
theorem dX5_without_69 : decode cX5_without 69 = .ok (.invokevirtual 147, 3) := by decide +kernel
theorem dX5_without_72 : decode cX5_without 72 = .ok (.aload_n 0, 1) := by decide +kernel
theorem dX5_without_73 : decode cX5_without 73 = .ok (.getfield 18, 3) := by decide +kernel
theorem dX5_without_76 : decode cX5_without 76 = .ok (.aload_n 0, 1) := by decide +kernel
theorem dX5_without_77 : decode cX5_without 77 = .ok (.getfield 18, 3) := by decide +kernel
theorem dX5_without_80 : decode cX5_without 80 = .ok (.invokevirtual 96, 3) := by decide +kernel
theorem dX5_without_83 : decode cX5_without 83 = .ok (.invokevirtual 118, 3) := by decide +kernel
theorem dX5_without_86 : decode cX5_without 86 = .ok (.iload_n 1, 1) := by decide +kernel
theorem dX5_without_87 : decode cX5_without 87 = .ok (.if_icmp .ne 5, 3) := by decide +kernel
theorem dX5_without_90 : decode cX5_without 90 = .ok (.iload_n 3, 1) := by decide +kernel
theorem dX5_without_91 : decode cX5_without 91 = .ok (.istore_n 2, 1) := by decide +kernel
theorem dX5_without_92 : decode cX5_without 92 = .ok (.iinc 3 1, 3) := by decide +kernel
theorem dX5_without_95 : decode cX5_without 95 = .ok (.goto (-65), 3) := by decide +kernel
theorem dX5_without_98 : decode cX5_without 98 = .ok (.iload_n 2, 1) := by decide +kernel
theorem dX5_without_99 : decode cX5_without 99 = .ok (.ireturn, 1) := by decide +kernel
set_option maxRecDepth 20000 in
theorem ggX5_reading_X5_isUpTo : GoodIn wsX5_reading wsX5_isUpTo := goodIn_r _ [7] (by decide +kernel) (by decide +kernel)
set_option maxRecDepth 20000 in
theorem gX5_reading_X5_isUpTo : GoodIn wsX5_reading (va_wsS RX5 50 yX5_isUpTo wsX5_isUpTo) := goodIn_app (goodIn_of _ (by decide +kernel)) ggX5_reading_X5_isUpTo
set_option maxRecDepth 20000 in
theorem ggX5_reading_X4_stands : GoodIn wsX5_reading wsX4_stands := goodIn_r _ [12, 13, 32, 33, 34, 35] (by decide +kernel) (by decide +kernel)
set_option maxRecDepth 20000 in
theorem gX5_reading_X4_stands : GoodIn wsX5_reading (wsV RX5 105 RX4 yX4_stands wsX4_stands) := goodIn_app (goodIn_of _ (by decide +kernel)) ggX5_reading_X4_stands
set_option maxRecDepth 20000 in
theorem ggX5_reading_X2_note : GoodIn wsX5_reading wsX2_note := goodIn_r _ [18, 19, 20, 21, 29, 30, 31] (by decide +kernel) (by decide +kernel)
set_option maxRecDepth 20000 in
theorem gX5_reading_X2_note : GoodIn wsX5_reading (wsV RX5 151 RX2 yX2_note wsX2_note) := goodIn_app (goodIn_of _ (by decide +kernel)) ggX5_reading_X2_note
theorem dX5_reading_0 : decode cX5_reading 0 = .ok (.iload_n 1, 1) := by decide +kernel
theorem dX5_reading_1 : decode cX5_reading 1 = .ok (.bipush 20, 2) := by decide +kernel
theorem dX5_reading_3 : decode cX5_reading 3 = .ok (.invokestatic 50, 3) := by decide +kernel
theorem dX5_reading_6 : decode cX5_reading 6 = .ok (.ifCond .eq 12, 3) := by decide +kernel
theorem dX5_reading_9 : decode cX5_reading 9 = .ok (.iload_n 2, 1) := by decide +kernel
theorem dX5_reading_10 : decode cX5_reading 10 = .ok (.bipush 9, 2) := by decide +kernel
theorem dX5_reading_12 : decode cX5_reading 12 = .ok (.invokestatic 50, 3) := by decide +kernel
theorem dX5_reading_15 : decode cX5_reading 15 = .ok (.ifCond .ne 6, 3) := by decide +kernel
theorem dX5_reading_18 : decode cX5_reading 18 = .ok (.bipush (-2), 2) := by decide +kernel
theorem dX5_reading_20 : decode cX5_reading 20 = .ok (.ireturn, 1) := by decide +kernel
theorem dX5_reading_21 : decode cX5_reading 21 = .ok (.iload_n 3, 1) := by decide +kernel
theorem dX5_reading_22 : decode cX5_reading 22 = .ok (.bipush 9, 2) := by decide +kernel
theorem dX5_reading_24 : decode cX5_reading 24 = .ok (.invokestatic 50, 3) := by decide +kernel
theorem dX5_reading_27 : decode cX5_reading 27 = .ok (.ifCond .ne 12, 3) := by decide +kernel
theorem dX5_reading_30 : decode cX5_reading 30 = .ok (.iload_n 3, 1) := by decide +kernel
theorem dX5_reading_31 : decode cX5_reading 31 = .ok (.bipush (-9), 2) := by decide +kernel
theorem dX5_reading_33 : decode cX5_reading 33 = .ok (.if_icmp .eq 6, 3) := by decide +kernel
theorem dX5_reading_36 : decode cX5_reading 36 = .ok (.bipush (-2), 2) := by decide +kernel
theorem dX5_reading_38 : decode cX5_reading 38 = .ok (.ireturn, 1) := by decide +kernel
theorem dX5_reading_39 : decode cX5_reading 39 = .ok (.aload_n 0, 1) := by decide +kernel
theorem dX5_reading_40 : decode cX5_reading 40 = .ok (.getfield 12, 3) := by decide +kernel
theorem dX5_reading_43 : decode cX5_reading 43 = .ok (.invokevirtual 105, 3) := by decide +kernel
theorem dX5_reading_46 : decode cX5_reading 46 = .ok (.ifCond .ne 6, 3) := by decide +kernel
theorem dX5_reading_49 : decode cX5_reading 49 = .ok (.bipush (-3), 2) := by decide +kernel
theorem dX5_reading_51 : decode cX5_reading 51 = .ok (.ireturn, 1) := by decide +kernel
theorem dX5_reading_52 : decode cX5_reading 52 = .ok (.aload_n 0, 1) := by decide +kernel
theorem dX5_reading_53 : decode cX5_reading 53 = .ok (.getfield 24, 3) := by decide +kernel
theorem dX5_reading_56 : decode cX5_reading 56 = .ok (.iload_n 1, 1) := by decide +kernel
theorem dX5_reading_57 : decode cX5_reading 57 = .ok (.iload_n 2, 1) := by decide +kernel
theorem dX5_reading_58 : decode cX5_reading 58 = .ok (.isub, 1) := by decide +kernel
theorem dX5_reading_59 : decode cX5_reading 59 = .ok (.iload_n 3, 1) := by decide +kernel
theorem dX5_reading_60 : decode cX5_reading 60 = .ok (.invokevirtual 151, 3) := by decide +kernel
theorem dX5_reading_63 : decode cX5_reading 63 = .ok (.ifCond .eq 15, 3) := by decide +kernel
theorem dX5_reading_66 : decode cX5_reading 66 = .ok (.aload_n 0, 1) := by decide +kernel
theorem dX5_reading_67 : decode cX5_reading 67 = .ok (.getfield 24, 3) := by decide +kernel
theorem dX5_reading_70 : decode cX5_reading 70 = .ok (.getfield 73, 3) := by decide +kernel
theorem dX5_reading_73 : decode cX5_reading 73 = .ok (.iconst 1, 1) := by decide +kernel
theorem dX5_reading_74 : decode cX5_reading 74 = .ok (.isub, 1) := by decide +kernel
theorem dX5_reading_75 : decode cX5_reading 75 = .ok (.goto 5, 3) := by decide +kernel
theorem dX5_reading_78 : decode cX5_reading 78 = .ok (.bipush (-4), 2) := by decide +kernel
theorem dX5_reading_80 : decode cX5_reading 80 = .ok (.ireturn, 1) := by decide +kernel
set_option maxRecDepth 20000 in
theorem ggX5_back_X5_isUpTo : GoodIn wsX5_back wsX5_isUpTo := goodIn_r _ [6] (by decide +kernel) (by decide +kernel)
set_option maxRecDepth 20000 in
theorem gX5_back_X5_isUpTo : GoodIn wsX5_back (va_wsS RX5 50 yX5_isUpTo wsX5_isUpTo) := goodIn_app (goodIn_of _ (by decide +kernel)) ggX5_back_X5_isUpTo
theorem dX5_back_0 : decode cX5_back 0 = .ok (.iload_n 1, 1) := by decide +kernel
theorem dX5_back_1 : decode cX5_back 1 = .ok (.aload_n 0, 1) := by decide +kernel
theorem dX5_back_2 : decode cX5_back 2 = .ok (.getfield 24, 3) := by decide +kernel
theorem dX5_back_5 : decode cX5_back 5 = .ok (.getfield 73, 3) := by decide +kernel
theorem dX5_back_8 : decode cX5_back 8 = .ok (.invokestatic 50, 3) := by decide +kernel
theorem dX5_back_11 : decode cX5_back 11 = .ok (.ifCond .ne 6, 3) := by decide +kernel
theorem dX5_back_14 : decode cX5_back 14 = .ok (.bipush (-2), 2) := by decide +kernel
theorem dX5_back_16 : decode cX5_back 16 = .ok (.ireturn, 1) := by decide +kernel
theorem dX5_back_17 : decode cX5_back 17 = .ok (.aload_n 0, 1) := by decide +kernel
theorem dX5_back_18 : decode cX5_back 18 = .ok (.getfield 24, 3) := by decide +kernel
theorem dX5_back_21 : decode cX5_back 21 = .ok (.dup, 1) := by decide +kernel
theorem dX5_back_22 : decode cX5_back 22 = .ok (.getfield 73, 3) := by decide +kernel
theorem dX5_back_25 : decode cX5_back 25 = .ok (.iload_n 1, 1) := by decide +kernel
theorem dX5_back_26 : decode cX5_back 26 = .ok (.isub, 1) := by decide +kernel
theorem dX5_back_27 : decode cX5_back 27 = .ok (.putfield 73, 3) := by decide +kernel
theorem dX5_back_30 : decode cX5_back 30 = .ok (.aload_n 0, 1) := by decide +kernel
theorem dX5_back_31 : decode cX5_back 31 = .ok (.getfield 24, 3) := by decide +kernel
theorem dX5_back_34 : decode cX5_back 34 = .ok (.getfield 73, 3) := by decide +kernel
theorem dX5_back_37 : decode cX5_back 37 = .ok (.ireturn, 1) := by decide +kernel
set_option maxRecDepth 20000 in
theorem ggX5_orders_X4_stands : GoodIn wsX5_orders wsX4_stands := goodIn_r _ [8, 9, 128, 129, 130, 131] (by decide +kernel) (by decide +kernel)
set_option maxRecDepth 20000 in
theorem gX5_orders_X4_stands : GoodIn wsX5_orders (wsV RX5 105 RX4 yX4_stands wsX4_stands) := goodIn_app (goodIn_of _ (by decide +kernel)) ggX5_orders_X4_stands
set_option maxRecDepth 20000 in
theorem ggX5_orders_X5_countOrders : GoodIn wsX5_orders wsX5_countOrders := goodIn_r _ [14, 3, 1, 2, 15, 16, 17, 18, 19, 20, 21, 22, 23, 24, 25, 26, 27, 28, 29, 30, 31, 13, 32, 33, 34, 35, 36, 37, 7, 38, 39, 40, 9, 41, 42, 43, 44, 45, 46, 47, 48, 49, 50, 51, 52, 53, 54, 55, 56, 57, 58, 59, 60, 61, 62, 63, 64, 65, 66, 67, 68, 69, 70, 71, 72, 73, 74, 75, 76, 77, 78, 79, 80, 81, 82, 83, 84, 85, 86, 87, 88, 89, 90, 91, 92, 93, 94, 95, 96, 97, 98, 99, 100, 101, 102, 103, 104, 105, 106, 107, 108, 109, 110, 111, 112, 113, 114, 115, 121, 122, 123, 124, 125, 126, 127, 128, 129, 130, 131, 132, 133, 134, 135, 136, 137, 138, 139] (by decide +kernel) (by decide +kernel)
set_option maxRecDepth 20000 in
theorem gX5_orders_X5_countOrders : GoodIn wsX5_orders (wsV RX5 154 RX5 yX5_countOrders wsX5_countOrders) := goodIn_app (goodIn_of _ (by decide +kernel)) ggX5_orders_X5_countOrders
set_option maxRecDepth 20000 in
theorem ggX5_orders_X5_findOrder : GoodIn wsX5_orders wsX5_findOrder := goodIn_r _ [119, 3, 1, 2, 15, 16, 17, 18, 19, 20, 21, 22, 23, 24, 25, 26, 27, 28, 29, 30, 31, 13, 32, 33, 34, 35, 36, 37, 7, 38, 39, 40, 9, 41, 42, 43, 44, 45, 46, 47, 48, 49, 50, 51, 52, 53, 54, 55, 56, 57, 58, 59, 60, 61, 62, 63, 64, 65, 66, 67, 68, 69, 70, 71, 72, 73, 74, 75, 76, 77, 78, 79, 80, 81, 82, 83, 84, 85, 86, 87, 88, 89, 90, 91, 92, 93, 94, 95, 96, 97, 98, 99, 100, 101, 102, 103, 104, 105, 106, 107, 108, 109, 110, 111, 112, 113, 114, 115, 121, 122, 123, 124, 125, 126, 127, 128, 129, 130, 131, 132, 133, 134, 135, 136, 137, 138, 139] (by decide +kernel) (by decide +kernel)
set_option maxRecDepth 20000 in
theorem gX5_orders_X5_findOrder : GoodIn wsX5_orders (wsV RX5 157 RX5 yX5_findOrder wsX5_findOrder) := goodIn_app (goodIn_of _ (by decide +kernel)) ggX5_orders_X5_findOrder
set_option maxRecDepth 20000 in
theorem ggX5_orders_X1_layerIn : GoodIn wsX5_orders wsX1_layerIn := goodIn_r _ [48, 27, 28, 132, 133] (by decide +kernel) (by decide +kernel)
set_option maxRecDepth 20000 in
theorem gX5_orders_X1_layerIn : GoodIn wsX5_orders (wsV RX5 160 RX1 yX1_layerIn wsX1_layerIn) := goodIn_app (goodIn_of _ (by decide +kernel)) ggX5_orders_X1_layerIn
theorem dX5_orders_0 : decode cX5_orders 0 = .ok (.iload_n 1, 1) := by decide +kernel
theorem dX5_orders_1 : decode cX5_orders 1 = .ok (.iconst (-1), 1) := by decide +kernel
theorem dX5_orders_2 : decode cX5_orders 2 = .ok (.if_icmp .lt 9, 3) := by decide +kernel
theorem dX5_orders_5 : decode cX5_orders 5 = .ok (.iload_n 1, 1) := by decide +kernel
theorem dX5_orders_6 : decode cX5_orders 6 = .ok (.bipush 6, 2) := by decide +kernel
theorem dX5_orders_8 : decode cX5_orders 8 = .ok (.if_icmp .lt 6, 3) := by decide +kernel
theorem dX5_orders_11 : decode cX5_orders 11 = .ok (.bipush (-2), 2) := by decide +kernel
theorem dX5_orders_13 : decode cX5_orders 13 = .ok (.ireturn, 1) := by decide +kernel
theorem dX5_orders_14 : decode cX5_orders 14 = .ok (.aload_n 0, 1) := by decide +kernel
theorem dX5_orders_15 : decode cX5_orders 15 = .ok (.getfield 12, 3) := by decide +kernel
theorem dX5_orders_18 : decode cX5_orders 18 = .ok (.invokevirtual 105, 3) := by decide +kernel
theorem dX5_orders_21 : decode cX5_orders 21 = .ok (.ifCond .ne 6, 3) := by decide +kernel
theorem dX5_orders_24 : decode cX5_orders 24 = .ok (.bipush (-3), 2) := by decide +kernel
theorem dX5_orders_26 : decode cX5_orders 26 = .ok (.ireturn, 1) := by decide +kernel
theorem dX5_orders_27 : decode cX5_orders 27 = .ok (.iload_n 1, 1) := by decide +kernel
theorem dX5_orders_28 : decode cX5_orders 28 = .ok (.iconst (-1), 1) := by decide +kernel
theorem dX5_orders_29 : decode cX5_orders 29 = .ok (.if_icmp .ne 8, 3) := by decide +kernel
theorem dX5_orders_32 : decode cX5_orders 32 = .ok (.aload_n 0, 1) := by decide +kernel
theorem dX5_orders_33 : decode cX5_orders 33 = .ok (.invokevirtual 154, 3) := by decide +kernel
theorem dX5_orders_36 : decode cX5_orders 36 = .ok (.ireturn, 1) := by decide +kernel
theorem dX5_orders_37 : decode cX5_orders 37 = .ok (.iload_n 1, 1) := by decide +kernel
theorem dX5_orders_38 : decode cX5_orders 38 = .ok (.aload_n 0, 1) := by decide +kernel
theorem dX5_orders_39 : decode cX5_orders 39 = .ok (.getfield 12, 3) := by decide +kernel
theorem dX5_orders_42 : decode cX5_orders 42 = .ok (.getfield 76, 3) := by decide +kernel
theorem dX5_orders_45 : decode cX5_orders 45 = .ok (.if_icmp .ge 21, 3) := by decide +kernel
theorem dX5_orders_48 : decode cX5_orders 48 = .ok (.aload_n 0, 1) := by decide +kernel
theorem dX5_orders_49 : decode cX5_orders 49 = .ok (.invokevirtual 157, 3) := by decide +kernel
theorem dX5_orders_52 : decode cX5_orders 52 = .ok (.ifCond .eq 14, 3) := by decide +kernel
theorem dX5_orders_55 : decode cX5_orders 55 = .ok (.aload_n 0, 1) := by decide +kernel
theorem dX5_orders_56 : decode cX5_orders 56 = .ok (.getfield 31, 3) := by decide +kernel
theorem dX5_orders_59 : decode cX5_orders 59 = .ok (.iload_n 1, 1) := by decide +kernel
theorem dX5_orders_60 : decode cX5_orders 60 = .ok (.invokevirtual 160, 3) := by decide +kernel
theorem dX5_orders_63 : decode cX5_orders 63 = .ok (.goto 5, 3) := by decide +kernel
theorem dX5_orders_66 : decode cX5_orders 66 = .ok (.bipush (-9), 2) := by decide +kernel
theorem dX5_orders_68 : decode cX5_orders 68 = .ok (.ireturn, 1) := by decide +kernel
set_option maxRecDepth 20000 in
theorem ggX5_holds_X4_layerAt : GoodIn wsX5_holds wsX4_layerAt := goodIn_r _ [6, 7, 8, 88, 89, 90, 91] (by decide +kernel) (by decide +kernel)
set_option maxRecDepth 20000 in
theorem gX5_holds_X4_layerAt : GoodIn wsX5_holds (wsV RX5 77 RX4 yX4_layerAt wsX4_layerAt) := goodIn_app (goodIn_of _ (by decide +kernel)) ggX5_holds_X4_layerAt
set_option maxRecDepth 20000 in
theorem ggX5_holds_X5_fitting : GoodIn wsX5_holds wsX5_fitting := goodIn_r _ [13, 14, 1, 15, 16, 17, 18, 5, 19, 20, 21, 22, 23, 24, 25, 7, 26, 27, 28, 29, 30, 3, 4, 6, 8, 31, 32, 33, 34, 35, 36, 37, 38, 39, 40, 41, 42, 43, 44, 45, 46, 47, 48, 49, 50, 51, 52, 53, 54, 55, 56, 57, 58, 59, 60, 61, 62, 63, 64, 65, 66, 67, 68, 69, 70, 71, 72, 73, 74, 75, 76, 77, 78, 79, 80, 81, 82, 83, 84, 85, 86, 87, 88, 89, 90, 91, 92, 93, 94, 95, 96, 97] (by decide +kernel) (by decide +kernel)
set_option maxRecDepth 20000 in
theorem gX5_holds_X5_fitting : GoodIn wsX5_holds (wsV RX5 163 RX5 yX5_fitting wsX5_fitting) := goodIn_app (goodIn_of _ (by decide +kernel)) ggX5_holds_X5_fitting
theorem dX5_holds_0 : decode cX5_holds 0 = .ok (.aload_n 0, 1) := by decide +kernel
theorem dX5_holds_1 : decode cX5_holds 1 = .ok (.getfield 12, 3) := by decide +kernel
theorem dX5_holds_4 : decode cX5_holds 4 = .ok (.iload_n 1, 1) := by decide +kernel
theorem dX5_holds_5 : decode cX5_holds 5 = .ok (.invokevirtual 77, 3) := by decide +kernel
theorem dX5_holds_8 : decode cX5_holds 8 = .ok (.ifnonnull 7, 3) := by decide +kernel
theorem dX5_holds_11 : decode cX5_holds 11 = .ok (.iconst (-1), 1) := by decide +kernel
theorem dX5_holds_12 : decode cX5_holds 12 = .ok (.goto 11, 3) := by decide +kernel
theorem dX5_holds_15 : decode cX5_holds 15 = .ok (.aload_n 0, 1) := by decide +kernel
theorem dX5_holds_16 : decode cX5_holds 16 = .ok (.iload_n 1, 1) := by decide +kernel
theorem dX5_holds_17 : decode cX5_holds 17 = .ok (.iconst 1, 1) := by decide +kernel
theorem dX5_holds_18 : decode cX5_holds 18 = .ok (.bipush 9, 2) := by decide +kernel
theorem dX5_holds_20 : decode cX5_holds 20 = .ok (.invokevirtual 163, 3) := by decide +kernel
theorem dX5_holds_23 : decode cX5_holds 23 = .ok (.ireturn, 1) := by decide +kernel
set_option maxRecDepth 20000 in
theorem ggX5_advices_X4_layerAt : GoodIn wsX5_advices wsX4_layerAt := goodIn_r _ [6, 7, 8, 88, 89, 90, 91] (by decide +kernel) (by decide +kernel)
set_option maxRecDepth 20000 in
theorem gX5_advices_X4_layerAt : GoodIn wsX5_advices (wsV RX5 77 RX4 yX4_layerAt wsX4_layerAt) := goodIn_app (goodIn_of _ (by decide +kernel)) ggX5_advices_X4_layerAt
set_option maxRecDepth 20000 in
theorem ggX5_advices_X5_fitting : GoodIn wsX5_advices wsX5_fitting := goodIn_r _ [13, 14, 1, 15, 16, 17, 18, 5, 19, 20, 21, 22, 23, 24, 25, 7, 26, 27, 28, 29, 30, 3, 4, 6, 8, 31, 32, 33, 34, 35, 36, 37, 38, 39, 40, 41, 42, 43, 44, 45, 46, 47, 48, 49, 50, 51, 52, 53, 54, 55, 56, 57, 58, 59, 60, 61, 62, 63, 64, 65, 66, 67, 68, 69, 70, 71, 72, 73, 74, 75, 76, 77, 78, 79, 80, 81, 82, 83, 84, 85, 86, 87, 88, 89, 90, 91, 92, 93, 94, 95, 96, 97] (by decide +kernel) (by decide +kernel)
set_option maxRecDepth 20000 in
theorem gX5_advices_X5_fitting : GoodIn wsX5_advices (wsV RX5 163 RX5 yX5_fitting wsX5_fitting) := goodIn_app (goodIn_of _ (by decide +kernel)) ggX5_advices_X5_fitting
theorem dX5_advices_0 : decode cX5_advices 0 = .ok (.aload_n 0, 1) := by decide +kernel
theorem dX5_advices_1 : decode cX5_advices 1 = .ok (.getfield 12, 3) := by decide +kernel
theorem dX5_advices_4 : decode cX5_advices 4 = .ok (.iload_n 1, 1) := by decide +kernel
theorem dX5_advices_5 : decode cX5_advices 5 = .ok (.invokevirtual 77, 3) := by decide +kernel
theorem dX5_advices_8 : decode cX5_advices 8 = .ok (.ifnonnull 7, 3) := by decide +kernel
theorem dX5_advices_11 : decode cX5_advices 11 = .ok (.iconst (-1), 1) := by decide +kernel
theorem dX5_advices_12 : decode cX5_advices 12 = .ok (.goto 11, 3) := by decide +kernel
theorem dX5_advices_15 : decode cX5_advices 15 = .ok (.aload_n 0, 1) := by decide +kernel
theorem dX5_advices_16 : decode cX5_advices 16 = .ok (.iload_n 1, 1) := by decide +kernel
theorem dX5_advices_17 : decode cX5_advices 17 = .ok (.iconst 2, 1) := by decide +kernel
theorem dX5_advices_18 : decode cX5_advices 18 = .ok (.bipush 9, 2) := by decide +kernel
theorem dX5_advices_20 : decode cX5_advices 20 = .ok (.invokevirtual 163, 3) := by decide +kernel
theorem dX5_advices_23 : decode cX5_advices 23 = .ok (.ireturn, 1) := by decide +kernel
set_option maxRecDepth 20000 in
theorem ggX5_kinds_X4_layerAt : GoodIn wsX5_kinds wsX4_layerAt := goodIn_r _ [6, 7, 8, 88, 89, 90, 91] (by decide +kernel) (by decide +kernel)
set_option maxRecDepth 20000 in
theorem gX5_kinds_X4_layerAt : GoodIn wsX5_kinds (wsV RX5 77 RX4 yX4_layerAt wsX4_layerAt) := goodIn_app (goodIn_of _ (by decide +kernel)) ggX5_kinds_X4_layerAt
set_option maxRecDepth 20000 in
theorem ggX5_kinds_X5_fitting : GoodIn wsX5_kinds wsX5_fitting := goodIn_r _ [13, 14, 1, 15, 16, 17, 18, 5, 19, 20, 21, 22, 23, 24, 25, 7, 26, 27, 28, 29, 30, 3, 4, 6, 8, 31, 32, 33, 34, 35, 36, 37, 38, 39, 40, 41, 42, 43, 44, 45, 46, 47, 48, 49, 50, 51, 52, 53, 54, 55, 56, 57, 58, 59, 60, 61, 62, 63, 64, 65, 66, 67, 68, 69, 70, 71, 72, 73, 74, 75, 76, 77, 78, 79, 80, 81, 82, 83, 84, 85, 86, 87, 88, 89, 90, 91, 92, 93, 94, 95, 96, 97] (by decide +kernel) (by decide +kernel)
set_option maxRecDepth 20000 in
theorem gX5_kinds_X5_fitting : GoodIn wsX5_kinds (wsV RX5 163 RX5 yX5_fitting wsX5_fitting) := goodIn_app (goodIn_of _ (by decide +kernel)) ggX5_kinds_X5_fitting
theorem dX5_kinds_0 : decode cX5_kinds 0 = .ok (.aload_n 0, 1) := by decide +kernel
theorem dX5_kinds_1 : decode cX5_kinds 1 = .ok (.getfield 12, 3) := by decide +kernel
theorem dX5_kinds_4 : decode cX5_kinds 4 = .ok (.iload_n 1, 1) := by decide +kernel
theorem dX5_kinds_5 : decode cX5_kinds 5 = .ok (.invokevirtual 77, 3) := by decide +kernel
theorem dX5_kinds_8 : decode cX5_kinds 8 = .ok (.ifnonnull 7, 3) := by decide +kernel
theorem dX5_kinds_11 : decode cX5_kinds 11 = .ok (.iconst (-1), 1) := by decide +kernel
theorem dX5_kinds_12 : decode cX5_kinds 12 = .ok (.goto 10, 3) := by decide +kernel
theorem dX5_kinds_15 : decode cX5_kinds 15 = .ok (.aload_n 0, 1) := by decide +kernel
theorem dX5_kinds_16 : decode cX5_kinds 16 = .ok (.iload_n 1, 1) := by decide +kernel
theorem dX5_kinds_17 : decode cX5_kinds 17 = .ok (.iconst 0, 1) := by decide +kernel
theorem dX5_kinds_18 : decode cX5_kinds 18 = .ok (.iconst 2, 1) := by decide +kernel
theorem dX5_kinds_19 : decode cX5_kinds 19 = .ok (.invokevirtual 163, 3) := by decide +kernel
theorem dX5_kinds_22 : decode cX5_kinds 22 = .ok (.ireturn, 1) := by decide +kernel
set_option maxRecDepth 20000 in
theorem ggX5_odds_X4_layerAt : GoodIn wsX5_odds wsX4_layerAt := goodIn_r _ [8, 9, 10, 37, 38, 39, 40] (by decide +kernel) (by decide +kernel)
set_option maxRecDepth 20000 in
theorem gX5_odds_X4_layerAt : GoodIn wsX5_odds (wsV RX5 77 RX4 yX4_layerAt wsX4_layerAt) := goodIn_app (goodIn_of _ (by decide +kernel)) ggX5_odds_X4_layerAt
set_option maxRecDepth 20000 in
theorem ggX5_odds_X5_isUpTo : GoodIn wsX5_odds wsX5_isUpTo := goodIn_r _ [14] (by decide +kernel) (by decide +kernel)
set_option maxRecDepth 20000 in
theorem gX5_odds_X5_isUpTo : GoodIn wsX5_odds (va_wsS RX5 50 yX5_isUpTo wsX5_isUpTo) := goodIn_app (goodIn_of _ (by decide +kernel)) ggX5_odds_X5_isUpTo
set_option maxRecDepth 20000 in
theorem ggX5_odds_X4_heardBy : GoodIn wsX5_odds wsX4_heardBy := goodIn_r _ [18, 9, 10, 19, 20, 21, 22, 23, 24, 25, 26, 37, 38, 39, 40, 41, 42, 43] (by decide +kernel) (by decide +kernel)
set_option maxRecDepth 20000 in
theorem gX5_odds_X4_heardBy : GoodIn wsX5_odds (wsV RX5 102 RX4 yX4_heardBy wsX4_heardBy) := goodIn_app (goodIn_of _ (by decide +kernel)) ggX5_odds_X4_heardBy
set_option maxRecDepth 20000 in
theorem ggX5_odds_X5_greatestShared : GoodIn wsX5_odds wsX5_greatestShared := goodIn_r _ [29] (by decide +kernel) (by decide +kernel)
set_option maxRecDepth 20000 in
theorem gX5_odds_X5_greatestShared : GoodIn wsX5_odds (va_wsS RX5 169 yX5_greatestShared wsX5_greatestShared) := goodIn_app (goodIn_of _ (by decide +kernel)) ggX5_odds_X5_greatestShared
theorem dX5_odds_0 : decode cX5_odds 0 = .ok (.aload_n 0, 1) := by decide +kernel
theorem dX5_odds_1 : decode cX5_odds 1 = .ok (.getfield 12, 3) := by decide +kernel
theorem dX5_odds_4 : decode cX5_odds 4 = .ok (.iload_n 1, 1) := by decide +kernel
theorem dX5_odds_5 : decode cX5_odds 5 = .ok (.invokevirtual 77, 3) := by decide +kernel
theorem dX5_odds_8 : decode cX5_odds 8 = .ok (.ifnull 11, 3) := by decide +kernel
theorem dX5_odds_11 : decode cX5_odds 11 = .ok (.iload_n 2, 1) := by decide +kernel
theorem dX5_odds_12 : decode cX5_odds 12 = .ok (.iconst 1, 1) := by decide +kernel
theorem dX5_odds_13 : decode cX5_odds 13 = .ok (.invokestatic 50, 3) := by decide +kernel
theorem dX5_odds_16 : decode cX5_odds 16 = .ok (.ifCond .ne 7, 3) := by decide +kernel
theorem dX5_odds_19 : decode cX5_odds 19 = .ok (.ldc2_w 167, 3) := by decide +kernel
theorem dX5_odds_22 : decode cX5_odds 22 = .ok (.lreturn, 1) := by decide +kernel
theorem dX5_odds_23 : decode cX5_odds 23 = .ok (.bipush 21, 2) := by decide +kernel
theorem dX5_odds_25 : decode cX5_odds 25 = .ok (.istore_n 3, 1) := by decide +kernel
theorem dX5_odds_26 : decode cX5_odds 26 = .ok (.iconst 0, 1) := by decide +kernel
theorem dX5_odds_27 : decode cX5_odds 27 = .ok (.istore 4, 2) := by decide +kernel
theorem dX5_odds_29 : decode cX5_odds 29 = .ok (.iconst 0, 1) := by decide +kernel
theorem dX5_odds_30 : decode cX5_odds 30 = .ok (.istore 5, 2) := by decide +kernel
theorem dX5_odds_32 : decode cX5_odds 32 = .ok (.iload 5, 2) := by decide +kernel
theorem dX5_odds_34 : decode cX5_odds 34 = .ok (.bipush 20, 2) := by decide +kernel
theorem dX5_odds_36 : decode cX5_odds 36 = .ok (.if_icmp .gt 33, 3) := by decide +kernel
theorem dX5_odds_39 : decode cX5_odds 39 = .ok (.iload_n 1, 1) := by decide +kernel
theorem dX5_odds_40 : decode cX5_odds 40 = .ok (.aload_n 0, 1) := by decide +kernel
theorem dX5_odds_41 : decode cX5_odds 41 = .ok (.getfield 12, 3) := by decide +kernel
theorem dX5_odds_44 : decode cX5_odds 44 = .ok (.iload 5, 2) := by decide +kernel
theorem dX5_odds_46 : decode cX5_odds 46 = .ok (.aload_n 0, 1) := by decide +kernel
theorem dX5_odds_47 : decode cX5_odds 47 = .ok (.getfield 12, 3) := by decide +kernel
theorem dX5_odds_50 : decode cX5_odds 50 = .ok (.getfield 112, 3) := by decide +kernel
theorem dX5_odds_53 : decode cX5_odds 53 = .ok (.isub, 1) := by decide +kernel
theorem dX5_odds_54 : decode cX5_odds 54 = .ok (.invokevirtual 102, 3) := by decide +kernel
theorem dX5_odds_57 : decode cX5_odds 57 = .ok (.if_icmp .ge 6, 3) := by decide +kernel
theorem dX5_odds_60 : decode cX5_odds 60 = .ok (.iinc 4 1, 3) := by decide +kernel
theorem dX5_odds_63 : decode cX5_odds 63 = .ok (.iinc 5 1, 3) := by decide +kernel
theorem dX5_odds_66 : decode cX5_odds 66 = .ok (.goto (-34), 3) := by decide +kernel
theorem dX5_odds_69 : decode cX5_odds 69 = .ok (.iload 4, 2) := by decide +kernel
theorem dX5_odds_71 : decode cX5_odds 71 = .ok (.iload_n 3, 1) := by decide +kernel
theorem dX5_odds_72 : decode cX5_odds 72 = .ok (.invokestatic 169, 3) := by decide +kernel
theorem dX5_odds_75 : decode cX5_odds 75 = .ok (.istore 5, 2) := by decide +kernel
theorem dX5_odds_77 : decode cX5_odds 77 = .ok (.iload_n 2, 1) := by decide +kernel
theorem dX5_odds_78 : decode cX5_odds 78 = .ok (.ifCond .ne 12, 3) := by decide +kernel
theorem dX5_odds_81 : decode cX5_odds 81 = .ok (.iload 4, 2) := by decide +kernel
theorem dX5_odds_83 : decode cX5_odds 83 = .ok (.iload 5, 2) := by decide +kernel
theorem dX5_odds_85 : decode cX5_odds 85 = .ok (.idiv, 1) := by decide +kernel
theorem dX5_odds_86 : decode cX5_odds 86 = .ok (.i2l, 1) := by decide +kernel
theorem dX5_odds_87 : decode cX5_odds 87 = .ok (.goto 8, 3) := by decide +kernel
theorem dX5_odds_90 : decode cX5_odds 90 = .ok (.iload_n 3, 1) := by decide +kernel
theorem dX5_odds_91 : decode cX5_odds 91 = .ok (.iload 5, 2) := by decide +kernel
theorem dX5_odds_93 : decode cX5_odds 93 = .ok (.idiv, 1) := by decide +kernel
theorem dX5_odds_94 : decode cX5_odds 94 = .ok (.i2l, 1) := by decide +kernel
theorem dX5_odds_95 : decode cX5_odds 95 = .ok (.lreturn, 1) := by decide +kernel
set_option maxRecDepth 20000 in
theorem ggX5_sheet_X5_sheetAt : GoodIn wsX5_sheet wsX5_sheetAt := goodIn_r _ [6, 7, 8, 9, 5, 10, 31, 32, 33, 34, 35, 36, 37] (by decide +kernel) (by decide +kernel)
set_option maxRecDepth 20000 in
theorem gX5_sheet_X5_sheetAt : GoodIn wsX5_sheet (wsV RX5 46 RX5 yX5_sheetAt wsX5_sheetAt) := goodIn_app (goodIn_of _ (by decide +kernel)) ggX5_sheet_X5_sheetAt
set_option maxRecDepth 20000 in
theorem ggX5_sheet_X5_isUpTo : GoodIn wsX5_sheet wsX5_isUpTo := goodIn_r _ [10] (by decide +kernel) (by decide +kernel)
set_option maxRecDepth 20000 in
theorem gX5_sheet_X5_isUpTo : GoodIn wsX5_sheet (va_wsS RX5 50 yX5_isUpTo wsX5_isUpTo) := goodIn_app (goodIn_of _ (by decide +kernel)) ggX5_sheet_X5_isUpTo
set_option maxRecDepth 20000 in
theorem ggX5_sheet_X5_failed : GoodIn wsX5_sheet wsX5_failed := goodIn_r _ [14, 1, 31, 32, 33, 34, 35, 36, 37] (by decide +kernel) (by decide +kernel)
set_option maxRecDepth 20000 in
theorem gX5_sheet_X5_failed : GoodIn wsX5_sheet (wsV RX5 62 RX5 yX5_failed wsX5_failed) := goodIn_app (goodIn_of _ (by decide +kernel)) ggX5_sheet_X5_failed
set_option maxRecDepth 20000 in
theorem ggX5_sheet_X3_begin : GoodIn wsX5_sheet wsX3_begin := goodIn_r _ [19, 20, 21, 22, 23, 24, 25, 26, 27, 28, 29, 30, 38, 39, 40, 41] (by decide +kernel) (by decide +kernel)
set_option maxRecDepth 20000 in
theorem gX5_sheet_X3_begin : GoodIn wsX5_sheet (wsV RX5 172 RX3 yX3_begin wsX3_begin) := goodIn_app (goodIn_of _ (by decide +kernel)) ggX5_sheet_X3_begin
theorem dX5_sheet_0 : decode cX5_sheet 0 = .ok (.aload_n 0, 1) := by decide +kernel
theorem dX5_sheet_1 : decode cX5_sheet 1 = .ok (.iconst 0, 1) := by decide +kernel
theorem dX5_sheet_2 : decode cX5_sheet 2 = .ok (.putfield 42, 3) := by decide +kernel
theorem dX5_sheet_5 : decode cX5_sheet 5 = .ok (.aload_n 0, 1) := by decide +kernel
theorem dX5_sheet_6 : decode cX5_sheet 6 = .ok (.iload_n 1, 1) := by decide +kernel
theorem dX5_sheet_7 : decode cX5_sheet 7 = .ok (.invokevirtual 46, 3) := by decide +kernel
theorem dX5_sheet_10 : decode cX5_sheet 10 = .ok (.astore 4, 2) := by decide +kernel
theorem dX5_sheet_12 : decode cX5_sheet 12 = .ok (.aload 4, 2) := by decide +kernel
theorem dX5_sheet_14 : decode cX5_sheet 14 = .ok (.ifnonnull 5, 3) := by decide +kernel
theorem dX5_sheet_17 : decode cX5_sheet 17 = .ok (.iconst (-1), 1) := by decide +kernel
theorem dX5_sheet_18 : decode cX5_sheet 18 = .ok (.ireturn, 1) := by decide +kernel
theorem dX5_sheet_19 : decode cX5_sheet 19 = .ok (.iload_n 2, 1) := by decide +kernel
theorem dX5_sheet_20 : decode cX5_sheet 20 = .ok (.iconst 2, 1) := by decide +kernel
theorem dX5_sheet_21 : decode cX5_sheet 21 = .ok (.invokestatic 50, 3) := by decide +kernel
theorem dX5_sheet_24 : decode cX5_sheet 24 = .ok (.ifCond .eq 9, 3) := by decide +kernel
theorem dX5_sheet_27 : decode cX5_sheet 27 = .ok (.iload_n 3, 1) := by decide +kernel
theorem dX5_sheet_28 : decode cX5_sheet 28 = .ok (.bipush 60, 2) := by decide +kernel
theorem dX5_sheet_30 : decode cX5_sheet 30 = .ok (.if_icmp .le 6, 3) := by decide +kernel
theorem dX5_sheet_33 : decode cX5_sheet 33 = .ok (.bipush (-2), 2) := by decide +kernel
theorem dX5_sheet_35 : decode cX5_sheet 35 = .ok (.ireturn, 1) := by decide +kernel
theorem dX5_sheet_36 : decode cX5_sheet 36 = .ok (.iload_n 3, 1) := by decide +kernel
theorem dX5_sheet_37 : decode cX5_sheet 37 = .ok (.ifCond .ge 9, 3) := by decide +kernel
theorem dX5_sheet_40 : decode cX5_sheet 40 = .ok (.aload_n 0, 1) := by decide +kernel
theorem dX5_sheet_41 : decode cX5_sheet 41 = .ok (.iconst 4, 1) := by decide +kernel
theorem dX5_sheet_42 : decode cX5_sheet 42 = .ok (.invokevirtual 62, 3) := by decide +kernel
theorem dX5_sheet_45 : decode cX5_sheet 45 = .ok (.ireturn, 1) := by decide +kernel
theorem dX5_sheet_46 : decode cX5_sheet 46 = .ok (.aload 4, 2) := by decide +kernel
theorem dX5_sheet_48 : decode cX5_sheet 48 = .ok (.iload_n 2, 1) := by decide +kernel
theorem dX5_sheet_49 : decode cX5_sheet 49 = .ok (.iload_n 3, 1) := by decide +kernel
theorem dX5_sheet_50 : decode cX5_sheet 50 = .ok (.invokevirtual 172, 3) := by decide +kernel
theorem dX5_sheet_53 : decode cX5_sheet 53 = .ok (.iconst 1, 1) := by decide +kernel
theorem dX5_sheet_54 : decode cX5_sheet 54 = .ok (.ireturn, 1) := by decide +kernel
set_option maxRecDepth 20000 in
theorem ggX5_lose_X5_sheetAt : GoodIn wsX5_lose wsX5_sheetAt := goodIn_r _ [6, 7, 8, 9, 5, 10, 15, 16, 17, 18, 19, 20, 21] (by decide +kernel) (by decide +kernel)
set_option maxRecDepth 20000 in
theorem gX5_lose_X5_sheetAt : GoodIn wsX5_lose (wsV RX5 46 RX5 yX5_sheetAt wsX5_sheetAt) := goodIn_app (goodIn_of _ (by decide +kernel)) ggX5_lose_X5_sheetAt
theorem dX5_lose_0 : decode cX5_lose 0 = .ok (.aload_n 0, 1) := by decide +kernel
theorem dX5_lose_1 : decode cX5_lose 1 = .ok (.iload_n 1, 1) := by decide +kernel
theorem dX5_lose_2 : decode cX5_lose 2 = .ok (.invokevirtual 46, 3) := by decide +kernel
theorem dX5_lose_5 : decode cX5_lose 5 = .ok (.astore_n 2, 1) := by decide +kernel
theorem dX5_lose_6 : decode cX5_lose 6 = .ok (.aload_n 2, 1) := by decide +kernel
theorem dX5_lose_7 : decode cX5_lose 7 = .ok (.ifnonnull 5, 3) := by decide +kernel
theorem dX5_lose_10 : decode cX5_lose 10 = .ok (.iconst (-1), 1) := by decide +kernel
theorem dX5_lose_11 : decode cX5_lose 11 = .ok (.ireturn, 1) := by decide +kernel
theorem dX5_lose_12 : decode cX5_lose 12 = .ok (.aload_n 2, 1) := by decide +kernel
theorem dX5_lose_13 : decode cX5_lose 13 = .ok (.getfield 176, 3) := by decide +kernel
theorem dX5_lose_16 : decode cX5_lose 16 = .ok (.ifCond .eq 7, 3) := by decide +kernel
theorem dX5_lose_19 : decode cX5_lose 19 = .ok (.iconst 1, 1) := by decide +kernel
theorem dX5_lose_20 : decode cX5_lose 20 = .ok (.goto 4, 3) := by decide +kernel
theorem dX5_lose_23 : decode cX5_lose 23 = .ok (.iconst 0, 1) := by decide +kernel
theorem dX5_lose_24 : decode cX5_lose 24 = .ok (.istore_n 3, 1) := by decide +kernel
theorem dX5_lose_25 : decode cX5_lose 25 = .ok (.aload_n 2, 1) := by decide +kernel
theorem dX5_lose_26 : decode cX5_lose 26 = .ok (.iconst 0, 1) := by decide +kernel
theorem dX5_lose_27 : decode cX5_lose 27 = .ok (.putfield 176, 3) := by decide +kernel
theorem dX5_lose_30 : decode cX5_lose 30 = .ok (.iload_n 3, 1) := by decide +kernel
theorem dX5_lose_31 : decode cX5_lose 31 = .ok (.ireturn, 1) := by decide +kernel
set_option maxRecDepth 20000 in
theorem ggX5_put_X5_sheetAt : GoodIn wsX5_put wsX5_sheetAt := goodIn_r _ [6, 7, 8, 9, 5, 10, 32, 33, 34, 35, 36, 37, 38] (by decide +kernel) (by decide +kernel)
set_option maxRecDepth 20000 in
theorem gX5_put_X5_sheetAt : GoodIn wsX5_put (wsV RX5 46 RX5 yX5_sheetAt wsX5_sheetAt) := goodIn_app (goodIn_of _ (by decide +kernel)) ggX5_put_X5_sheetAt
set_option maxRecDepth 20000 in
theorem ggX5_put_X3_faultOfCell : GoodIn wsX5_put wsX3_faultOfCell := goodIn_r _ [15, 16, 17, 39, 40, 41, 42] (by decide +kernel) (by decide +kernel)
set_option maxRecDepth 20000 in
theorem gX5_put_X3_faultOfCell : GoodIn wsX5_put (wsV RX5 180 RX3 yX3_faultOfCell wsX3_faultOfCell) := goodIn_app (goodIn_of _ (by decide +kernel)) ggX5_put_X3_faultOfCell
set_option maxRecDepth 20000 in
theorem ggX5_put_X5_failed : GoodIn wsX5_put wsX5_failed := goodIn_r _ [21, 1, 32, 33, 34, 35, 36, 37, 38] (by decide +kernel) (by decide +kernel)
set_option maxRecDepth 20000 in
theorem gX5_put_X5_failed : GoodIn wsX5_put (wsV RX5 62 RX5 yX5_failed wsX5_failed) := goodIn_app (goodIn_of _ (by decide +kernel)) ggX5_put_X5_failed
set_option maxRecDepth 20000 in
theorem ggX5_put_X3_setCell : GoodIn wsX5_put wsX3_setCell := goodIn_r _ [25, 17, 26, 27, 28, 29, 14, 30, 31, 39, 40, 41, 42] (by decide +kernel) (by decide +kernel)
set_option maxRecDepth 20000 in
theorem gX5_put_X3_setCell : GoodIn wsX5_put (wsV RX5 183 RX3 yX3_setCell wsX3_setCell) := goodIn_app (goodIn_of _ (by decide +kernel)) ggX5_put_X3_setCell
theorem dX5_put_0 : decode cX5_put 0 = .ok (.aload_n 0, 1) := by decide +kernel
theorem dX5_put_1 : decode cX5_put 1 = .ok (.iconst 0, 1) := by decide +kernel
theorem dX5_put_2 : decode cX5_put 2 = .ok (.putfield 42, 3) := by decide +kernel
theorem dX5_put_5 : decode cX5_put 5 = .ok (.aload_n 0, 1) := by decide +kernel
theorem dX5_put_6 : decode cX5_put 6 = .ok (.iload_n 1, 1) := by decide +kernel
theorem dX5_put_7 : decode cX5_put 7 = .ok (.invokevirtual 46, 3) := by decide +kernel
theorem dX5_put_10 : decode cX5_put 10 = .ok (.astore 4, 2) := by decide +kernel
theorem dX5_put_12 : decode cX5_put 12 = .ok (.aload 4, 2) := by decide +kernel
theorem dX5_put_14 : decode cX5_put 14 = .ok (.ifnonnull 5, 3) := by decide +kernel
theorem dX5_put_17 : decode cX5_put 17 = .ok (.iconst (-1), 1) := by decide +kernel
theorem dX5_put_18 : decode cX5_put 18 = .ok (.ireturn, 1) := by decide +kernel
theorem dX5_put_19 : decode cX5_put 19 = .ok (.aload 4, 2) := by decide +kernel
theorem dX5_put_21 : decode cX5_put 21 = .ok (.iload_n 2, 1) := by decide +kernel
theorem dX5_put_22 : decode cX5_put 22 = .ok (.invokevirtual 180, 3) := by decide +kernel
theorem dX5_put_25 : decode cX5_put 25 = .ok (.istore 5, 2) := by decide +kernel
theorem dX5_put_27 : decode cX5_put 27 = .ok (.iload 5, 2) := by decide +kernel
theorem dX5_put_29 : decode cX5_put 29 = .ok (.ifCond .eq 10, 3) := by decide +kernel
theorem dX5_put_32 : decode cX5_put 32 = .ok (.aload_n 0, 1) := by decide +kernel
theorem dX5_put_33 : decode cX5_put 33 = .ok (.iload 5, 2) := by decide +kernel
theorem dX5_put_35 : decode cX5_put 35 = .ok (.invokevirtual 62, 3) := by decide +kernel
theorem dX5_put_38 : decode cX5_put 38 = .ok (.ireturn, 1) := by decide +kernel
theorem dX5_put_39 : decode cX5_put 39 = .ok (.aload 4, 2) := by decide +kernel
theorem dX5_put_41 : decode cX5_put 41 = .ok (.iload_n 2, 1) := by decide +kernel
theorem dX5_put_42 : decode cX5_put 42 = .ok (.iload_n 3, 1) := by decide +kernel
theorem dX5_put_43 : decode cX5_put 43 = .ok (.invokevirtual 183, 3) := by decide +kernel
theorem dX5_put_46 : decode cX5_put 46 = .ok (.iconst 1, 1) := by decide +kernel
theorem dX5_put_47 : decode cX5_put 47 = .ok (.ireturn, 1) := by decide +kernel
set_option maxRecDepth 20000 in
theorem ggX5_cell_X5_sheetAt : GoodIn wsX5_cell wsX5_sheetAt := goodIn_r _ [7, 8, 9, 10, 6, 11, 29, 30, 31, 32, 33, 34, 35] (by decide +kernel) (by decide +kernel)
set_option maxRecDepth 20000 in
theorem gX5_cell_X5_sheetAt : GoodIn wsX5_cell (wsV RX5 46 RX5 yX5_sheetAt wsX5_sheetAt) := goodIn_app (goodIn_of _ (by decide +kernel)) ggX5_cell_X5_sheetAt
set_option maxRecDepth 20000 in
theorem ggX5_cell_X5_isUpTo : GoodIn wsX5_cell wsX5_isUpTo := goodIn_r _ [11] (by decide +kernel) (by decide +kernel)
set_option maxRecDepth 20000 in
theorem gX5_cell_X5_isUpTo : GoodIn wsX5_cell (va_wsS RX5 50 yX5_isUpTo wsX5_isUpTo) := goodIn_app (goodIn_of _ (by decide +kernel)) ggX5_cell_X5_isUpTo
set_option maxRecDepth 20000 in
theorem ggX5_cell_X3_faultAsLane : GoodIn wsX5_cell wsX3_faultAsLane := goodIn_r _ [16, 17, 18, 36, 37, 38, 39] (by decide +kernel) (by decide +kernel)
set_option maxRecDepth 20000 in
theorem gX5_cell_X3_faultAsLane : GoodIn wsX5_cell (wsV RX5 54 RX3 yX3_faultAsLane wsX3_faultAsLane) := goodIn_app (goodIn_of _ (by decide +kernel)) ggX5_cell_X3_faultAsLane
set_option maxRecDepth 20000 in
theorem ggX5_cell_X3_faultOfCell : GoodIn wsX5_cell wsX3_faultOfCell := goodIn_r _ [22, 17, 23, 36, 37, 38, 39] (by decide +kernel) (by decide +kernel)
set_option maxRecDepth 20000 in
theorem gX5_cell_X3_faultOfCell : GoodIn wsX5_cell (wsV RX5 180 RX3 yX3_faultOfCell wsX3_faultOfCell) := goodIn_app (goodIn_of _ (by decide +kernel)) ggX5_cell_X3_faultOfCell
set_option maxRecDepth 20000 in
theorem ggX5_cell_X3_getCell : GoodIn wsX5_cell wsX3_getCell := goodIn_r _ [27, 23, 28, 36, 37, 38, 39] (by decide +kernel) (by decide +kernel)
set_option maxRecDepth 20000 in
theorem gX5_cell_X3_getCell : GoodIn wsX5_cell (wsV RX5 186 RX3 yX3_getCell wsX3_getCell) := goodIn_app (goodIn_of _ (by decide +kernel)) ggX5_cell_X3_getCell
theorem dX5_cell_0 : decode cX5_cell 0 = .ok (.aload_n 0, 1) := by decide +kernel
theorem dX5_cell_1 : decode cX5_cell 1 = .ok (.iconst 0, 1) := by decide +kernel
theorem dX5_cell_2 : decode cX5_cell 2 = .ok (.putfield 42, 3) := by decide +kernel
theorem dX5_cell_5 : decode cX5_cell 5 = .ok (.aload_n 0, 1) := by decide +kernel
theorem dX5_cell_6 : decode cX5_cell 6 = .ok (.iload_n 1, 1) := by decide +kernel
theorem dX5_cell_7 : decode cX5_cell 7 = .ok (.invokevirtual 46, 3) := by decide +kernel
theorem dX5_cell_10 : decode cX5_cell 10 = .ok (.astore 4, 2) := by decide +kernel
theorem dX5_cell_12 : decode cX5_cell 12 = .ok (.aload 4, 2) := by decide +kernel
theorem dX5_cell_14 : decode cX5_cell 14 = .ok (.ifnull 11, 3) := by decide +kernel
theorem dX5_cell_17 : decode cX5_cell 17 = .ok (.iload_n 3, 1) := by decide +kernel
theorem dX5_cell_18 : decode cX5_cell 18 = .ok (.iconst 2, 1) := by decide +kernel
theorem dX5_cell_19 : decode cX5_cell 19 = .ok (.invokestatic 50, 3) := by decide +kernel
theorem dX5_cell_22 : decode cX5_cell 22 = .ok (.ifCond .ne 7, 3) := by decide +kernel
theorem dX5_cell_25 : decode cX5_cell 25 = .ok (.ldc2_w 167, 3) := by decide +kernel
theorem dX5_cell_28 : decode cX5_cell 28 = .ok (.lreturn, 1) := by decide +kernel
theorem dX5_cell_29 : decode cX5_cell 29 = .ok (.aload 4, 2) := by decide +kernel
theorem dX5_cell_31 : decode cX5_cell 31 = .ok (.iload_n 3, 1) := by decide +kernel
theorem dX5_cell_32 : decode cX5_cell 32 = .ok (.invokevirtual 54, 3) := by decide +kernel
theorem dX5_cell_35 : decode cX5_cell 35 = .ok (.istore 5, 2) := by decide +kernel
theorem dX5_cell_37 : decode cX5_cell 37 = .ok (.iload 5, 2) := by decide +kernel
theorem dX5_cell_39 : decode cX5_cell 39 = .ok (.ifCond .ne 11, 3) := by decide +kernel
theorem dX5_cell_42 : decode cX5_cell 42 = .ok (.aload 4, 2) := by decide +kernel
theorem dX5_cell_44 : decode cX5_cell 44 = .ok (.iload_n 2, 1) := by decide +kernel
theorem dX5_cell_45 : decode cX5_cell 45 = .ok (.invokevirtual 180, 3) := by decide +kernel
theorem dX5_cell_48 : decode cX5_cell 48 = .ok (.istore 5, 2) := by decide +kernel
theorem dX5_cell_50 : decode cX5_cell 50 = .ok (.iload 5, 2) := by decide +kernel
theorem dX5_cell_52 : decode cX5_cell 52 = .ok (.ifCond .eq 13, 3) := by decide +kernel
theorem dX5_cell_55 : decode cX5_cell 55 = .ok (.aload_n 0, 1) := by decide +kernel
theorem dX5_cell_56 : decode cX5_cell 56 = .ok (.iload 5, 2) := by decide +kernel
theorem dX5_cell_58 : decode cX5_cell 58 = .ok (.putfield 42, 3) := by decide +kernel
theorem dX5_cell_61 : decode cX5_cell 61 = .ok (.ldc2_w 167, 3) := by decide +kernel
theorem dX5_cell_64 : decode cX5_cell 64 = .ok (.lreturn, 1) := by decide +kernel
theorem dX5_cell_65 : decode cX5_cell 65 = .ok (.aload 4, 2) := by decide +kernel
theorem dX5_cell_67 : decode cX5_cell 67 = .ok (.iload_n 2, 1) := by decide +kernel
theorem dX5_cell_68 : decode cX5_cell 68 = .ok (.invokevirtual 186, 3) := by decide +kernel
theorem dX5_cell_71 : decode cX5_cell 71 = .ok (.i2l, 1) := by decide +kernel
theorem dX5_cell_72 : decode cX5_cell 72 = .ok (.lreturn, 1) := by decide +kernel
set_option maxRecDepth 20000 in
theorem ggX5_copy_X5_sheetAt : GoodIn wsX5_copy wsX5_sheetAt := goodIn_r _ [11, 12, 13, 14, 10, 15, 32, 33, 34, 35, 36, 37, 38] (by decide +kernel) (by decide +kernel)
set_option maxRecDepth 20000 in
theorem gX5_copy_X5_sheetAt : GoodIn wsX5_copy (wsV RX5 46 RX5 yX5_sheetAt wsX5_sheetAt) := goodIn_app (goodIn_of _ (by decide +kernel)) ggX5_copy_X5_sheetAt
set_option maxRecDepth 20000 in
theorem ggX5_copy_X3_faultOfCopy : GoodIn wsX5_copy wsX3_faultOfCopy := goodIn_r _ [20, 21, 22, 23, 24, 25, 19, 26, 27, 39, 40, 41, 42] (by decide +kernel) (by decide +kernel)
set_option maxRecDepth 20000 in
theorem gX5_copy_X3_faultOfCopy : GoodIn wsX5_copy (wsV RX5 189 RX3 yX3_faultOfCopy wsX3_faultOfCopy) := goodIn_app (goodIn_of _ (by decide +kernel)) ggX5_copy_X3_faultOfCopy
set_option maxRecDepth 20000 in
theorem ggX5_copy_X5_failed : GoodIn wsX5_copy wsX5_failed := goodIn_r _ [31, 1, 32, 33, 34, 35, 36, 37, 38] (by decide +kernel) (by decide +kernel)
set_option maxRecDepth 20000 in
theorem gX5_copy_X5_failed : GoodIn wsX5_copy (wsV RX5 62 RX5 yX5_failed wsX5_failed) := goodIn_app (goodIn_of _ (by decide +kernel)) ggX5_copy_X5_failed
theorem dX5_copy_0 : decode cX5_copy 0 = .ok (.aload_n 0, 1) := by decide +kernel
theorem dX5_copy_1 : decode cX5_copy 1 = .ok (.iconst 0, 1) := by decide +kernel
theorem dX5_copy_2 : decode cX5_copy 2 = .ok (.putfield 42, 3) := by decide +kernel
theorem dX5_copy_5 : decode cX5_copy 5 = .ok (.aload_n 0, 1) := by decide +kernel
theorem dX5_copy_6 : decode cX5_copy 6 = .ok (.iload_n 1, 1) := by decide +kernel
theorem dX5_copy_7 : decode cX5_copy 7 = .ok (.invokevirtual 46, 3) := by decide +kernel
theorem dX5_copy_10 : decode cX5_copy 10 = .ok (.astore 6, 2) := by decide +kernel
theorem dX5_copy_12 : decode cX5_copy 12 = .ok (.aload_n 0, 1) := by decide +kernel
theorem dX5_copy_13 : decode cX5_copy 13 = .ok (.iload_n 3, 1) := by decide +kernel
theorem dX5_copy_14 : decode cX5_copy 14 = .ok (.invokevirtual 46, 3) := by decide +kernel
theorem dX5_copy_17 : decode cX5_copy 17 = .ok (.astore 7, 2) := by decide +kernel
theorem dX5_copy_19 : decode cX5_copy 19 = .ok (.aload 6, 2) := by decide +kernel
theorem dX5_copy_21 : decode cX5_copy 21 = .ok (.ifnull 8, 3) := by decide +kernel
theorem dX5_copy_24 : decode cX5_copy 24 = .ok (.aload 7, 2) := by decide +kernel
theorem dX5_copy_26 : decode cX5_copy 26 = .ok (.ifnonnull 5, 3) := by decide +kernel
theorem dX5_copy_29 : decode cX5_copy 29 = .ok (.iconst (-1), 1) := by decide +kernel
theorem dX5_copy_30 : decode cX5_copy 30 = .ok (.ireturn, 1) := by decide +kernel
theorem dX5_copy_31 : decode cX5_copy 31 = .ok (.aload 6, 2) := by decide +kernel
theorem dX5_copy_33 : decode cX5_copy 33 = .ok (.iload_n 2, 1) := by decide +kernel
theorem dX5_copy_34 : decode cX5_copy 34 = .ok (.aload 7, 2) := by decide +kernel
theorem dX5_copy_36 : decode cX5_copy 36 = .ok (.iload 4, 2) := by decide +kernel
theorem dX5_copy_38 : decode cX5_copy 38 = .ok (.iload 5, 2) := by decide +kernel
theorem dX5_copy_40 : decode cX5_copy 40 = .ok (.invokevirtual 189, 3) := by decide +kernel
theorem dX5_copy_43 : decode cX5_copy 43 = .ok (.istore 8, 2) := by decide +kernel
theorem dX5_copy_45 : decode cX5_copy 45 = .ok (.iload 8, 2) := by decide +kernel
theorem dX5_copy_47 : decode cX5_copy 47 = .ok (.ifCond .eq 10, 3) := by decide +kernel
theorem dX5_copy_50 : decode cX5_copy 50 = .ok (.aload_n 0, 1) := by decide +kernel
theorem dX5_copy_51 : decode cX5_copy 51 = .ok (.iload 8, 2) := by decide +kernel
theorem dX5_copy_53 : decode cX5_copy 53 = .ok (.invokevirtual 62, 3) := by decide +kernel
theorem dX5_copy_56 : decode cX5_copy 56 = .ok (.ireturn, 1) := by decide +kernel
theorem dX5_copy_57 : decode cX5_copy 57 = .ok (.aload 6, 2) := by decide +kernel
theorem dX5_copy_59 : decode cX5_copy 59 = .ok (.getfield 193, 3) := by decide +kernel
theorem dX5_copy_62 : decode cX5_copy 62 = .ok (.iload_n 2, 1) := by decide +kernel
theorem dX5_copy_63 : decode cX5_copy 63 = .ok (.aload 7, 2) := by decide +kernel
theorem dX5_copy_65 : decode cX5_copy 65 = .ok (.getfield 193, 3) := by decide +kernel
theorem dX5_copy_68 : decode cX5_copy 68 = .ok (.iload 4, 2) := by decide +kernel
theorem dX5_copy_70 : decode cX5_copy 70 = .ok (.iload 5, 2) := by decide +kernel
theorem dX5_copy_72 : decode cX5_copy 72 = .ok (.invokestatic 197, 3) := by decide +kernel
theorem dX5_copy_75 : decode cX5_copy 75 = .ok (.iload 5, 2) := by decide +kernel
theorem dX5_copy_77 : decode cX5_copy 77 = .ok (.ireturn, 1) := by decide +kernel
set_option maxRecDepth 20000 in
theorem ggX5_tell_X4_layerAt : GoodIn wsX5_tell wsX4_layerAt := goodIn_r _ [7, 8, 9, 39, 40, 41, 42] (by decide +kernel) (by decide +kernel)
set_option maxRecDepth 20000 in
theorem gX5_tell_X4_layerAt : GoodIn wsX5_tell (wsV RX5 77 RX4 yX4_layerAt wsX4_layerAt) := goodIn_app (goodIn_of _ (by decide +kernel)) ggX5_tell_X4_layerAt
set_option maxRecDepth 20000 in
theorem ggX5_tell_X5_tellRed : GoodIn wsX5_tell wsX5_tellRed := goodIn_r _ [14, 15, 16, 17, 13, 18, 19, 20, 21, 22, 23, 24, 25, 26, 27, 28, 29, 30, 31, 32, 33, 34, 35, 36, 37, 38] (by decide +kernel) (by decide +kernel)
set_option maxRecDepth 20000 in
theorem gX5_tell_X5_tellRed : GoodIn wsX5_tell (wsV RX5 203 RX5 yX5_tellRed wsX5_tellRed) := goodIn_app (goodIn_of _ (by decide +kernel)) ggX5_tell_X5_tellRed
set_option maxRecDepth 20000 in
theorem ggX5_tell_X5_tellTrellis : GoodIn wsX5_tell wsX5_tellTrellis := goodIn_r _ [23, 15, 16, 17, 13, 18, 19, 24, 25, 26, 27, 28, 29, 30, 31, 32, 33, 34, 35, 36, 37, 38] (by decide +kernel) (by decide +kernel)
set_option maxRecDepth 20000 in
theorem gX5_tell_X5_tellTrellis : GoodIn wsX5_tell (wsV RX5 207 RX5 yX5_tellTrellis wsX5_tellTrellis) := goodIn_app (goodIn_of _ (by decide +kernel)) ggX5_tell_X5_tellTrellis
set_option maxRecDepth 20000 in
theorem ggX5_tell_X5_tellStripe : GoodIn wsX5_tell wsX5_tellStripe := goodIn_r _ [27, 28, 15, 16, 17, 13, 18, 19, 36, 37, 38, 29, 30, 31, 32, 33, 34, 35] (by decide +kernel) (by decide +kernel)
set_option maxRecDepth 20000 in
theorem gX5_tell_X5_tellStripe : GoodIn wsX5_tell (wsV RX5 210 RX5 yX5_tellStripe wsX5_tellStripe) := goodIn_app (goodIn_of _ (by decide +kernel)) ggX5_tell_X5_tellStripe
theorem dX5_tell_0 : decode cX5_tell 0 = .ok (.aload_n 0, 1) := by decide +kernel
theorem dX5_tell_1 : decode cX5_tell 1 = .ok (.getfield 12, 3) := by decide +kernel
theorem dX5_tell_4 : decode cX5_tell 4 = .ok (.iload_n 1, 1) := by decide +kernel
theorem dX5_tell_5 : decode cX5_tell 5 = .ok (.invokevirtual 77, 3) := by decide +kernel
theorem dX5_tell_8 : decode cX5_tell 8 = .ok (.astore_n 2, 1) := by decide +kernel
theorem dX5_tell_9 : decode cX5_tell 9 = .ok (.aload_n 2, 1) := by decide +kernel
theorem dX5_tell_10 : decode cX5_tell 10 = .ok (.ifnonnull 5, 3) := by decide +kernel
theorem dX5_tell_13 : decode cX5_tell 13 = .ok (.iconst (-1), 1) := by decide +kernel
theorem dX5_tell_14 : decode cX5_tell 14 = .ok (.ireturn, 1) := by decide +kernel
theorem dX5_tell_15 : decode cX5_tell 15 = .ok (.aload_n 2, 1) := by decide +kernel
theorem dX5_tell_16 : decode cX5_tell 16 = .ok (.getfield 81, 3) := by decide +kernel
theorem dX5_tell_19 : decode cX5_tell 19 = .ok (.lookupswitch 37 #[(1, 31), (2, 25)], 25) := by decide +kernel
theorem dX5_tell_44 : decode cX5_tell 44 = .ok (.aload_n 0, 1) := by decide +kernel
theorem dX5_tell_45 : decode cX5_tell 45 = .ok (.aload_n 2, 1) := by decide +kernel
theorem dX5_tell_46 : decode cX5_tell 46 = .ok (.invokevirtual 203, 3) := by decide +kernel
theorem dX5_tell_49 : decode cX5_tell 49 = .ok (.ireturn, 1) := by decide +kernel
theorem dX5_tell_50 : decode cX5_tell 50 = .ok (.aload_n 0, 1) := by decide +kernel
theorem dX5_tell_51 : decode cX5_tell 51 = .ok (.aload_n 2, 1) := by decide +kernel
theorem dX5_tell_52 : decode cX5_tell 52 = .ok (.invokevirtual 207, 3) := by decide +kernel
theorem dX5_tell_55 : decode cX5_tell 55 = .ok (.ireturn, 1) := by decide +kernel
theorem dX5_tell_56 : decode cX5_tell 56 = .ok (.aload_n 0, 1) := by decide +kernel
theorem dX5_tell_57 : decode cX5_tell 57 = .ok (.aload_n 2, 1) := by decide +kernel
theorem dX5_tell_58 : decode cX5_tell 58 = .ok (.invokevirtual 210, 3) := by decide +kernel
theorem dX5_tell_61 : decode cX5_tell 61 = .ok (.ireturn, 1) := by decide +kernel
set_option maxRecDepth 20000 in
theorem ggX5_stroke_X4_layerAt : GoodIn wsX5_stroke wsX4_layerAt := goodIn_r _ [7, 8, 9, 35, 36, 37, 38] (by decide +kernel) (by decide +kernel)
set_option maxRecDepth 20000 in
theorem gX5_stroke_X4_layerAt : GoodIn wsX5_stroke (wsV RX5 77 RX4 yX4_layerAt wsX4_layerAt) := goodIn_app (goodIn_of _ (by decide +kernel)) ggX5_stroke_X4_layerAt
set_option maxRecDepth 20000 in
theorem ggX5_stroke_X5_strokeRed : GoodIn wsX5_stroke wsX5_strokeRed := goodIn_r _ [14, 15, 16, 17, 13, 18, 19, 25, 26, 27, 28, 29, 30, 31] (by decide +kernel) (by decide +kernel)
set_option maxRecDepth 20000 in
theorem gX5_stroke_X5_strokeRed : GoodIn wsX5_stroke (wsV RX5 213 RX5 yX5_strokeRed wsX5_strokeRed) := goodIn_app (goodIn_of _ (by decide +kernel)) ggX5_stroke_X5_strokeRed
set_option maxRecDepth 20000 in
theorem ggX5_stroke_X5_strokeLent : GoodIn wsX5_stroke wsX5_strokeLent := goodIn_r _ [23, 24, 15, 16, 17, 13, 18, 19, 32, 33, 34, 25, 26, 27, 28, 29, 30, 31] (by decide +kernel) (by decide +kernel)
set_option maxRecDepth 20000 in
theorem gX5_stroke_X5_strokeLent : GoodIn wsX5_stroke (wsV RX5 216 RX5 yX5_strokeLent wsX5_strokeLent) := goodIn_app (goodIn_of _ (by decide +kernel)) ggX5_stroke_X5_strokeLent
theorem dX5_stroke_0 : decode cX5_stroke 0 = .ok (.aload_n 0, 1) := by decide +kernel
theorem dX5_stroke_1 : decode cX5_stroke 1 = .ok (.getfield 12, 3) := by decide +kernel
theorem dX5_stroke_4 : decode cX5_stroke 4 = .ok (.iload_n 1, 1) := by decide +kernel
theorem dX5_stroke_5 : decode cX5_stroke 5 = .ok (.invokevirtual 77, 3) := by decide +kernel
theorem dX5_stroke_8 : decode cX5_stroke 8 = .ok (.astore_n 2, 1) := by decide +kernel
theorem dX5_stroke_9 : decode cX5_stroke 9 = .ok (.aload_n 2, 1) := by decide +kernel
theorem dX5_stroke_10 : decode cX5_stroke 10 = .ok (.ifnonnull 5, 3) := by decide +kernel
theorem dX5_stroke_13 : decode cX5_stroke 13 = .ok (.iconst (-1), 1) := by decide +kernel
theorem dX5_stroke_14 : decode cX5_stroke 14 = .ok (.ireturn, 1) := by decide +kernel
theorem dX5_stroke_15 : decode cX5_stroke 15 = .ok (.aload_n 2, 1) := by decide +kernel
theorem dX5_stroke_16 : decode cX5_stroke 16 = .ok (.getfield 81, 3) := by decide +kernel
theorem dX5_stroke_19 : decode cX5_stroke 19 = .ok (.iconst 2, 1) := by decide +kernel
theorem dX5_stroke_20 : decode cX5_stroke 20 = .ok (.if_icmp .ne 10, 3) := by decide +kernel
theorem dX5_stroke_23 : decode cX5_stroke 23 = .ok (.aload_n 0, 1) := by decide +kernel
theorem dX5_stroke_24 : decode cX5_stroke 24 = .ok (.invokevirtual 213, 3) := by decide +kernel
theorem dX5_stroke_27 : decode cX5_stroke 27 = .ok (.goto 8, 3) := by decide +kernel
theorem dX5_stroke_30 : decode cX5_stroke 30 = .ok (.aload_n 0, 1) := by decide +kernel
theorem dX5_stroke_31 : decode cX5_stroke 31 = .ok (.aload_n 2, 1) := by decide +kernel
theorem dX5_stroke_32 : decode cX5_stroke 32 = .ok (.invokevirtual 216, 3) := by decide +kernel
theorem dX5_stroke_35 : decode cX5_stroke 35 = .ok (.ireturn, 1) := by decide +kernel
set_option maxRecDepth 20000 in
theorem ggX5_as_X4_layerAt : GoodIn wsX5_as wsX4_layerAt := goodIn_r _ [7, 8, 9, 31, 32, 33, 34] (by decide +kernel) (by decide +kernel)
set_option maxRecDepth 20000 in
theorem gX5_as_X4_layerAt : GoodIn wsX5_as (wsV RX5 77 RX4 yX4_layerAt wsX4_layerAt) := goodIn_app (goodIn_of _ (by decide +kernel)) ggX5_as_X4_layerAt
set_option maxRecDepth 20000 in
theorem ggX5_as_X5_isUpTo : GoodIn wsX5_as wsX5_isUpTo := goodIn_r _ [13] (by decide +kernel) (by decide +kernel)
set_option maxRecDepth 20000 in
theorem gX5_as_X5_isUpTo : GoodIn wsX5_as (va_wsS RX5 50 yX5_isUpTo wsX5_isUpTo) := goodIn_app (goodIn_of _ (by decide +kernel)) ggX5_as_X5_isUpTo
set_option maxRecDepth 20000 in
theorem ggX5_as_X0_isA : GoodIn wsX5_as wsX0_isA := goodIn_r _ [18, 19, 35, 36, 37] (by decide +kernel) (by decide +kernel)
set_option maxRecDepth 20000 in
theorem gX5_as_X0_isA : GoodIn wsX5_as (wsV RX5 219 RX0 yX0_isA wsX0_isA) := goodIn_app (goodIn_of _ (by decide +kernel)) ggX5_as_X0_isA
set_option maxRecDepth 20000 in
theorem ggX5_as_X5_failed : GoodIn wsX5_as wsX5_failed := goodIn_r _ [23, 1, 24, 25, 26, 27, 28, 29, 30] (by decide +kernel) (by decide +kernel)
set_option maxRecDepth 20000 in
theorem gX5_as_X5_failed : GoodIn wsX5_as (wsV RX5 62 RX5 yX5_failed wsX5_failed) := goodIn_app (goodIn_of _ (by decide +kernel)) ggX5_as_X5_failed
theorem dX5_as_0 : decode cX5_as 0 = .ok (.aload_n 0, 1) := by decide +kernel
theorem dX5_as_1 : decode cX5_as 1 = .ok (.iconst 0, 1) := by decide +kernel
theorem dX5_as_2 : decode cX5_as 2 = .ok (.putfield 42, 3) := by decide +kernel
theorem dX5_as_5 : decode cX5_as 5 = .ok (.aload_n 0, 1) := by decide +kernel
theorem dX5_as_6 : decode cX5_as 6 = .ok (.getfield 12, 3) := by decide +kernel
theorem dX5_as_9 : decode cX5_as 9 = .ok (.iload_n 1, 1) := by decide +kernel
theorem dX5_as_10 : decode cX5_as 10 = .ok (.invokevirtual 77, 3) := by decide +kernel
theorem dX5_as_13 : decode cX5_as 13 = .ok (.astore_n 3, 1) := by decide +kernel
theorem dX5_as_14 : decode cX5_as 14 = .ok (.aload_n 3, 1) := by decide +kernel
theorem dX5_as_15 : decode cX5_as 15 = .ok (.ifnonnull 5, 3) := by decide +kernel
theorem dX5_as_18 : decode cX5_as 18 = .ok (.iconst (-1), 1) := by decide +kernel
theorem dX5_as_19 : decode cX5_as 19 = .ok (.ireturn, 1) := by decide +kernel
theorem dX5_as_20 : decode cX5_as 20 = .ok (.iload_n 2, 1) := by decide +kernel
theorem dX5_as_21 : decode cX5_as 21 = .ok (.iconst 2, 1) := by decide +kernel
theorem dX5_as_22 : decode cX5_as 22 = .ok (.invokestatic 50, 3) := by decide +kernel
theorem dX5_as_25 : decode cX5_as 25 = .ok (.ifCond .ne 6, 3) := by decide +kernel
theorem dX5_as_28 : decode cX5_as 28 = .ok (.bipush (-2), 2) := by decide +kernel
theorem dX5_as_30 : decode cX5_as 30 = .ok (.ireturn, 1) := by decide +kernel
theorem dX5_as_31 : decode cX5_as 31 = .ok (.aload_n 3, 1) := by decide +kernel
theorem dX5_as_32 : decode cX5_as 32 = .ok (.iload_n 2, 1) := by decide +kernel
theorem dX5_as_33 : decode cX5_as 33 = .ok (.invokevirtual 219, 3) := by decide +kernel
theorem dX5_as_36 : decode cX5_as 36 = .ok (.ifCond .eq 7, 3) := by decide +kernel
theorem dX5_as_39 : decode cX5_as 39 = .ok (.iconst 1, 1) := by decide +kernel
theorem dX5_as_40 : decode cX5_as 40 = .ok (.goto 8, 3) := by decide +kernel
theorem dX5_as_43 : decode cX5_as 43 = .ok (.aload_n 0, 1) := by decide +kernel
theorem dX5_as_44 : decode cX5_as 44 = .ok (.iconst 2, 1) := by decide +kernel
theorem dX5_as_45 : decode cX5_as 45 = .ok (.invokevirtual 62, 3) := by decide +kernel
theorem dX5_as_48 : decode cX5_as 48 = .ok (.ireturn, 1) := by decide +kernel
theorem dX5_trace_0 : decode cX5_trace 0 = .ok (.aload_n 0, 1) := by decide +kernel
theorem dX5_trace_1 : decode cX5_trace 1 = .ok (.getfield 223, 3) := by decide +kernel
theorem dX5_trace_4 : decode cX5_trace 4 = .ok (.ireturn, 1) := by decide +kernel
theorem dX5_fault_0 : decode cX5_fault 0 = .ok (.aload_n 0, 1) := by decide +kernel
theorem dX5_fault_1 : decode cX5_fault 1 = .ok (.getfield 42, 3) := by decide +kernel
theorem dX5_fault_4 : decode cX5_fault 4 = .ok (.ireturn, 1) := by decide +kernel
set_option maxRecDepth 20000 in
theorem ggX5_many_X4_warmth : GoodIn wsX5_many wsX4_warmth := goodIn_r _ [11, 12, 13, 35, 36, 37, 38] (by decide +kernel) (by decide +kernel)
set_option maxRecDepth 20000 in
theorem gX5_many_X4_warmth : GoodIn wsX5_many (wsV RX5 96 RX4 yX4_warmth wsX4_warmth) := goodIn_app (goodIn_of _ (by decide +kernel)) ggX5_many_X4_warmth
set_option maxRecDepth 20000 in
theorem ggX5_many_X4_heardBy : GoodIn wsX5_many wsX4_heardBy := goodIn_r _ [17, 18, 19, 20, 21, 22, 23, 24, 25, 26, 27, 35, 36, 37, 38, 42, 43, 44] (by decide +kernel) (by decide +kernel)
set_option maxRecDepth 20000 in
theorem gX5_many_X4_heardBy : GoodIn wsX5_many (wsV RX5 102 RX4 yX4_heardBy wsX4_heardBy) := goodIn_app (goodIn_of _ (by decide +kernel)) ggX5_many_X4_heardBy
theorem dX5_many_0 : decode cX5_many 0 = .ok (.iload_n 1, 1) := by decide +kernel
theorem dX5_many_1 : decode cX5_many 1 = .ok (.tableswitch 82 0 4 #[35, 43, 51, 59, 74], 35) := by decide +kernel
theorem dX5_many_36 : decode cX5_many 36 = .ok (.aload_n 0, 1) := by decide +kernel
theorem dX5_many_37 : decode cX5_many 37 = .ok (.getfield 12, 3) := by decide +kernel
theorem dX5_many_40 : decode cX5_many 40 = .ok (.getfield 76, 3) := by decide +kernel
theorem dX5_many_43 : decode cX5_many 43 = .ok (.ireturn, 1) := by decide +kernel
theorem dX5_many_44 : decode cX5_many 44 = .ok (.aload_n 0, 1) := by decide +kernel
theorem dX5_many_45 : decode cX5_many 45 = .ok (.getfield 12, 3) := by decide +kernel
theorem dX5_many_48 : decode cX5_many 48 = .ok (.getfield 109, 3) := by decide +kernel
theorem dX5_many_51 : decode cX5_many 51 = .ok (.ireturn, 1) := by decide +kernel
theorem dX5_many_52 : decode cX5_many 52 = .ok (.aload_n 0, 1) := by decide +kernel
theorem dX5_many_53 : decode cX5_many 53 = .ok (.getfield 12, 3) := by decide +kernel
theorem dX5_many_56 : decode cX5_many 56 = .ok (.getfield 112, 3) := by decide +kernel
theorem dX5_many_59 : decode cX5_many 59 = .ok (.ireturn, 1) := by decide +kernel
theorem dX5_many_60 : decode cX5_many 60 = .ok (.aload_n 0, 1) := by decide +kernel
theorem dX5_many_61 : decode cX5_many 61 = .ok (.getfield 12, 3) := by decide +kernel
theorem dX5_many_64 : decode cX5_many 64 = .ok (.aload_n 0, 1) := by decide +kernel
theorem dX5_many_65 : decode cX5_many 65 = .ok (.getfield 12, 3) := by decide +kernel
theorem dX5_many_68 : decode cX5_many 68 = .ok (.invokevirtual 96, 3) := by decide +kernel
theorem dX5_many_71 : decode cX5_many 71 = .ok (.invokevirtual 102, 3) := by decide +kernel
theorem dX5_many_74 : decode cX5_many 74 = .ok (.ireturn, 1) := by decide +kernel
theorem dX5_many_75 : decode cX5_many 75 = .ok (.aload_n 0, 1) := by decide +kernel
theorem dX5_many_76 : decode cX5_many 76 = .ok (.getfield 24, 3) := by decide +kernel
theorem dX5_many_79 : decode cX5_many 79 = .ok (.getfield 73, 3) := by decide +kernel
theorem dX5_many_82 : decode cX5_many 82 = .ok (.ireturn, 1) := by decide +kernel
theorem dX5_many_83 : decode cX5_many 83 = .ok (.bipush (-2), 2) := by decide +kernel
theorem dX5_many_85 : decode cX5_many 85 = .ok (.ireturn, 1) := by decide +kernel
theorem dX5_isUpTo_0 : decode cX5_isUpTo 0 = .ok (.iload_n 0, 1) := by decide +kernel
theorem dX5_isUpTo_1 : decode cX5_isUpTo 1 = .ok (.ifCond .lt 12, 3) := by decide +kernel
theorem dX5_isUpTo_4 : decode cX5_isUpTo 4 = .ok (.iload_n 0, 1) := by decide +kernel
theorem dX5_isUpTo_5 : decode cX5_isUpTo 5 = .ok (.iload_n 1, 1) := by decide +kernel
theorem dX5_isUpTo_6 : decode cX5_isUpTo 6 = .ok (.if_icmp .gt 7, 3) := by decide +kernel
theorem dX5_isUpTo_9 : decode cX5_isUpTo 9 = .ok (.iconst 1, 1) := by decide +kernel
theorem dX5_isUpTo_10 : decode cX5_isUpTo 10 = .ok (.goto 4, 3) := by decide +kernel
theorem dX5_isUpTo_13 : decode cX5_isUpTo 13 = .ok (.iconst 0, 1) := by decide +kernel
theorem dX5_isUpTo_14 : decode cX5_isUpTo 14 = .ok (.ireturn, 1) := by decide +kernel
theorem dX5_setOfFirst_0 : decode cX5_setOfFirst 0 = .ok (.iconst 1, 1) := by decide +kernel
theorem dX5_setOfFirst_1 : decode cX5_setOfFirst 1 = .ok (.iload_n 0, 1) := by decide +kernel
theorem dX5_setOfFirst_2 : decode cX5_setOfFirst 2 = .ok (.ishl, 1) := by decide +kernel
theorem dX5_setOfFirst_3 : decode cX5_setOfFirst 3 = .ok (.iconst 1, 1) := by decide +kernel
theorem dX5_setOfFirst_4 : decode cX5_setOfFirst 4 = .ok (.isub, 1) := by decide +kernel
theorem dX5_setOfFirst_5 : decode cX5_setOfFirst 5 = .ok (.ireturn, 1) := by decide +kernel
theorem dX5_greatestShared_0 : decode cX5_greatestShared 0 = .ok (.iload_n 1, 1) := by decide +kernel
theorem dX5_greatestShared_1 : decode cX5_greatestShared 1 = .ok (.istore_n 2, 1) := by decide +kernel
theorem dX5_greatestShared_2 : decode cX5_greatestShared 2 = .ok (.iload_n 2, 1) := by decide +kernel
theorem dX5_greatestShared_3 : decode cX5_greatestShared 3 = .ok (.iconst 1, 1) := by decide +kernel
theorem dX5_greatestShared_4 : decode cX5_greatestShared 4 = .ok (.if_icmp .le 23, 3) := by decide +kernel
theorem dX5_greatestShared_7 : decode cX5_greatestShared 7 = .ok (.iload_n 0, 1) := by decide +kernel
theorem dX5_greatestShared_8 : decode cX5_greatestShared 8 = .ok (.iload_n 2, 1) := by decide +kernel
theorem dX5_greatestShared_9 : decode cX5_greatestShared 9 = .ok (.irem, 1) := by decide +kernel
theorem dX5_greatestShared_10 : decode cX5_greatestShared 10 = .ok (.ifCond .ne 11, 3) := by decide +kernel
theorem dX5_greatestShared_13 : decode cX5_greatestShared 13 = .ok (.iload_n 1, 1) := by decide +kernel
theorem dX5_greatestShared_14 : decode cX5_greatestShared 14 = .ok (.iload_n 2, 1) := by decide +kernel
theorem dX5_greatestShared_15 : decode cX5_greatestShared 15 = .ok (.irem, 1) := by decide +kernel
theorem dX5_greatestShared_16 : decode cX5_greatestShared 16 = .ok (.ifCond .ne 5, 3) := by decide +kernel
theorem dX5_greatestShared_19 : decode cX5_greatestShared 19 = .ok (.iload_n 2, 1) := by decide +kernel
theorem dX5_greatestShared_20 : decode cX5_greatestShared 20 = .ok (.ireturn, 1) := by decide +kernel
theorem dX5_greatestShared_21 : decode cX5_greatestShared 21 = .ok (.iinc 2 (-1), 3) := by decide +kernel
theorem dX5_greatestShared_24 : decode cX5_greatestShared 24 = .ok (.goto (-22), 3) := by decide +kernel
theorem dX5_greatestShared_27 : decode cX5_greatestShared 27 = .ok (.iconst 1, 1) := by decide +kernel
theorem dX5_greatestShared_28 : decode cX5_greatestShared 28 = .ok (.ireturn, 1) := by decide +kernel
set_option maxRecDepth 20000 in
theorem ggX5_sheetAt_X5_isUpTo : GoodIn wsX5_sheetAt wsX5_isUpTo := goodIn_r _ [5] (by decide +kernel) (by decide +kernel)
set_option maxRecDepth 20000 in
theorem gX5_sheetAt_X5_isUpTo : GoodIn wsX5_sheetAt (va_wsS RX5 50 yX5_isUpTo wsX5_isUpTo) := goodIn_app (goodIn_of _ (by decide +kernel)) ggX5_sheetAt_X5_isUpTo
theorem dX5_sheetAt_0 : decode cX5_sheetAt 0 = .ok (.iload_n 1, 1) := by decide +kernel
theorem dX5_sheetAt_1 : decode cX5_sheetAt 1 = .ok (.iconst 3, 1) := by decide +kernel
theorem dX5_sheetAt_2 : decode cX5_sheetAt 2 = .ok (.invokestatic 50, 3) := by decide +kernel
theorem dX5_sheetAt_5 : decode cX5_sheetAt 5 = .ok (.ifCond .eq 12, 3) := by decide +kernel
theorem dX5_sheetAt_8 : decode cX5_sheetAt 8 = .ok (.aload_n 0, 1) := by decide +kernel
theorem dX5_sheetAt_9 : decode cX5_sheetAt 9 = .ok (.getfield 37, 3) := by decide +kernel
theorem dX5_sheetAt_12 : decode cX5_sheetAt 12 = .ok (.iload_n 1, 1) := by decide +kernel
theorem dX5_sheetAt_13 : decode cX5_sheetAt 13 = .ok (.aaload, 1) := by decide +kernel
theorem dX5_sheetAt_14 : decode cX5_sheetAt 14 = .ok (.goto 4, 3) := by decide +kernel
theorem dX5_sheetAt_17 : decode cX5_sheetAt 17 = .ok (.aconst_null, 1) := by decide +kernel
theorem dX5_sheetAt_18 : decode cX5_sheetAt 18 = .ok (.areturn, 1) := by decide +kernel
theorem dX5_failed_0 : decode cX5_failed 0 = .ok (.aload_n 0, 1) := by decide +kernel
theorem dX5_failed_1 : decode cX5_failed 1 = .ok (.iload_n 1, 1) := by decide +kernel
theorem dX5_failed_2 : decode cX5_failed 2 = .ok (.putfield 42, 3) := by decide +kernel
theorem dX5_failed_5 : decode cX5_failed 5 = .ok (.bipush (-10), 2) := by decide +kernel
theorem dX5_failed_7 : decode cX5_failed 7 = .ok (.iload_n 1, 1) := by decide +kernel
theorem dX5_failed_8 : decode cX5_failed 8 = .ok (.isub, 1) := by decide +kernel
theorem dX5_failed_9 : decode cX5_failed 9 = .ok (.ireturn, 1) := by decide +kernel
set_option maxRecDepth 20000 in
theorem ggX5_firstFault_X3_getCell : GoodIn wsX5_firstFault wsX3_getCell := goodIn_r _ [5, 6, 7, 18, 19, 20, 21] (by decide +kernel) (by decide +kernel)
set_option maxRecDepth 20000 in
theorem gX5_firstFault_X3_getCell : GoodIn wsX5_firstFault (wsV RX5 186 RX3 yX3_getCell wsX3_getCell) := goodIn_app (goodIn_of _ (by decide +kernel)) ggX5_firstFault_X3_getCell
set_option maxRecDepth 20000 in
theorem ggX5_firstFault_X5_goesOn : GoodIn wsX5_firstFault wsX5_goesOn := goodIn_r _ [11, 12, 13, 10, 14, 15, 16, 17] (by decide +kernel) (by decide +kernel)
set_option maxRecDepth 20000 in
theorem gX5_firstFault_X5_goesOn : GoodIn wsX5_firstFault (va_wsS RX5 226 yX5_goesOn wsX5_goesOn) := goodIn_app (goodIn_of _ (by decide +kernel)) ggX5_firstFault_X5_goesOn
theorem dX5_firstFault_0 : decode cX5_firstFault 0 = .ok (.iconst 0, 1) := by decide +kernel
theorem dX5_firstFault_1 : decode cX5_firstFault 1 = .ok (.istore_n 3, 1) := by decide +kernel
theorem dX5_firstFault_2 : decode cX5_firstFault 2 = .ok (.iload_n 3, 1) := by decide +kernel
theorem dX5_firstFault_3 : decode cX5_firstFault 3 = .ok (.iload_n 2, 1) := by decide +kernel
theorem dX5_firstFault_4 : decode cX5_firstFault 4 = .ok (.if_icmp .ge 25, 3) := by decide +kernel
theorem dX5_firstFault_7 : decode cX5_firstFault 7 = .ok (.iload_n 3, 1) := by decide +kernel
theorem dX5_firstFault_8 : decode cX5_firstFault 8 = .ok (.aload_n 0, 1) := by decide +kernel
theorem dX5_firstFault_9 : decode cX5_firstFault 9 = .ok (.iload_n 1, 1) := by decide +kernel
theorem dX5_firstFault_10 : decode cX5_firstFault 10 = .ok (.iload_n 3, 1) := by decide +kernel
theorem dX5_firstFault_11 : decode cX5_firstFault 11 = .ok (.iadd, 1) := by decide +kernel
theorem dX5_firstFault_12 : decode cX5_firstFault 12 = .ok (.invokevirtual 186, 3) := by decide +kernel
theorem dX5_firstFault_15 : decode cX5_firstFault 15 = .ok (.invokestatic 226, 3) := by decide +kernel
theorem dX5_firstFault_18 : decode cX5_firstFault 18 = .ok (.ifCond .ne 5, 3) := by decide +kernel
theorem dX5_firstFault_21 : decode cX5_firstFault 21 = .ok (.iload_n 3, 1) := by decide +kernel
theorem dX5_firstFault_22 : decode cX5_firstFault 22 = .ok (.ireturn, 1) := by decide +kernel
theorem dX5_firstFault_23 : decode cX5_firstFault 23 = .ok (.iinc 3 1, 3) := by decide +kernel
theorem dX5_firstFault_26 : decode cX5_firstFault 26 = .ok (.goto (-24), 3) := by decide +kernel
theorem dX5_firstFault_29 : decode cX5_firstFault 29 = .ok (.iload_n 2, 1) := by decide +kernel
theorem dX5_firstFault_30 : decode cX5_firstFault 30 = .ok (.bipush 11, 2) := by decide +kernel
theorem dX5_firstFault_32 : decode cX5_firstFault 32 = .ok (.if_icmp .lt 15, 3) := by decide +kernel
theorem dX5_firstFault_35 : decode cX5_firstFault 35 = .ok (.iload_n 2, 1) := by decide +kernel
theorem dX5_firstFault_36 : decode cX5_firstFault 36 = .ok (.iconst 3, 1) := by decide +kernel
theorem dX5_firstFault_37 : decode cX5_firstFault 37 = .ok (.isub, 1) := by decide +kernel
theorem dX5_firstFault_38 : decode cX5_firstFault 38 = .ok (.iconst 4, 1) := by decide +kernel
theorem dX5_firstFault_39 : decode cX5_firstFault 39 = .ok (.irem, 1) := by decide +kernel
theorem dX5_firstFault_40 : decode cX5_firstFault 40 = .ok (.ifCond .ne 7, 3) := by decide +kernel
theorem dX5_firstFault_43 : decode cX5_firstFault 43 = .ok (.iconst 1, 1) := by decide +kernel
theorem dX5_firstFault_44 : decode cX5_firstFault 44 = .ok (.goto 4, 3) := by decide +kernel
theorem dX5_firstFault_47 : decode cX5_firstFault 47 = .ok (.iconst 0, 1) := by decide +kernel
theorem dX5_firstFault_48 : decode cX5_firstFault 48 = .ok (.istore_n 3, 1) := by decide +kernel
theorem dX5_firstFault_49 : decode cX5_firstFault 49 = .ok (.iload_n 3, 1) := by decide +kernel
theorem dX5_firstFault_50 : decode cX5_firstFault 50 = .ok (.ifCond .eq 7, 3) := by decide +kernel
theorem dX5_firstFault_53 : decode cX5_firstFault 53 = .ok (.iconst (-1), 1) := by decide +kernel
theorem dX5_firstFault_54 : decode cX5_firstFault 54 = .ok (.goto 4, 3) := by decide +kernel
theorem dX5_firstFault_57 : decode cX5_firstFault 57 = .ok (.iload_n 2, 1) := by decide +kernel
theorem dX5_firstFault_58 : decode cX5_firstFault 58 = .ok (.ireturn, 1) := by decide +kernel
set_option maxRecDepth 20000 in
theorem ggX5_goesOn_X5_isDigit : GoodIn wsX5_goesOn wsX5_isDigit := goodIn_r _ [4] (by decide +kernel) (by decide +kernel)
set_option maxRecDepth 20000 in
theorem gX5_goesOn_X5_isDigit : GoodIn wsX5_goesOn (va_wsS RX5 229 yX5_isDigit wsX5_isDigit) := goodIn_app (goodIn_of _ (by decide +kernel)) ggX5_goesOn_X5_isDigit
set_option maxRecDepth 20000 in
theorem ggX5_goesOn_X5_kindOf : GoodIn wsX5_goesOn wsX5_kindOf := goodIn_r _ [7] (by decide +kernel) (by decide +kernel)
set_option maxRecDepth 20000 in
theorem gX5_goesOn_X5_kindOf : GoodIn wsX5_goesOn (va_wsS RX5 232 yX5_kindOf wsX5_kindOf) := goodIn_app (goodIn_of _ (by decide +kernel)) ggX5_goesOn_X5_kindOf
theorem dX5_goesOn_0 : decode cX5_goesOn 0 = .ok (.iload_n 0, 1) := by decide +kernel
theorem dX5_goesOn_1 : decode cX5_goesOn 1 = .ok (.ifCond .ne 15, 3) := by decide +kernel
theorem dX5_goesOn_4 : decode cX5_goesOn 4 = .ok (.iload_n 1, 1) := by decide +kernel
theorem dX5_goesOn_5 : decode cX5_goesOn 5 = .ok (.bipush 119, 2) := by decide +kernel
theorem dX5_goesOn_7 : decode cX5_goesOn 7 = .ok (.if_icmp .ne 7, 3) := by decide +kernel
theorem dX5_goesOn_10 : decode cX5_goesOn 10 = .ok (.iconst 1, 1) := by decide +kernel
theorem dX5_goesOn_11 : decode cX5_goesOn 11 = .ok (.goto 4, 3) := by decide +kernel
theorem dX5_goesOn_14 : decode cX5_goesOn 14 = .ok (.iconst 0, 1) := by decide +kernel
theorem dX5_goesOn_15 : decode cX5_goesOn 15 = .ok (.ireturn, 1) := by decide +kernel
theorem dX5_goesOn_16 : decode cX5_goesOn 16 = .ok (.iload_n 0, 1) := by decide +kernel
theorem dX5_goesOn_17 : decode cX5_goesOn 17 = .ok (.iconst 3, 1) := by decide +kernel
theorem dX5_goesOn_18 : decode cX5_goesOn 18 = .ok (.if_icmp .ge 8, 3) := by decide +kernel
theorem dX5_goesOn_21 : decode cX5_goesOn 21 = .ok (.iload_n 1, 1) := by decide +kernel
theorem dX5_goesOn_22 : decode cX5_goesOn 22 = .ok (.invokestatic 229, 3) := by decide +kernel
theorem dX5_goesOn_25 : decode cX5_goesOn 25 = .ok (.ireturn, 1) := by decide +kernel
theorem dX5_goesOn_26 : decode cX5_goesOn 26 = .ok (.iload_n 0, 1) := by decide +kernel
theorem dX5_goesOn_27 : decode cX5_goesOn 27 = .ok (.iconst 3, 1) := by decide +kernel
theorem dX5_goesOn_28 : decode cX5_goesOn 28 = .ok (.isub, 1) := by decide +kernel
theorem dX5_goesOn_29 : decode cX5_goesOn 29 = .ok (.iconst 4, 1) := by decide +kernel
theorem dX5_goesOn_30 : decode cX5_goesOn 30 = .ok (.irem, 1) := by decide +kernel
theorem dX5_goesOn_31 : decode cX5_goesOn 31 = .ok (.istore_n 2, 1) := by decide +kernel
theorem dX5_goesOn_32 : decode cX5_goesOn 32 = .ok (.iload_n 2, 1) := by decide +kernel
theorem dX5_goesOn_33 : decode cX5_goesOn 33 = .ok (.ifCond .ne 25, 3) := by decide +kernel
theorem dX5_goesOn_36 : decode cX5_goesOn 36 = .ok (.iload_n 1, 1) := by decide +kernel
theorem dX5_goesOn_37 : decode cX5_goesOn 37 = .ok (.bipush 59, 2) := by decide +kernel
theorem dX5_goesOn_39 : decode cX5_goesOn 39 = .ok (.if_icmp .ne 17, 3) := by decide +kernel
theorem dX5_goesOn_42 : decode cX5_goesOn 42 = .ok (.iload_n 0, 1) := by decide +kernel
theorem dX5_goesOn_43 : decode cX5_goesOn 43 = .ok (.iconst 3, 1) := by decide +kernel
theorem dX5_goesOn_44 : decode cX5_goesOn 44 = .ok (.isub, 1) := by decide +kernel
theorem dX5_goesOn_45 : decode cX5_goesOn 45 = .ok (.iconst 4, 1) := by decide +kernel
theorem dX5_goesOn_46 : decode cX5_goesOn 46 = .ok (.idiv, 1) := by decide +kernel
theorem dX5_goesOn_47 : decode cX5_goesOn 47 = .ok (.bipush 6, 2) := by decide +kernel
theorem dX5_goesOn_49 : decode cX5_goesOn 49 = .ok (.if_icmp .ge 7, 3) := by decide +kernel
theorem dX5_goesOn_52 : decode cX5_goesOn 52 = .ok (.iconst 1, 1) := by decide +kernel
theorem dX5_goesOn_53 : decode cX5_goesOn 53 = .ok (.goto 4, 3) := by decide +kernel
theorem dX5_goesOn_56 : decode cX5_goesOn 56 = .ok (.iconst 0, 1) := by decide +kernel
theorem dX5_goesOn_57 : decode cX5_goesOn 57 = .ok (.ireturn, 1) := by decide +kernel
theorem dX5_goesOn_58 : decode cX5_goesOn 58 = .ok (.iload_n 2, 1) := by decide +kernel
theorem dX5_goesOn_59 : decode cX5_goesOn 59 = .ok (.iconst 1, 1) := by decide +kernel
theorem dX5_goesOn_60 : decode cX5_goesOn 60 = .ok (.if_icmp .ne 20, 3) := by decide +kernel
theorem dX5_goesOn_63 : decode cX5_goesOn 63 = .ok (.iload_n 1, 1) := by decide +kernel
theorem dX5_goesOn_64 : decode cX5_goesOn 64 = .ok (.invokestatic 232, 3) := by decide +kernel
theorem dX5_goesOn_67 : decode cX5_goesOn 67 = .ok (.bipush (-9), 2) := by decide +kernel
theorem dX5_goesOn_69 : decode cX5_goesOn 69 = .ok (.if_icmp .eq 7, 3) := by decide +kernel
theorem dX5_goesOn_72 : decode cX5_goesOn 72 = .ok (.iconst 1, 1) := by decide +kernel
theorem dX5_goesOn_73 : decode cX5_goesOn 73 = .ok (.goto 11, 3) := by decide +kernel
theorem dX5_goesOn_76 : decode cX5_goesOn 76 = .ok (.iconst 0, 1) := by decide +kernel
theorem dX5_goesOn_77 : decode cX5_goesOn 77 = .ok (.goto 7, 3) := by decide +kernel
theorem dX5_goesOn_80 : decode cX5_goesOn 80 = .ok (.iload_n 1, 1) := by decide +kernel
theorem dX5_goesOn_81 : decode cX5_goesOn 81 = .ok (.invokestatic 229, 3) := by decide +kernel
theorem dX5_goesOn_84 : decode cX5_goesOn 84 = .ok (.ireturn, 1) := by decide +kernel
theorem dX5_isDigit_0 : decode cX5_isDigit 0 = .ok (.iload_n 0, 1) := by decide +kernel
theorem dX5_isDigit_1 : decode cX5_isDigit 1 = .ok (.bipush 48, 2) := by decide +kernel
theorem dX5_isDigit_3 : decode cX5_isDigit 3 = .ok (.if_icmp .lt 13, 3) := by decide +kernel
theorem dX5_isDigit_6 : decode cX5_isDigit 6 = .ok (.iload_n 0, 1) := by decide +kernel
theorem dX5_isDigit_7 : decode cX5_isDigit 7 = .ok (.bipush 57, 2) := by decide +kernel
theorem dX5_isDigit_9 : decode cX5_isDigit 9 = .ok (.if_icmp .gt 7, 3) := by decide +kernel
theorem dX5_isDigit_12 : decode cX5_isDigit 12 = .ok (.iconst 1, 1) := by decide +kernel
theorem dX5_isDigit_13 : decode cX5_isDigit 13 = .ok (.goto 4, 3) := by decide +kernel
theorem dX5_isDigit_16 : decode cX5_isDigit 16 = .ok (.iconst 0, 1) := by decide +kernel
theorem dX5_isDigit_17 : decode cX5_isDigit 17 = .ok (.ireturn, 1) := by decide +kernel
theorem dX5_kindOf_0 : decode cX5_kindOf 0 = .ok (.iload_n 0, 1) := by decide +kernel
theorem dX5_kindOf_1 : decode cX5_kindOf 1 = .ok (.tableswitch 33 114 116 #[31, 27, 29], 27) := by decide +kernel
theorem dX5_kindOf_28 : decode cX5_kindOf 28 = .ok (.iconst 0, 1) := by decide +kernel
theorem dX5_kindOf_29 : decode cX5_kindOf 29 = .ok (.ireturn, 1) := by decide +kernel
theorem dX5_kindOf_30 : decode cX5_kindOf 30 = .ok (.iconst 1, 1) := by decide +kernel
theorem dX5_kindOf_31 : decode cX5_kindOf 31 = .ok (.ireturn, 1) := by decide +kernel
theorem dX5_kindOf_32 : decode cX5_kindOf 32 = .ok (.iconst 2, 1) := by decide +kernel
theorem dX5_kindOf_33 : decode cX5_kindOf 33 = .ok (.ireturn, 1) := by decide +kernel
theorem dX5_kindOf_34 : decode cX5_kindOf 34 = .ok (.bipush (-9), 2) := by decide +kernel
theorem dX5_kindOf_36 : decode cX5_kindOf 36 = .ok (.ireturn, 1) := by decide +kernel
set_option maxRecDepth 20000 in
theorem ggX5_areActs_X3_getCell : GoodIn wsX5_areActs wsX3_getCell := goodIn_r _ [5, 6, 7, 15, 16, 17, 18] (by decide +kernel) (by decide +kernel)
set_option maxRecDepth 20000 in
theorem gX5_areActs_X3_getCell : GoodIn wsX5_areActs (wsV RX5 186 RX3 yX3_getCell wsX3_getCell) := goodIn_app (goodIn_of _ (by decide +kernel)) ggX5_areActs_X3_getCell
set_option maxRecDepth 20000 in
theorem ggX5_areActs_X5_isAct : GoodIn wsX5_areActs wsX5_isAct := goodIn_r _ [11, 12, 13, 10, 14] (by decide +kernel) (by decide +kernel)
set_option maxRecDepth 20000 in
theorem gX5_areActs_X5_isAct : GoodIn wsX5_areActs (va_wsS RX5 235 yX5_isAct wsX5_isAct) := goodIn_app (goodIn_of _ (by decide +kernel)) ggX5_areActs_X5_isAct
theorem dX5_areActs_0 : decode cX5_areActs 0 = .ok (.iconst 0, 1) := by decide +kernel
theorem dX5_areActs_1 : decode cX5_areActs 1 = .ok (.istore_n 3, 1) := by decide +kernel
theorem dX5_areActs_2 : decode cX5_areActs 2 = .ok (.iload_n 3, 1) := by decide +kernel
theorem dX5_areActs_3 : decode cX5_areActs 3 = .ok (.iload_n 2, 1) := by decide +kernel
theorem dX5_areActs_4 : decode cX5_areActs 4 = .ok (.if_icmp .ge 38, 3) := by decide +kernel
theorem dX5_areActs_7 : decode cX5_areActs 7 = .ok (.iload_n 1, 1) := by decide +kernel
theorem dX5_areActs_8 : decode cX5_areActs 8 = .ok (.iconst 2, 1) := by decide +kernel
theorem dX5_areActs_9 : decode cX5_areActs 9 = .ok (.iload_n 3, 1) := by decide +kernel
theorem dX5_areActs_10 : decode cX5_areActs 10 = .ok (.imul, 1) := by decide +kernel
theorem dX5_areActs_11 : decode cX5_areActs 11 = .ok (.iadd, 1) := by decide +kernel
theorem dX5_areActs_12 : decode cX5_areActs 12 = .ok (.istore 4, 2) := by decide +kernel
theorem dX5_areActs_14 : decode cX5_areActs 14 = .ok (.aload_n 0, 1) := by decide +kernel
theorem dX5_areActs_15 : decode cX5_areActs 15 = .ok (.iload 4, 2) := by decide +kernel
theorem dX5_areActs_17 : decode cX5_areActs 17 = .ok (.invokevirtual 186, 3) := by decide +kernel
theorem dX5_areActs_20 : decode cX5_areActs 20 = .ok (.aload_n 0, 1) := by decide +kernel
theorem dX5_areActs_21 : decode cX5_areActs 21 = .ok (.iload 4, 2) := by decide +kernel
theorem dX5_areActs_23 : decode cX5_areActs 23 = .ok (.iconst 1, 1) := by decide +kernel
theorem dX5_areActs_24 : decode cX5_areActs 24 = .ok (.iadd, 1) := by decide +kernel
theorem dX5_areActs_25 : decode cX5_areActs 25 = .ok (.invokevirtual 186, 3) := by decide +kernel
theorem dX5_areActs_28 : decode cX5_areActs 28 = .ok (.invokestatic 235, 3) := by decide +kernel
theorem dX5_areActs_31 : decode cX5_areActs 31 = .ok (.ifCond .ne 5, 3) := by decide +kernel
theorem dX5_areActs_34 : decode cX5_areActs 34 = .ok (.iconst 0, 1) := by decide +kernel
theorem dX5_areActs_35 : decode cX5_areActs 35 = .ok (.ireturn, 1) := by decide +kernel
theorem dX5_areActs_36 : decode cX5_areActs 36 = .ok (.iinc 3 1, 3) := by decide +kernel
theorem dX5_areActs_39 : decode cX5_areActs 39 = .ok (.goto (-37), 3) := by decide +kernel
theorem dX5_areActs_42 : decode cX5_areActs 42 = .ok (.iconst 1, 1) := by decide +kernel
theorem dX5_areActs_43 : decode cX5_areActs 43 = .ok (.ireturn, 1) := by decide +kernel
set_option maxRecDepth 20000 in
theorem ggX5_isAct_X5_isUpTo : GoodIn wsX5_isAct wsX5_isUpTo := goodIn_r _ [4] (by decide +kernel) (by decide +kernel)
set_option maxRecDepth 20000 in
theorem gX5_isAct_X5_isUpTo : GoodIn wsX5_isAct (va_wsS RX5 50 yX5_isUpTo wsX5_isUpTo) := goodIn_app (goodIn_of _ (by decide +kernel)) ggX5_isAct_X5_isUpTo
theorem dX5_isAct_0 : decode cX5_isAct 0 = .ok (.iload_n 0, 1) := by decide +kernel
theorem dX5_isAct_1 : decode cX5_isAct 1 = .ok (.tableswitch 55 0 3 #[31, 38, 45, 38], 31) := by decide +kernel
theorem dX5_isAct_32 : decode cX5_isAct 32 = .ok (.iload_n 1, 1) := by decide +kernel
theorem dX5_isAct_33 : decode cX5_isAct 33 = .ok (.bipush 20, 2) := by decide +kernel
theorem dX5_isAct_35 : decode cX5_isAct 35 = .ok (.invokestatic 50, 3) := by decide +kernel
theorem dX5_isAct_38 : decode cX5_isAct 38 = .ok (.ireturn, 1) := by decide +kernel
theorem dX5_isAct_39 : decode cX5_isAct 39 = .ok (.iload_n 1, 1) := by decide +kernel
theorem dX5_isAct_40 : decode cX5_isAct 40 = .ok (.bipush 9, 2) := by decide +kernel
theorem dX5_isAct_42 : decode cX5_isAct 42 = .ok (.invokestatic 50, 3) := by decide +kernel
theorem dX5_isAct_45 : decode cX5_isAct 45 = .ok (.ireturn, 1) := by decide +kernel
theorem dX5_isAct_46 : decode cX5_isAct 46 = .ok (.iload_n 1, 1) := by decide +kernel
theorem dX5_isAct_47 : decode cX5_isAct 47 = .ok (.ifCond .ne 7, 3) := by decide +kernel
theorem dX5_isAct_50 : decode cX5_isAct 50 = .ok (.iconst 1, 1) := by decide +kernel
theorem dX5_isAct_51 : decode cX5_isAct 51 = .ok (.goto 4, 3) := by decide +kernel
theorem dX5_isAct_54 : decode cX5_isAct 54 = .ok (.iconst 0, 1) := by decide +kernel
theorem dX5_isAct_55 : decode cX5_isAct 55 = .ok (.ireturn, 1) := by decide +kernel
theorem dX5_isAct_56 : decode cX5_isAct 56 = .ok (.iconst 0, 1) := by decide +kernel
theorem dX5_isAct_57 : decode cX5_isAct 57 = .ok (.ireturn, 1) := by decide +kernel
set_option maxRecDepth 20000 in
theorem ggX5_afterDays_X4_become : GoodIn wsX5_afterDays wsX4_become := goodIn_r _ [8, 9, 10, 11, 7, 12, 13, 14, 15, 16, 17, 18, 19, 20, 21, 22, 23, 24, 25, 26, 27, 28, 29, 30, 31, 32, 33, 34, 35, 36, 37, 38, 39, 40, 41, 42, 43, 108, 109, 110, 111, 112, 113, 114] (by decide +kernel) (by decide +kernel)
set_option maxRecDepth 20000 in
theorem gX5_afterDays_X4_become : GoodIn wsX5_afterDays (wsV RX5 238 RX4 yX4_become wsX4_become) := goodIn_app (goodIn_of _ (by decide +kernel)) ggX5_afterDays_X4_become
set_option maxRecDepth 20000 in
theorem ggX5_afterDays_X3_getCell : GoodIn wsX5_afterDays wsX3_getCell := goodIn_r _ [48, 49, 50, 115, 116, 117, 118] (by decide +kernel) (by decide +kernel)
set_option maxRecDepth 20000 in
theorem gX5_afterDays_X3_getCell : GoodIn wsX5_afterDays (wsV RX5 186 RX3 yX3_getCell wsX3_getCell) := goodIn_app (goodIn_of _ (by decide +kernel)) ggX5_afterDays_X3_getCell
set_option maxRecDepth 20000 in
theorem ggX5_afterDays_X4_doAct : GoodIn wsX5_afterDays wsX4_doAct := goodIn_r _ [54, 13, 14, 55, 56, 57, 7, 58, 15, 24, 59, 60, 61, 62, 63, 64, 65, 66, 67, 68, 69, 39, 70, 41, 42, 71, 72, 73, 74, 43, 75, 37, 38, 40, 76, 77, 78, 79, 36, 108, 109, 110, 111, 112, 113, 114] (by decide +kernel) (by decide +kernel)
set_option maxRecDepth 20000 in
theorem gX5_afterDays_X4_doAct : GoodIn wsX5_afterDays (wsV RX5 242 RX4 yX4_doAct wsX4_doAct) := goodIn_app (goodIn_of _ (by decide +kernel)) ggX5_afterDays_X4_doAct
set_option maxRecDepth 20000 in
theorem ggX5_afterDays_X4_warmth : GoodIn wsX5_afterDays wsX4_warmth := goodIn_r _ [62, 13, 14, 108, 109, 110, 111] (by decide +kernel) (by decide +kernel)
set_option maxRecDepth 20000 in
theorem gX5_afterDays_X4_warmth : GoodIn wsX5_afterDays (wsV RX5 96 RX4 yX4_warmth wsX4_warmth) := goodIn_app (goodIn_of _ (by decide +kernel)) ggX5_afterDays_X4_warmth
set_option maxRecDepth 20000 in
theorem ggX5_afterDays_X4_heardBy : GoodIn wsX5_afterDays wsX4_heardBy := goodIn_r _ [84, 15, 24, 29, 67, 68, 69, 39, 70, 41, 42, 108, 109, 110, 111, 112, 113, 114] (by decide +kernel) (by decide +kernel)
set_option maxRecDepth 20000 in
theorem gX5_afterDays_X4_heardBy : GoodIn wsX5_afterDays (wsV RX5 102 RX4 yX4_heardBy wsX4_heardBy) := goodIn_app (goodIn_of _ (by decide +kernel)) ggX5_afterDays_X4_heardBy
set_option maxRecDepth 20000 in
theorem ggX5_afterDays_X4_counselBy : GoodIn wsX5_afterDays wsX4_counselBy := goodIn_r _ [88, 24, 31, 89, 82, 83, 7, 84, 15, 29, 67, 68, 69, 39, 70, 41, 42, 90, 91, 92, 93, 94, 95, 96, 108, 109, 110, 111, 112, 113, 114] (by decide +kernel) (by decide +kernel)
set_option maxRecDepth 20000 in
theorem gX5_afterDays_X4_counselBy : GoodIn wsX5_afterDays (wsV RX5 118 RX4 yX4_counselBy wsX4_counselBy) := goodIn_app (goodIn_of _ (by decide +kernel)) ggX5_afterDays_X4_counselBy
set_option maxRecDepth 20000 in
theorem ggX5_afterDays_X5_setOfFirst : GoodIn wsX5_afterDays wsX5_setOfFirst := goodIn_r _ [100] (by decide +kernel) (by decide +kernel)
set_option maxRecDepth 20000 in
theorem gX5_afterDays_X5_setOfFirst : GoodIn wsX5_afterDays (va_wsS RX5 115 yX5_setOfFirst wsX5_setOfFirst) := goodIn_app (goodIn_of _ (by decide +kernel)) ggX5_afterDays_X5_setOfFirst
theorem dX5_afterDays_0 : decode cX5_afterDays 0 = .ok (.aload_n 0, 1) := by decide +kernel
theorem dX5_afterDays_1 : decode cX5_afterDays 1 = .ok (.getfield 18, 3) := by decide +kernel
theorem dX5_afterDays_4 : decode cX5_afterDays 4 = .ok (.aload_n 0, 1) := by decide +kernel
theorem dX5_afterDays_5 : decode cX5_afterDays 5 = .ok (.getfield 12, 3) := by decide +kernel
theorem dX5_afterDays_8 : decode cX5_afterDays 8 = .ok (.invokevirtual 238, 3) := by decide +kernel
theorem dX5_afterDays_11 : decode cX5_afterDays 11 = .ok (.iconst 0, 1) := by decide +kernel
theorem dX5_afterDays_12 : decode cX5_afterDays 12 = .ok (.istore 5, 2) := by decide +kernel
theorem dX5_afterDays_14 : decode cX5_afterDays 14 = .ok (.iconst 0, 1) := by decide +kernel
theorem dX5_afterDays_15 : decode cX5_afterDays 15 = .ok (.istore 6, 2) := by decide +kernel
theorem dX5_afterDays_17 : decode cX5_afterDays 17 = .ok (.iload 6, 2) := by decide +kernel
theorem dX5_afterDays_19 : decode cX5_afterDays 19 = .ok (.iload_n 3, 1) := by decide +kernel
theorem dX5_afterDays_20 : decode cX5_afterDays 20 = .ok (.if_icmp .ge 78, 3) := by decide +kernel
theorem dX5_afterDays_23 : decode cX5_afterDays 23 = .ok (.iload_n 2, 1) := by decide +kernel
theorem dX5_afterDays_24 : decode cX5_afterDays 24 = .ok (.iconst 2, 1) := by decide +kernel
theorem dX5_afterDays_25 : decode cX5_afterDays 25 = .ok (.iload 6, 2) := by decide +kernel
theorem dX5_afterDays_27 : decode cX5_afterDays 27 = .ok (.imul, 1) := by decide +kernel
theorem dX5_afterDays_28 : decode cX5_afterDays 28 = .ok (.iadd, 1) := by decide +kernel
theorem dX5_afterDays_29 : decode cX5_afterDays 29 = .ok (.istore 7, 2) := by decide +kernel
theorem dX5_afterDays_31 : decode cX5_afterDays 31 = .ok (.aload_n 0, 1) := by decide +kernel
theorem dX5_afterDays_32 : decode cX5_afterDays 32 = .ok (.getfield 18, 3) := by decide +kernel
theorem dX5_afterDays_35 : decode cX5_afterDays 35 = .ok (.aload_n 1, 1) := by decide +kernel
theorem dX5_afterDays_36 : decode cX5_afterDays 36 = .ok (.iload 7, 2) := by decide +kernel
theorem dX5_afterDays_38 : decode cX5_afterDays 38 = .ok (.invokevirtual 186, 3) := by decide +kernel
theorem dX5_afterDays_41 : decode cX5_afterDays 41 = .ok (.aload_n 1, 1) := by decide +kernel
theorem dX5_afterDays_42 : decode cX5_afterDays 42 = .ok (.iload 7, 2) := by decide +kernel
theorem dX5_afterDays_44 : decode cX5_afterDays 44 = .ok (.iconst 1, 1) := by decide +kernel
theorem dX5_afterDays_45 : decode cX5_afterDays 45 = .ok (.iadd, 1) := by decide +kernel
theorem dX5_afterDays_46 : decode cX5_afterDays 46 = .ok (.invokevirtual 186, 3) := by decide +kernel
theorem dX5_afterDays_49 : decode cX5_afterDays 49 = .ok (.invokevirtual 242, 3) := by decide +kernel
theorem dX5_afterDays_52 : decode cX5_afterDays 52 = .ok (.ifCond .ne 20, 3) := by decide +kernel
theorem dX5_afterDays_55 : decode cX5_afterDays 55 = .ok (.iload 4, 2) := by decide +kernel
theorem dX5_afterDays_57 : decode cX5_afterDays 57 = .ok (.iconst 1, 1) := by decide +kernel
theorem dX5_afterDays_58 : decode cX5_afterDays 58 = .ok (.if_icmp .ne 8, 3) := by decide +kernel
theorem dX5_afterDays_61 : decode cX5_afterDays 61 = .ok (.iload 6, 2) := by decide +kernel
theorem dX5_afterDays_63 : decode cX5_afterDays 63 = .ok (.goto 8, 3) := by decide +kernel
theorem dX5_afterDays_66 : decode cX5_afterDays 66 = .ok (.bipush (-100), 2) := by decide +kernel
theorem dX5_afterDays_68 : decode cX5_afterDays 68 = .ok (.iload 6, 2) := by decide +kernel
theorem dX5_afterDays_70 : decode cX5_afterDays 70 = .ok (.isub, 1) := by decide +kernel
theorem dX5_afterDays_71 : decode cX5_afterDays 71 = .ok (.ireturn, 1) := by decide +kernel
theorem dX5_afterDays_72 : decode cX5_afterDays 72 = .ok (.aload_n 0, 1) := by decide +kernel
theorem dX5_afterDays_73 : decode cX5_afterDays 73 = .ok (.getfield 18, 3) := by decide +kernel
theorem dX5_afterDays_76 : decode cX5_afterDays 76 = .ok (.aload_n 0, 1) := by decide +kernel
theorem dX5_afterDays_77 : decode cX5_afterDays 77 = .ok (.getfield 18, 3) := by decide +kernel
theorem dX5_afterDays_80 : decode cX5_afterDays 80 = .ok (.invokevirtual 96, 3) := by decide +kernel
theorem dX5_afterDays_83 : decode cX5_afterDays 83 = .ok (.invokevirtual 102, 3) := by decide +kernel
theorem dX5_afterDays_86 : decode cX5_afterDays 86 = .ok (.ifCond .le 6, 3) := by decide +kernel
theorem dX5_afterDays_89 : decode cX5_afterDays 89 = .ok (.iinc 5 1, 3) := by decide +kernel
theorem dX5_afterDays_92 : decode cX5_afterDays 92 = .ok (.iinc 6 1, 3) := by decide +kernel
theorem dX5_afterDays_95 : decode cX5_afterDays 95 = .ok (.goto (-78), 3) := by decide +kernel
theorem dX5_afterDays_98 : decode cX5_afterDays 98 = .ok (.iload 4, 2) := by decide +kernel
theorem dX5_afterDays_100 : decode cX5_afterDays 100 = .ok (.tableswitch 80 0 4 #[36, 80, 44, 59, 77], 36) := by decide +kernel
theorem dX5_afterDays_136 : decode cX5_afterDays 136 = .ok (.aload_n 0, 1) := by decide +kernel
theorem dX5_afterDays_137 : decode cX5_afterDays 137 = .ok (.getfield 18, 3) := by decide +kernel
theorem dX5_afterDays_140 : decode cX5_afterDays 140 = .ok (.getfield 76, 3) := by decide +kernel
theorem dX5_afterDays_143 : decode cX5_afterDays 143 = .ok (.ireturn, 1) := by decide +kernel
theorem dX5_afterDays_144 : decode cX5_afterDays 144 = .ok (.aload_n 0, 1) := by decide +kernel
theorem dX5_afterDays_145 : decode cX5_afterDays 145 = .ok (.getfield 18, 3) := by decide +kernel
theorem dX5_afterDays_148 : decode cX5_afterDays 148 = .ok (.aload_n 0, 1) := by decide +kernel
theorem dX5_afterDays_149 : decode cX5_afterDays 149 = .ok (.getfield 18, 3) := by decide +kernel
theorem dX5_afterDays_152 : decode cX5_afterDays 152 = .ok (.invokevirtual 96, 3) := by decide +kernel
theorem dX5_afterDays_155 : decode cX5_afterDays 155 = .ok (.invokevirtual 118, 3) := by decide +kernel
theorem dX5_afterDays_158 : decode cX5_afterDays 158 = .ok (.ireturn, 1) := by decide +kernel
theorem dX5_afterDays_159 : decode cX5_afterDays 159 = .ok (.aload_n 0, 1) := by decide +kernel
theorem dX5_afterDays_160 : decode cX5_afterDays 160 = .ok (.getfield 18, 3) := by decide +kernel
theorem dX5_afterDays_163 : decode cX5_afterDays 163 = .ok (.aload_n 0, 1) := by decide +kernel
theorem dX5_afterDays_164 : decode cX5_afterDays 164 = .ok (.getfield 18, 3) := by decide +kernel
theorem dX5_afterDays_167 : decode cX5_afterDays 167 = .ok (.invokevirtual 96, 3) := by decide +kernel
theorem dX5_afterDays_170 : decode cX5_afterDays 170 = .ok (.invokevirtual 102, 3) := by decide +kernel
theorem dX5_afterDays_173 : decode cX5_afterDays 173 = .ok (.invokestatic 115, 3) := by decide +kernel
theorem dX5_afterDays_176 : decode cX5_afterDays 176 = .ok (.ireturn, 1) := by decide +kernel
theorem dX5_afterDays_177 : decode cX5_afterDays 177 = .ok (.iload 5, 2) := by decide +kernel
theorem dX5_afterDays_179 : decode cX5_afterDays 179 = .ok (.ireturn, 1) := by decide +kernel
theorem dX5_afterDays_180 : decode cX5_afterDays 180 = .ok (.bipush (-9), 2) := by decide +kernel
theorem dX5_afterDays_182 : decode cX5_afterDays 182 = .ok (.ireturn, 1) := by decide +kernel
set_option maxRecDepth 20000 in
theorem ggX5_fitsInOrder_X4_becomeOrdered : GoodIn wsX5_fitsInOrder wsX4_becomeOrdered := goodIn_r _ [9, 10, 11, 12, 13, 14, 15, 8, 16, 17, 18, 19, 20, 21, 22, 23, 24, 25, 26, 27, 28, 29, 30, 31, 32, 33, 34, 35, 36, 37, 38, 39, 40, 41, 42, 43, 44, 45, 46, 47, 82, 83, 84, 85, 86, 87, 88, 89, 90] (by decide +kernel) (by decide +kernel)
set_option maxRecDepth 20000 in
theorem gX5_fitsInOrder_X4_becomeOrdered : GoodIn wsX5_fitsInOrder (wsV RX5 245 RX4 yX4_becomeOrdered wsX4_becomeOrdered) := goodIn_app (goodIn_of _ (by decide +kernel)) ggX5_fitsInOrder_X4_becomeOrdered
set_option maxRecDepth 20000 in
theorem ggX5_fitsInOrder_X2_agreeWith : GoodIn wsX5_fitsInOrder wsX2_agreeWith := goodIn_r _ [52, 53, 54, 55, 56, 57, 58, 8, 59, 28, 35, 60, 61, 62, 63, 12, 33, 64, 65, 66, 43, 67, 45, 46, 68, 69, 70, 71, 72, 73, 74, 91, 92, 93, 82, 83, 84, 85, 88, 89, 90] (by decide +kernel) (by decide +kernel)
set_option maxRecDepth 20000 in
theorem gX5_fitsInOrder_X2_agreeWith : GoodIn wsX5_fitsInOrder (wsV RX5 249 RX2 yX2_agreeWith wsX2_agreeWith) := goodIn_app (goodIn_of _ (by decide +kernel)) ggX5_fitsInOrder_X2_agreeWith
theorem dX5_fitsInOrder_0 : decode cX5_fitsInOrder 0 = .ok (.aload_n 0, 1) := by decide +kernel
theorem dX5_fitsInOrder_1 : decode cX5_fitsInOrder 1 = .ok (.getfield 18, 3) := by decide +kernel
theorem dX5_fitsInOrder_4 : decode cX5_fitsInOrder 4 = .ok (.aload_n 0, 1) := by decide +kernel
theorem dX5_fitsInOrder_5 : decode cX5_fitsInOrder 5 = .ok (.getfield 12, 3) := by decide +kernel
theorem dX5_fitsInOrder_8 : decode cX5_fitsInOrder 8 = .ok (.aload_n 0, 1) := by decide +kernel
theorem dX5_fitsInOrder_9 : decode cX5_fitsInOrder 9 = .ok (.getfield 31, 3) := by decide +kernel
theorem dX5_fitsInOrder_12 : decode cX5_fitsInOrder 12 = .ok (.invokevirtual 245, 3) := by decide +kernel
theorem dX5_fitsInOrder_15 : decode cX5_fitsInOrder 15 = .ok (.aload_n 0, 1) := by decide +kernel
theorem dX5_fitsInOrder_16 : decode cX5_fitsInOrder 16 = .ok (.getfield 24, 3) := by decide +kernel
theorem dX5_fitsInOrder_19 : decode cX5_fitsInOrder 19 = .ok (.aload_n 0, 1) := by decide +kernel
theorem dX5_fitsInOrder_20 : decode cX5_fitsInOrder 20 = .ok (.getfield 18, 3) := by decide +kernel
theorem dX5_fitsInOrder_23 : decode cX5_fitsInOrder 23 = .ok (.invokevirtual 249, 3) := by decide +kernel
theorem dX5_fitsInOrder_26 : decode cX5_fitsInOrder 26 = .ok (.ireturn, 1) := by decide +kernel
set_option maxRecDepth 20000 in
theorem ggX5_countOrders_X1_begin : GoodIn wsX5_countOrders wsX1_begin := goodIn_r _ [8, 9, 10, 11, 12, 13, 14, 15, 16, 17, 119, 120] (by decide +kernel) (by decide +kernel)
set_option maxRecDepth 20000 in
theorem gX5_countOrders_X1_begin : GoodIn wsX5_countOrders (wsV RX5 253 RX1 yX1_begin wsX1_begin) := goodIn_app (goodIn_of _ (by decide +kernel)) ggX5_countOrders_X1_begin
set_option maxRecDepth 20000 in
theorem ggX5_countOrders_X5_fitsInOrder : GoodIn wsX5_countOrders wsX5_fitsInOrder := goodIn_r _ [22, 23, 2, 1, 24, 25, 26, 27, 28, 29, 30, 31, 32, 33, 34, 35, 36, 37, 38, 39, 7, 40, 16, 17, 41, 42, 43, 44, 45, 46, 47, 48, 49, 50, 51, 52, 53, 54, 55, 56, 57, 58, 59, 60, 61, 62, 63, 64, 65, 66, 67, 68, 69, 70, 71, 72, 73, 74, 75, 76, 77, 78, 79, 80, 81, 82, 83, 84, 85, 86, 87, 88, 89, 90, 91, 108, 109, 110, 111, 112, 113, 114, 115, 116, 117, 118, 119, 120, 121, 122, 123, 124, 125, 126] (by decide +kernel) (by decide +kernel)
set_option maxRecDepth 20000 in
theorem gX5_countOrders_X5_fitsInOrder : GoodIn wsX5_countOrders (wsV RX5 256 RX5 yX5_fitsInOrder wsX5_fitsInOrder) := goodIn_app (goodIn_of _ (by decide +kernel)) ggX5_countOrders_X5_fitsInOrder
set_option maxRecDepth 20000 in
theorem ggX5_countOrders_X1_next : GoodIn wsX5_countOrders wsX1_next := goodIn_r _ [95, 16, 17, 96, 97, 98, 7, 99, 100, 101, 102, 103, 104, 105, 106, 107, 119, 120] (by decide +kernel) (by decide +kernel)
set_option maxRecDepth 20000 in
theorem gX5_countOrders_X1_next : GoodIn wsX5_countOrders (wsV RX5 259 RX1 yX1_next wsX1_next) := goodIn_app (goodIn_of _ (by decide +kernel)) ggX5_countOrders_X1_next
theorem dX5_countOrders_0 : decode cX5_countOrders 0 = .ok (.iconst 0, 1) := by decide +kernel
theorem dX5_countOrders_1 : decode cX5_countOrders 1 = .ok (.istore_n 1, 1) := by decide +kernel
theorem dX5_countOrders_2 : decode cX5_countOrders 2 = .ok (.aload_n 0, 1) := by decide +kernel
theorem dX5_countOrders_3 : decode cX5_countOrders 3 = .ok (.getfield 31, 3) := by decide +kernel
theorem dX5_countOrders_6 : decode cX5_countOrders 6 = .ok (.aload_n 0, 1) := by decide +kernel
theorem dX5_countOrders_7 : decode cX5_countOrders 7 = .ok (.getfield 12, 3) := by decide +kernel
theorem dX5_countOrders_10 : decode cX5_countOrders 10 = .ok (.getfield 76, 3) := by decide +kernel
theorem dX5_countOrders_13 : decode cX5_countOrders 13 = .ok (.invokevirtual 253, 3) := by decide +kernel
theorem dX5_countOrders_16 : decode cX5_countOrders 16 = .ok (.iconst 0, 1) := by decide +kernel
theorem dX5_countOrders_17 : decode cX5_countOrders 17 = .ok (.istore_n 2, 1) := by decide +kernel
theorem dX5_countOrders_18 : decode cX5_countOrders 18 = .ok (.iload_n 2, 1) := by decide +kernel
theorem dX5_countOrders_19 : decode cX5_countOrders 19 = .ok (.sipush 720, 3) := by decide +kernel
theorem dX5_countOrders_22 : decode cX5_countOrders 22 = .ok (.if_icmp .ge 31, 3) := by decide +kernel
theorem dX5_countOrders_25 : decode cX5_countOrders 25 = .ok (.aload_n 0, 1) := by decide +kernel
theorem dX5_countOrders_26 : decode cX5_countOrders 26 = .ok (.invokevirtual 256, 3) := by decide +kernel
theorem dX5_countOrders_29 : decode cX5_countOrders 29 = .ok (.ifCond .eq 6, 3) := by decide +kernel
theorem dX5_countOrders_32 : decode cX5_countOrders 32 = .ok (.iinc 1 1, 3) := by decide +kernel
theorem dX5_countOrders_35 : decode cX5_countOrders 35 = .ok (.aload_n 0, 1) := by decide +kernel
theorem dX5_countOrders_36 : decode cX5_countOrders 36 = .ok (.getfield 31, 3) := by decide +kernel
theorem dX5_countOrders_39 : decode cX5_countOrders 39 = .ok (.invokevirtual 259, 3) := by decide +kernel
theorem dX5_countOrders_42 : decode cX5_countOrders 42 = .ok (.ifCond .ne 5, 3) := by decide +kernel
theorem dX5_countOrders_45 : decode cX5_countOrders 45 = .ok (.iload_n 1, 1) := by decide +kernel
theorem dX5_countOrders_46 : decode cX5_countOrders 46 = .ok (.ireturn, 1) := by decide +kernel
theorem dX5_countOrders_47 : decode cX5_countOrders 47 = .ok (.iinc 2 1, 3) := by decide +kernel
theorem dX5_countOrders_50 : decode cX5_countOrders 50 = .ok (.goto (-32), 3) := by decide +kernel
theorem dX5_countOrders_53 : decode cX5_countOrders 53 = .ok (.iload_n 1, 1) := by decide +kernel
theorem dX5_countOrders_54 : decode cX5_countOrders 54 = .ok (.ireturn, 1) := by decide +kernel
set_option maxRecDepth 20000 in
theorem ggX5_findOrder_X1_begin : GoodIn wsX5_findOrder wsX1_begin := goodIn_r _ [8, 9, 10, 11, 12, 13, 14, 15, 16, 17, 119, 120] (by decide +kernel) (by decide +kernel)
set_option maxRecDepth 20000 in
theorem gX5_findOrder_X1_begin : GoodIn wsX5_findOrder (wsV RX5 253 RX1 yX1_begin wsX1_begin) := goodIn_app (goodIn_of _ (by decide +kernel)) ggX5_findOrder_X1_begin
set_option maxRecDepth 20000 in
theorem ggX5_findOrder_X5_fitsInOrder : GoodIn wsX5_findOrder wsX5_fitsInOrder := goodIn_r _ [22, 23, 2, 1, 24, 25, 26, 27, 28, 29, 30, 31, 32, 33, 34, 35, 36, 37, 38, 39, 7, 40, 16, 17, 41, 42, 43, 44, 45, 46, 47, 48, 49, 50, 51, 52, 53, 54, 55, 56, 57, 58, 59, 60, 61, 62, 63, 64, 65, 66, 67, 68, 69, 70, 71, 72, 73, 74, 75, 76, 77, 78, 79, 80, 81, 82, 83, 84, 85, 86, 87, 88, 89, 90, 91, 108, 109, 110, 111, 112, 113, 114, 115, 116, 117, 118, 119, 120, 121, 122, 123, 124, 125, 126] (by decide +kernel) (by decide +kernel)
set_option maxRecDepth 20000 in
theorem gX5_findOrder_X5_fitsInOrder : GoodIn wsX5_findOrder (wsV RX5 256 RX5 yX5_fitsInOrder wsX5_fitsInOrder) := goodIn_app (goodIn_of _ (by decide +kernel)) ggX5_findOrder_X5_fitsInOrder
set_option maxRecDepth 20000 in
theorem ggX5_findOrder_X1_next : GoodIn wsX5_findOrder wsX1_next := goodIn_r _ [95, 16, 17, 96, 97, 98, 7, 99, 100, 101, 102, 103, 104, 105, 106, 107, 119, 120] (by decide +kernel) (by decide +kernel)
set_option maxRecDepth 20000 in
theorem gX5_findOrder_X1_next : GoodIn wsX5_findOrder (wsV RX5 259 RX1 yX1_next wsX1_next) := goodIn_app (goodIn_of _ (by decide +kernel)) ggX5_findOrder_X1_next
theorem dX5_findOrder_0 : decode cX5_findOrder 0 = .ok (.aload_n 0, 1) := by decide +kernel
theorem dX5_findOrder_1 : decode cX5_findOrder 1 = .ok (.getfield 31, 3) := by decide +kernel
theorem dX5_findOrder_4 : decode cX5_findOrder 4 = .ok (.aload_n 0, 1) := by decide +kernel
theorem dX5_findOrder_5 : decode cX5_findOrder 5 = .ok (.getfield 12, 3) := by decide +kernel
theorem dX5_findOrder_8 : decode cX5_findOrder 8 = .ok (.getfield 76, 3) := by decide +kernel
theorem dX5_findOrder_11 : decode cX5_findOrder 11 = .ok (.invokevirtual 253, 3) := by decide +kernel
theorem dX5_findOrder_14 : decode cX5_findOrder 14 = .ok (.iconst 0, 1) := by decide +kernel
theorem dX5_findOrder_15 : decode cX5_findOrder 15 = .ok (.istore_n 1, 1) := by decide +kernel
theorem dX5_findOrder_16 : decode cX5_findOrder 16 = .ok (.iload_n 1, 1) := by decide +kernel
theorem dX5_findOrder_17 : decode cX5_findOrder 17 = .ok (.sipush 720, 3) := by decide +kernel
theorem dX5_findOrder_20 : decode cX5_findOrder 20 = .ok (.if_icmp .ge 30, 3) := by decide +kernel
theorem dX5_findOrder_23 : decode cX5_findOrder 23 = .ok (.aload_n 0, 1) := by decide +kernel
theorem dX5_findOrder_24 : decode cX5_findOrder 24 = .ok (.invokevirtual 256, 3) := by decide +kernel
theorem dX5_findOrder_27 : decode cX5_findOrder 27 = .ok (.ifCond .eq 5, 3) := by decide +kernel
theorem dX5_findOrder_30 : decode cX5_findOrder 30 = .ok (.iconst 1, 1) := by decide +kernel
theorem dX5_findOrder_31 : decode cX5_findOrder 31 = .ok (.ireturn, 1) := by decide +kernel
theorem dX5_findOrder_32 : decode cX5_findOrder 32 = .ok (.aload_n 0, 1) := by decide +kernel
theorem dX5_findOrder_33 : decode cX5_findOrder 33 = .ok (.getfield 31, 3) := by decide +kernel
theorem dX5_findOrder_36 : decode cX5_findOrder 36 = .ok (.invokevirtual 259, 3) := by decide +kernel
theorem dX5_findOrder_39 : decode cX5_findOrder 39 = .ok (.ifCond .ne 5, 3) := by decide +kernel
theorem dX5_findOrder_42 : decode cX5_findOrder 42 = .ok (.iconst 0, 1) := by decide +kernel
theorem dX5_findOrder_43 : decode cX5_findOrder 43 = .ok (.ireturn, 1) := by decide +kernel
theorem dX5_findOrder_44 : decode cX5_findOrder 44 = .ok (.iinc 1 1, 3) := by decide +kernel
theorem dX5_findOrder_47 : decode cX5_findOrder 47 = .ok (.goto (-31), 3) := by decide +kernel
theorem dX5_findOrder_50 : decode cX5_findOrder 50 = .ok (.iconst 0, 1) := by decide +kernel
theorem dX5_findOrder_51 : decode cX5_findOrder 51 = .ok (.ireturn, 1) := by decide +kernel
set_option maxRecDepth 20000 in
theorem ggX5_fitting_X4_become : GoodIn wsX5_fitting wsX4_become := goodIn_r _ [8, 9, 10, 11, 7, 12, 13, 14, 15, 16, 17, 18, 19, 20, 21, 22, 23, 24, 25, 26, 27, 28, 29, 30, 31, 32, 33, 34, 35, 36, 37, 38, 39, 40, 41, 42, 43, 82, 83, 84, 85, 86, 87, 88] (by decide +kernel) (by decide +kernel)
set_option maxRecDepth 20000 in
theorem gX5_fitting_X4_become : GoodIn wsX5_fitting (wsV RX5 238 RX4 yX4_become wsX4_become) := goodIn_app (goodIn_of _ (by decide +kernel)) ggX5_fitting_X4_become
set_option maxRecDepth 20000 in
theorem ggX5_fitting_X4_change : GoodIn wsX5_fitting wsX4_change := goodIn_r _ [47, 29, 30, 31, 20, 21, 22, 7, 23, 15, 24, 86, 87, 88, 82, 83, 84, 85] (by decide +kernel) (by decide +kernel)
set_option maxRecDepth 20000 in
theorem gX5_fitting_X4_change : GoodIn wsX5_fitting (wsV RX5 262 RX4 yX4_change wsX4_change) := goodIn_app (goodIn_of _ (by decide +kernel)) ggX5_fitting_X4_change
set_option maxRecDepth 20000 in
theorem ggX5_fitting_X2_agreeWith : GoodIn wsX5_fitting wsX2_agreeWith := goodIn_r _ [52, 53, 54, 55, 56, 57, 58, 7, 59, 24, 31, 60, 61, 62, 63, 15, 29, 64, 65, 66, 39, 67, 41, 42, 68, 69, 70, 71, 72, 73, 74, 89, 90, 91, 82, 83, 84, 85, 86, 87, 88] (by decide +kernel) (by decide +kernel)
set_option maxRecDepth 20000 in
theorem gX5_fitting_X2_agreeWith : GoodIn wsX5_fitting (wsV RX5 249 RX2 yX2_agreeWith wsX2_agreeWith) := goodIn_app (goodIn_of _ (by decide +kernel)) ggX5_fitting_X2_agreeWith
theorem dX5_fitting_0 : decode cX5_fitting 0 = .ok (.iconst 0, 1) := by decide +kernel
theorem dX5_fitting_1 : decode cX5_fitting 1 = .ok (.istore 4, 2) := by decide +kernel
theorem dX5_fitting_3 : decode cX5_fitting 3 = .ok (.iconst 0, 1) := by decide +kernel
theorem dX5_fitting_4 : decode cX5_fitting 4 = .ok (.istore 5, 2) := by decide +kernel
theorem dX5_fitting_6 : decode cX5_fitting 6 = .ok (.iload 5, 2) := by decide +kernel
theorem dX5_fitting_8 : decode cX5_fitting 8 = .ok (.iload_n 3, 1) := by decide +kernel
theorem dX5_fitting_9 : decode cX5_fitting 9 = .ok (.if_icmp .gt 54, 3) := by decide +kernel
theorem dX5_fitting_12 : decode cX5_fitting 12 = .ok (.aload_n 0, 1) := by decide +kernel
theorem dX5_fitting_13 : decode cX5_fitting 13 = .ok (.getfield 18, 3) := by decide +kernel
theorem dX5_fitting_16 : decode cX5_fitting 16 = .ok (.aload_n 0, 1) := by decide +kernel
theorem dX5_fitting_17 : decode cX5_fitting 17 = .ok (.getfield 12, 3) := by decide +kernel
theorem dX5_fitting_20 : decode cX5_fitting 20 = .ok (.invokevirtual 238, 3) := by decide +kernel
theorem dX5_fitting_23 : decode cX5_fitting 23 = .ok (.aload_n 0, 1) := by decide +kernel
theorem dX5_fitting_24 : decode cX5_fitting 24 = .ok (.getfield 18, 3) := by decide +kernel
theorem dX5_fitting_27 : decode cX5_fitting 27 = .ok (.iload_n 1, 1) := by decide +kernel
theorem dX5_fitting_28 : decode cX5_fitting 28 = .ok (.iload_n 2, 1) := by decide +kernel
theorem dX5_fitting_29 : decode cX5_fitting 29 = .ok (.iload 5, 2) := by decide +kernel
theorem dX5_fitting_31 : decode cX5_fitting 31 = .ok (.invokevirtual 262, 3) := by decide +kernel
theorem dX5_fitting_34 : decode cX5_fitting 34 = .ok (.aload_n 0, 1) := by decide +kernel
theorem dX5_fitting_35 : decode cX5_fitting 35 = .ok (.getfield 24, 3) := by decide +kernel
theorem dX5_fitting_38 : decode cX5_fitting 38 = .ok (.aload_n 0, 1) := by decide +kernel
theorem dX5_fitting_39 : decode cX5_fitting 39 = .ok (.getfield 18, 3) := by decide +kernel
theorem dX5_fitting_42 : decode cX5_fitting 42 = .ok (.invokevirtual 249, 3) := by decide +kernel
theorem dX5_fitting_45 : decode cX5_fitting 45 = .ok (.ifCond .eq 12, 3) := by decide +kernel
theorem dX5_fitting_48 : decode cX5_fitting 48 = .ok (.iload 4, 2) := by decide +kernel
theorem dX5_fitting_50 : decode cX5_fitting 50 = .ok (.iconst 1, 1) := by decide +kernel
theorem dX5_fitting_51 : decode cX5_fitting 51 = .ok (.iload 5, 2) := by decide +kernel
theorem dX5_fitting_53 : decode cX5_fitting 53 = .ok (.ishl, 1) := by decide +kernel
theorem dX5_fitting_54 : decode cX5_fitting 54 = .ok (.ior, 1) := by decide +kernel
theorem dX5_fitting_55 : decode cX5_fitting 55 = .ok (.istore 4, 2) := by decide +kernel
theorem dX5_fitting_57 : decode cX5_fitting 57 = .ok (.iinc 5 1, 3) := by decide +kernel
theorem dX5_fitting_60 : decode cX5_fitting 60 = .ok (.goto (-54), 3) := by decide +kernel
theorem dX5_fitting_63 : decode cX5_fitting 63 = .ok (.iload 4, 2) := by decide +kernel
theorem dX5_fitting_65 : decode cX5_fitting 65 = .ok (.ireturn, 1) := by decide +kernel
end
section
theorem dX5_leave_0 : decode cX5_leave 0 = .ok (.aload_n 0, 1) := by decide +kernel
theorem dX5_leave_1 : decode cX5_leave 1 = .ok (.bipush 31, 2) := by decide +kernel
theorem dX5_leave_3 : decode cX5_leave 3 = .ok (.aload_n 0, 1) := by decide +kernel
theorem dX5_leave_4 : decode cX5_leave 4 = .ok (.getfield 223, 3) := by decide +kernel
theorem dX5_leave_7 : decode cX5_leave 7 = .ok (.imul, 1) := by decide +kernel
theorem dX5_leave_8 : decode cX5_leave 8 = .ok (.iload_n 1, 1) := by decide +kernel
theorem dX5_leave_9 : decode cX5_leave 9 = .ok (.iadd, 1) := by decide +kernel
theorem dX5_leave_10 : decode cX5_leave 10 = .ok (.putfield 223, 3) := by decide +kernel
theorem dX5_leave_13 : decode cX5_leave 13 = .ok (.return_, 1) := by decide +kernel
set_option maxRecDepth 20000 in
theorem ggX5_tellStripe_X5_leave : GoodIn wsX5_tellStripe wsX5_leave := goodIn_r _ [6, 7, 11, 12, 13, 14, 15, 16, 17] (by decide +kernel) (by decide +kernel)
set_option maxRecDepth 20000 in
theorem gX5_tellStripe_X5_leave : GoodIn wsX5_tellStripe (wsV RX5 266 RX5 yX5_leave wsX5_leave) := goodIn_app (goodIn_of _ (by decide +kernel)) ggX5_tellStripe_X5_leave
theorem dX5_tellStripe_0 : decode cX5_tellStripe 0 = .ok (.aload_n 0, 1) := by decide +kernel
theorem dX5_tellStripe_1 : decode cX5_tellStripe 1 = .ok (.iconst 1, 1) := by decide +kernel
theorem dX5_tellStripe_2 : decode cX5_tellStripe 2 = .ok (.invokevirtual 266, 3) := by decide +kernel
theorem dX5_tellStripe_5 : decode cX5_tellStripe 5 = .ok (.aload_n 1, 1) := by decide +kernel
theorem dX5_tellStripe_6 : decode cX5_tellStripe 6 = .ok (.getfield 86, 3) := by decide +kernel
theorem dX5_tellStripe_9 : decode cX5_tellStripe 9 = .ok (.ireturn, 1) := by decide +kernel
set_option maxRecDepth 20000 in
theorem ggX5_tellTrellis_X5_leave : GoodIn wsX5_tellTrellis wsX5_leave := goodIn_r _ [5, 6, 12, 13, 14, 15, 16, 17, 18] (by decide +kernel) (by decide +kernel)
set_option maxRecDepth 20000 in
theorem gX5_tellTrellis_X5_leave : GoodIn wsX5_tellTrellis (wsV RX5 266 RX5 yX5_leave wsX5_leave) := goodIn_app (goodIn_of _ (by decide +kernel)) ggX5_tellTrellis_X5_leave
set_option maxRecDepth 20000 in
theorem ggX5_tellTrellis_X5_tellStripe : GoodIn wsX5_tellTrellis wsX5_tellStripe := goodIn_r _ [10, 11, 1, 2, 3, 4, 5, 6, 19, 20, 21, 12, 13, 14, 15, 16, 17, 18] (by decide +kernel) (by decide +kernel)
set_option maxRecDepth 20000 in
theorem gX5_tellTrellis_X5_tellStripe : GoodIn wsX5_tellTrellis (wsV RX5 210 RX5 yX5_tellStripe wsX5_tellStripe) := goodIn_app (goodIn_of _ (by decide +kernel)) ggX5_tellTrellis_X5_tellStripe
theorem dX5_tellTrellis_0 : decode cX5_tellTrellis 0 = .ok (.aload_n 0, 1) := by decide +kernel
theorem dX5_tellTrellis_1 : decode cX5_tellTrellis 1 = .ok (.iconst 2, 1) := by decide +kernel
theorem dX5_tellTrellis_2 : decode cX5_tellTrellis 2 = .ok (.invokevirtual 266, 3) := by decide +kernel
theorem dX5_tellTrellis_5 : decode cX5_tellTrellis 5 = .ok (.aload_n 0, 1) := by decide +kernel
theorem dX5_tellTrellis_6 : decode cX5_tellTrellis 6 = .ok (.aload_n 1, 1) := by decide +kernel
theorem dX5_tellTrellis_7 : decode cX5_tellTrellis 7 = .ok (.invokevirtual 210, 3) := by decide +kernel
theorem dX5_tellTrellis_10 : decode cX5_tellTrellis 10 = .ok (.bipush 100, 2) := by decide +kernel
theorem dX5_tellTrellis_12 : decode cX5_tellTrellis 12 = .ok (.iadd, 1) := by decide +kernel
theorem dX5_tellTrellis_13 : decode cX5_tellTrellis 13 = .ok (.ireturn, 1) := by decide +kernel
set_option maxRecDepth 20000 in
theorem ggX5_tellRed_X5_leave : GoodIn wsX5_tellRed wsX5_leave := goodIn_r _ [5, 6, 16, 17, 18, 19, 20, 21, 22] (by decide +kernel) (by decide +kernel)
set_option maxRecDepth 20000 in
theorem gX5_tellRed_X5_leave : GoodIn wsX5_tellRed (wsV RX5 266 RX5 yX5_leave wsX5_leave) := goodIn_app (goodIn_of _ (by decide +kernel)) ggX5_tellRed_X5_leave
set_option maxRecDepth 20000 in
theorem ggX5_tellRed_X5_tellTrellis : GoodIn wsX5_tellRed wsX5_tellTrellis := goodIn_r _ [10, 1, 2, 3, 4, 5, 6, 11, 12, 13, 14, 15, 16, 17, 18, 19, 20, 21, 22, 23, 24, 25] (by decide +kernel) (by decide +kernel)
set_option maxRecDepth 20000 in
theorem gX5_tellRed_X5_tellTrellis : GoodIn wsX5_tellRed (wsV RX5 207 RX5 yX5_tellTrellis wsX5_tellTrellis) := goodIn_app (goodIn_of _ (by decide +kernel)) ggX5_tellRed_X5_tellTrellis
set_option maxRecDepth 20000 in
theorem ggX5_tellRed_X5_tellStripe : GoodIn wsX5_tellRed wsX5_tellStripe := goodIn_r _ [14, 15, 1, 2, 3, 4, 5, 6, 23, 24, 25, 16, 17, 18, 19, 20, 21, 22] (by decide +kernel) (by decide +kernel)
set_option maxRecDepth 20000 in
theorem gX5_tellRed_X5_tellStripe : GoodIn wsX5_tellRed (wsV RX5 210 RX5 yX5_tellStripe wsX5_tellStripe) := goodIn_app (goodIn_of _ (by decide +kernel)) ggX5_tellRed_X5_tellStripe
theorem dX5_tellRed_0 : decode cX5_tellRed 0 = .ok (.aload_n 0, 1) := by decide +kernel
theorem dX5_tellRed_1 : decode cX5_tellRed 1 = .ok (.iconst 3, 1) := by decide +kernel
theorem dX5_tellRed_2 : decode cX5_tellRed 2 = .ok (.invokevirtual 266, 3) := by decide +kernel
theorem dX5_tellRed_5 : decode cX5_tellRed 5 = .ok (.aload_n 0, 1) := by decide +kernel
theorem dX5_tellRed_6 : decode cX5_tellRed 6 = .ok (.aload_n 1, 1) := by decide +kernel
theorem dX5_tellRed_7 : decode cX5_tellRed 7 = .ok (.invokevirtual 207, 3) := by decide +kernel
theorem dX5_tellRed_10 : decode cX5_tellRed 10 = .ok (.istore_n 2, 1) := by decide +kernel
theorem dX5_tellRed_11 : decode cX5_tellRed 11 = .ok (.iload_n 2, 1) := by decide +kernel
theorem dX5_tellRed_12 : decode cX5_tellRed 12 = .ok (.aload_n 0, 1) := by decide +kernel
theorem dX5_tellRed_13 : decode cX5_tellRed 13 = .ok (.aload_n 1, 1) := by decide +kernel
theorem dX5_tellRed_14 : decode cX5_tellRed 14 = .ok (.invokevirtual 210, 3) := by decide +kernel
theorem dX5_tellRed_17 : decode cX5_tellRed 17 = .ok (.iadd, 1) := by decide +kernel
theorem dX5_tellRed_18 : decode cX5_tellRed 18 = .ok (.ireturn, 1) := by decide +kernel
set_option maxRecDepth 20000 in
theorem ggX5_strokeLent_X5_leave : GoodIn wsX5_strokeLent wsX5_leave := goodIn_r _ [6, 7, 11, 12, 13, 14, 15, 16, 17] (by decide +kernel) (by decide +kernel)
set_option maxRecDepth 20000 in
theorem gX5_strokeLent_X5_leave : GoodIn wsX5_strokeLent (wsV RX5 266 RX5 yX5_leave wsX5_leave) := goodIn_app (goodIn_of _ (by decide +kernel)) ggX5_strokeLent_X5_leave
theorem dX5_strokeLent_0 : decode cX5_strokeLent 0 = .ok (.aload_n 0, 1) := by decide +kernel
theorem dX5_strokeLent_1 : decode cX5_strokeLent 1 = .ok (.iconst 4, 1) := by decide +kernel
theorem dX5_strokeLent_2 : decode cX5_strokeLent 2 = .ok (.invokevirtual 266, 3) := by decide +kernel
theorem dX5_strokeLent_5 : decode cX5_strokeLent 5 = .ok (.aload_n 1, 1) := by decide +kernel
theorem dX5_strokeLent_6 : decode cX5_strokeLent 6 = .ok (.getfield 89, 3) := by decide +kernel
theorem dX5_strokeLent_9 : decode cX5_strokeLent 9 = .ok (.ireturn, 1) := by decide +kernel
set_option maxRecDepth 20000 in
theorem ggX5_strokeRed_X5_leave : GoodIn wsX5_strokeRed wsX5_leave := goodIn_r _ [5, 6, 7, 8, 9, 10, 11, 12, 13] (by decide +kernel) (by decide +kernel)
set_option maxRecDepth 20000 in
theorem gX5_strokeRed_X5_leave : GoodIn wsX5_strokeRed (wsV RX5 266 RX5 yX5_leave wsX5_leave) := goodIn_app (goodIn_of _ (by decide +kernel)) ggX5_strokeRed_X5_leave
theorem dX5_strokeRed_0 : decode cX5_strokeRed 0 = .ok (.aload_n 0, 1) := by decide +kernel
theorem dX5_strokeRed_1 : decode cX5_strokeRed 1 = .ok (.iconst 5, 1) := by decide +kernel
theorem dX5_strokeRed_2 : decode cX5_strokeRed 2 = .ok (.invokevirtual 266, 3) := by decide +kernel
theorem dX5_strokeRed_5 : decode cX5_strokeRed 5 = .ok (.bipush 10, 2) := by decide +kernel
theorem dX5_strokeRed_7 : decode cX5_strokeRed 7 = .ok (.ireturn, 1) := by decide +kernel
theorem dX6_init_0 : decode cX6_init 0 = .ok (.aload_n 0, 1) := by decide +kernel
theorem dX6_init_1 : decode cX6_init 1 = .ok (.invokespecial 1, 3) := by decide +kernel
theorem dX6_init_4 : decode cX6_init 4 = .ok (.aload_n 0, 1) := by decide +kernel
theorem dX6_init_5 : decode cX6_init 5 = .ok (.iconst 4, 1) := by decide +kernel
theorem dX6_init_6 : decode cX6_init 6 = .ok (.newarray .int, 2) := by decide +kernel
theorem dX6_init_8 : decode cX6_init 8 = .ok (.dup, 1) := by decide +kernel
theorem dX6_init_9 : decode cX6_init 9 = .ok (.iconst 0, 1) := by decide +kernel
theorem dX6_init_10 : decode cX6_init 10 = .ok (.bipush (-9), 2) := by decide +kernel
theorem dX6_init_12 : decode cX6_init 12 = .ok (.iastore, 1) := by decide +kernel
theorem dX6_init_13 : decode cX6_init 13 = .ok (.dup, 1) := by decide +kernel
theorem dX6_init_14 : decode cX6_init 14 = .ok (.iconst 1, 1) := by decide +kernel
theorem dX6_init_15 : decode cX6_init 15 = .ok (.bipush (-9), 2) := by decide +kernel
theorem dX6_init_17 : decode cX6_init 17 = .ok (.iastore, 1) := by decide +kernel
theorem dX6_init_18 : decode cX6_init 18 = .ok (.dup, 1) := by decide +kernel
theorem dX6_init_19 : decode cX6_init 19 = .ok (.iconst 2, 1) := by decide +kernel
theorem dX6_init_20 : decode cX6_init 20 = .ok (.bipush (-9), 2) := by decide +kernel
theorem dX6_init_22 : decode cX6_init 22 = .ok (.iastore, 1) := by decide +kernel
theorem dX6_init_23 : decode cX6_init 23 = .ok (.dup, 1) := by decide +kernel
theorem dX6_init_24 : decode cX6_init 24 = .ok (.iconst 3, 1) := by decide +kernel
theorem dX6_init_25 : decode cX6_init 25 = .ok (.bipush (-9), 2) := by decide +kernel
theorem dX6_init_27 : decode cX6_init 27 = .ok (.iastore, 1) := by decide +kernel
theorem dX6_init_28 : decode cX6_init 28 = .ok (.putfield 9, 3) := by decide +kernel
theorem dX6_init_31 : decode cX6_init 31 = .ok (.aload_n 0, 1) := by decide +kernel
theorem dX6_init_32 : decode cX6_init 32 = .ok (.iconst 4, 1) := by decide +kernel
theorem dX6_init_33 : decode cX6_init 33 = .ok (.newarray .int, 2) := by decide +kernel
theorem dX6_init_35 : decode cX6_init 35 = .ok (.putfield 13, 3) := by decide +kernel
theorem dX6_init_38 : decode cX6_init 38 = .ok (.aload_n 0, 1) := by decide +kernel
theorem dX6_init_39 : decode cX6_init 39 = .ok (.sipush 240, 3) := by decide +kernel
theorem dX6_init_42 : decode cX6_init 42 = .ok (.newarray .int, 2) := by decide +kernel
theorem dX6_init_44 : decode cX6_init 44 = .ok (.putfield 16, 3) := by decide +kernel
theorem dX6_init_47 : decode cX6_init 47 = .ok (.aload_n 0, 1) := by decide +kernel
theorem dX6_init_48 : decode cX6_init 48 = .ok (.bipush 6, 2) := by decide +kernel
theorem dX6_init_50 : decode cX6_init 50 = .ok (.newarray .int, 2) := by decide +kernel
theorem dX6_init_52 : decode cX6_init 52 = .ok (.putfield 19, 3) := by decide +kernel
theorem dX6_init_55 : decode cX6_init 55 = .ok (.aload_n 0, 1) := by decide +kernel
theorem dX6_init_56 : decode cX6_init 56 = .ok (.bipush 6, 2) := by decide +kernel
theorem dX6_init_58 : decode cX6_init 58 = .ok (.newarray .int, 2) := by decide +kernel
theorem dX6_init_60 : decode cX6_init 60 = .ok (.putfield 22, 3) := by decide +kernel
theorem dX6_init_63 : decode cX6_init 63 = .ok (.aload_n 0, 1) := by decide +kernel
theorem dX6_init_64 : decode cX6_init 64 = .ok (.bipush 6, 2) := by decide +kernel
theorem dX6_init_66 : decode cX6_init 66 = .ok (.newarray .int, 2) := by decide +kernel
theorem dX6_init_68 : decode cX6_init 68 = .ok (.putfield 25, 3) := by decide +kernel
theorem dX6_init_71 : decode cX6_init 71 = .ok (.aload_n 0, 1) := by decide +kernel
theorem dX6_init_72 : decode cX6_init 72 = .ok (.bipush 18, 2) := by decide +kernel
theorem dX6_init_74 : decode cX6_init 74 = .ok (.newarray .int, 2) := by decide +kernel
theorem dX6_init_76 : decode cX6_init 76 = .ok (.putfield 28, 3) := by decide +kernel
theorem dX6_init_79 : decode cX6_init 79 = .ok (.aload_n 0, 1) := by decide +kernel
theorem dX6_init_80 : decode cX6_init 80 = .ok (.bipush 6, 2) := by decide +kernel
theorem dX6_init_82 : decode cX6_init 82 = .ok (.newarray .int, 2) := by decide +kernel
theorem dX6_init_84 : decode cX6_init 84 = .ok (.putfield 31, 3) := by decide +kernel
theorem dX6_init_87 : decode cX6_init 87 = .ok (.aload_n 0, 1) := by decide +kernel
theorem dX6_init_88 : decode cX6_init 88 = .ok (.bipush 18, 2) := by decide +kernel
theorem dX6_init_90 : decode cX6_init 90 = .ok (.newarray .int, 2) := by decide +kernel
theorem dX6_init_92 : decode cX6_init 92 = .ok (.putfield 34, 3) := by decide +kernel
theorem dX6_init_95 : decode cX6_init 95 = .ok (.aload_n 0, 1) := by decide +kernel
theorem dX6_init_96 : decode cX6_init 96 = .ok (.bipush 8, 2) := by decide +kernel
theorem dX6_init_98 : decode cX6_init 98 = .ok (.newarray .int, 2) := by decide +kernel
theorem dX6_init_100 : decode cX6_init 100 = .ok (.putfield 37, 3) := by decide +kernel
theorem dX6_init_103 : decode cX6_init 103 = .ok (.aload_n 0, 1) := by decide +kernel
theorem dX6_init_104 : decode cX6_init 104 = .ok (.bipush 8, 2) := by decide +kernel
theorem dX6_init_106 : decode cX6_init 106 = .ok (.newarray .int, 2) := by decide +kernel
theorem dX6_init_108 : decode cX6_init 108 = .ok (.putfield 40, 3) := by decide +kernel
theorem dX6_init_111 : decode cX6_init 111 = .ok (.aload_n 0, 1) := by decide +kernel
theorem dX6_init_112 : decode cX6_init 112 = .ok (.bipush 8, 2) := by decide +kernel
theorem dX6_init_114 : decode cX6_init 114 = .ok (.newarray .int, 2) := by decide +kernel
theorem dX6_init_116 : decode cX6_init 116 = .ok (.putfield 43, 3) := by decide +kernel
theorem dX6_init_119 : decode cX6_init 119 = .ok (.return_, 1) := by decide +kernel
theorem dX6_fails_0 : decode cX6_fails 0 = .ok (.aload_n 0, 1) := by decide +kernel
theorem dX6_fails_1 : decode cX6_fails 1 = .ok (.iload_n 1, 1) := by decide +kernel
theorem dX6_fails_2 : decode cX6_fails 2 = .ok (.putfield 46, 3) := by decide +kernel
theorem dX6_fails_5 : decode cX6_fails 5 = .ok (.bipush (-10), 2) := by decide +kernel
theorem dX6_fails_7 : decode cX6_fails 7 = .ok (.iload_n 1, 1) := by decide +kernel
theorem dX6_fails_8 : decode cX6_fails 8 = .ok (.isub, 1) := by decide +kernel
theorem dX6_fails_9 : decode cX6_fails 9 = .ok (.ireturn, 1) := by decide +kernel
theorem dX6_lost_0 : decode cX6_lost 0 = .ok (.aload_n 0, 1) := by decide +kernel
theorem dX6_lost_1 : decode cX6_lost 1 = .ok (.iload_n 1, 1) := by decide +kernel
theorem dX6_lost_2 : decode cX6_lost 2 = .ok (.putfield 46, 3) := by decide +kernel
theorem dX6_lost_5 : decode cX6_lost 5 = .ok (.ldc2_w 50, 3) := by decide +kernel
theorem dX6_lost_8 : decode cX6_lost 8 = .ok (.lreturn, 1) := by decide +kernel
theorem dX6_within_0 : decode cX6_within 0 = .ok (.iload_n 0, 1) := by decide +kernel
theorem dX6_within_1 : decode cX6_within 1 = .ok (.iload_n 1, 1) := by decide +kernel
theorem dX6_within_2 : decode cX6_within 2 = .ok (.if_icmp .lt 12, 3) := by decide +kernel
theorem dX6_within_5 : decode cX6_within 5 = .ok (.iload_n 0, 1) := by decide +kernel
theorem dX6_within_6 : decode cX6_within 6 = .ok (.iload_n 2, 1) := by decide +kernel
theorem dX6_within_7 : decode cX6_within 7 = .ok (.if_icmp .gt 7, 3) := by decide +kernel
theorem dX6_within_10 : decode cX6_within 10 = .ok (.iconst 1, 1) := by decide +kernel
theorem dX6_within_11 : decode cX6_within 11 = .ok (.goto 4, 3) := by decide +kernel
theorem dX6_within_14 : decode cX6_within 14 = .ok (.iconst 0, 1) := by decide +kernel
theorem dX6_within_15 : decode cX6_within 15 = .ok (.ireturn, 1) := by decide +kernel
set_option maxRecDepth 20000 in
theorem ggX6_isSheet_X6_within : GoodIn wsX6_isSheet wsX6_within := goodIn_r _ [4] (by decide +kernel) (by decide +kernel)
set_option maxRecDepth 20000 in
theorem gX6_isSheet_X6_within : GoodIn wsX6_isSheet (va_wsS RX6 52 yX6_within wsX6_within) := goodIn_app (goodIn_of _ (by decide +kernel)) ggX6_isSheet_X6_within
theorem dX6_isSheet_0 : decode cX6_isSheet 0 = .ok (.iload_n 0, 1) := by decide +kernel
theorem dX6_isSheet_1 : decode cX6_isSheet 1 = .ok (.iconst 0, 1) := by decide +kernel
theorem dX6_isSheet_2 : decode cX6_isSheet 2 = .ok (.iconst 3, 1) := by decide +kernel
theorem dX6_isSheet_3 : decode cX6_isSheet 3 = .ok (.invokestatic 52, 3) := by decide +kernel
theorem dX6_isSheet_6 : decode cX6_isSheet 6 = .ok (.ireturn, 1) := by decide +kernel
set_option maxRecDepth 20000 in
theorem ggX6_isSort_X6_within : GoodIn wsX6_isSort wsX6_within := goodIn_r _ [4] (by decide +kernel) (by decide +kernel)
set_option maxRecDepth 20000 in
theorem gX6_isSort_X6_within : GoodIn wsX6_isSort (va_wsS RX6 52 yX6_within wsX6_within) := goodIn_app (goodIn_of _ (by decide +kernel)) ggX6_isSort_X6_within
theorem dX6_isSort_0 : decode cX6_isSort 0 = .ok (.iload_n 0, 1) := by decide +kernel
theorem dX6_isSort_1 : decode cX6_isSort 1 = .ok (.iconst 0, 1) := by decide +kernel
theorem dX6_isSort_2 : decode cX6_isSort 2 = .ok (.iconst 2, 1) := by decide +kernel
theorem dX6_isSort_3 : decode cX6_isSort 3 = .ok (.invokestatic 52, 3) := by decide +kernel
theorem dX6_isSort_6 : decode cX6_isSort 6 = .ok (.ireturn, 1) := by decide +kernel
theorem dX6_against_0 : decode cX6_against 0 = .ok (.aload_n 0, 1) := by decide +kernel
theorem dX6_against_1 : decode cX6_against 1 = .ok (.getfield 9, 3) := by decide +kernel
theorem dX6_against_4 : decode cX6_against 4 = .ok (.iload_n 1, 1) := by decide +kernel
theorem dX6_against_5 : decode cX6_against 5 = .ok (.iaload, 1) := by decide +kernel
theorem dX6_against_6 : decode cX6_against 6 = .ok (.bipush (-9), 2) := by decide +kernel
theorem dX6_against_8 : decode cX6_against 8 = .ok (.if_icmp .eq 15, 3) := by decide +kernel
theorem dX6_against_11 : decode cX6_against 11 = .ok (.aload_n 0, 1) := by decide +kernel
theorem dX6_against_12 : decode cX6_against 12 = .ok (.getfield 9, 3) := by decide +kernel
theorem dX6_against_15 : decode cX6_against 15 = .ok (.iload_n 1, 1) := by decide +kernel
theorem dX6_against_16 : decode cX6_against 16 = .ok (.iaload, 1) := by decide +kernel
theorem dX6_against_17 : decode cX6_against 17 = .ok (.iload_n 2, 1) := by decide +kernel
theorem dX6_against_18 : decode cX6_against 18 = .ok (.if_icmp .eq 5, 3) := by decide +kernel
theorem dX6_against_21 : decode cX6_against 21 = .ok (.iconst 2, 1) := by decide +kernel
theorem dX6_against_22 : decode cX6_against 22 = .ok (.ireturn, 1) := by decide +kernel
theorem dX6_against_23 : decode cX6_against 23 = .ok (.aload_n 0, 1) := by decide +kernel
theorem dX6_against_24 : decode cX6_against 24 = .ok (.getfield 9, 3) := by decide +kernel
theorem dX6_against_27 : decode cX6_against 27 = .ok (.iload_n 1, 1) := by decide +kernel
theorem dX6_against_28 : decode cX6_against 28 = .ok (.iaload, 1) := by decide +kernel
theorem dX6_against_29 : decode cX6_against 29 = .ok (.bipush (-9), 2) := by decide +kernel
theorem dX6_against_31 : decode cX6_against 31 = .ok (.if_icmp .ne 5, 3) := by decide +kernel
theorem dX6_against_34 : decode cX6_against 34 = .ok (.iconst 1, 1) := by decide +kernel
theorem dX6_against_35 : decode cX6_against 35 = .ok (.ireturn, 1) := by decide +kernel
theorem dX6_against_36 : decode cX6_against 36 = .ok (.iload 4, 2) := by decide +kernel
theorem dX6_against_38 : decode cX6_against 38 = .ok (.ifCond .ge 5, 3) := by decide +kernel
theorem dX6_against_41 : decode cX6_against 41 = .ok (.iconst 4, 1) := by decide +kernel
theorem dX6_against_42 : decode cX6_against 42 = .ok (.ireturn, 1) := by decide +kernel
theorem dX6_against_43 : decode cX6_against 43 = .ok (.iload_n 3, 1) := by decide +kernel
theorem dX6_against_44 : decode cX6_against 44 = .ok (.ifCond .lt 26, 3) := by decide +kernel
theorem dX6_against_47 : decode cX6_against 47 = .ok (.iload_n 3, 1) := by decide +kernel
theorem dX6_against_48 : decode cX6_against 48 = .ok (.aload_n 0, 1) := by decide +kernel
theorem dX6_against_49 : decode cX6_against 49 = .ok (.getfield 13, 3) := by decide +kernel
theorem dX6_against_52 : decode cX6_against 52 = .ok (.iload_n 1, 1) := by decide +kernel
theorem dX6_against_53 : decode cX6_against 53 = .ok (.iaload, 1) := by decide +kernel
theorem dX6_against_54 : decode cX6_against 54 = .ok (.if_icmp .gt 16, 3) := by decide +kernel
theorem dX6_against_57 : decode cX6_against 57 = .ok (.iload 4, 2) := by decide +kernel
theorem dX6_against_59 : decode cX6_against 59 = .ok (.aload_n 0, 1) := by decide +kernel
theorem dX6_against_60 : decode cX6_against 60 = .ok (.getfield 13, 3) := by decide +kernel
theorem dX6_against_63 : decode cX6_against 63 = .ok (.iload_n 1, 1) := by decide +kernel
theorem dX6_against_64 : decode cX6_against 64 = .ok (.iaload, 1) := by decide +kernel
theorem dX6_against_65 : decode cX6_against 65 = .ok (.iload_n 3, 1) := by decide +kernel
theorem dX6_against_66 : decode cX6_against 66 = .ok (.isub, 1) := by decide +kernel
theorem dX6_against_67 : decode cX6_against 67 = .ok (.if_icmp .le 7, 3) := by decide +kernel
theorem dX6_against_70 : decode cX6_against 70 = .ok (.iconst 3, 1) := by decide +kernel
theorem dX6_against_71 : decode cX6_against 71 = .ok (.goto 4, 3) := by decide +kernel
theorem dX6_against_74 : decode cX6_against 74 = .ok (.iconst 0, 1) := by decide +kernel
theorem dX6_against_75 : decode cX6_against 75 = .ok (.ireturn, 1) := by decide +kernel
theorem dX6_isLayer_0 : decode cX6_isLayer 0 = .ok (.iload_n 1, 1) := by decide +kernel
theorem dX6_isLayer_1 : decode cX6_isLayer 1 = .ok (.ifCond .lt 15, 3) := by decide +kernel
theorem dX6_isLayer_4 : decode cX6_isLayer 4 = .ok (.iload_n 1, 1) := by decide +kernel
theorem dX6_isLayer_5 : decode cX6_isLayer 5 = .ok (.aload_n 0, 1) := by decide +kernel
theorem dX6_isLayer_6 : decode cX6_isLayer 6 = .ok (.getfield 56, 3) := by decide +kernel
theorem dX6_isLayer_9 : decode cX6_isLayer 9 = .ok (.if_icmp .ge 7, 3) := by decide +kernel
theorem dX6_isLayer_12 : decode cX6_isLayer 12 = .ok (.iconst 1, 1) := by decide +kernel
theorem dX6_isLayer_13 : decode cX6_isLayer 13 = .ok (.goto 4, 3) := by decide +kernel
theorem dX6_isLayer_16 : decode cX6_isLayer 16 = .ok (.iconst 0, 1) := by decide +kernel
theorem dX6_isLayer_17 : decode cX6_isLayer 17 = .ok (.ireturn, 1) := by decide +kernel
set_option maxRecDepth 20000 in
theorem ggX6_isDigit_X6_within : GoodIn wsX6_isDigit wsX6_within := goodIn_r _ [4] (by decide +kernel) (by decide +kernel)
set_option maxRecDepth 20000 in
theorem gX6_isDigit_X6_within : GoodIn wsX6_isDigit (va_wsS RX6 52 yX6_within wsX6_within) := goodIn_app (goodIn_of _ (by decide +kernel)) ggX6_isDigit_X6_within
theorem dX6_isDigit_0 : decode cX6_isDigit 0 = .ok (.iload_n 0, 1) := by decide +kernel
theorem dX6_isDigit_1 : decode cX6_isDigit 1 = .ok (.iconst 0, 1) := by decide +kernel
theorem dX6_isDigit_2 : decode cX6_isDigit 2 = .ok (.bipush 9, 2) := by decide +kernel
theorem dX6_isDigit_4 : decode cX6_isDigit 4 = .ok (.invokestatic 52, 3) := by decide +kernel
theorem dX6_isDigit_7 : decode cX6_isDigit 7 = .ok (.ireturn, 1) := by decide +kernel
theorem dX6_isOf_0 : decode cX6_isOf 0 = .ok (.iload_n 0, 1) := by decide +kernel
theorem dX6_isOf_1 : decode cX6_isOf 1 = .ok (.iload_n 1, 1) := by decide +kernel
theorem dX6_isOf_2 : decode cX6_isOf 2 = .ok (.ishr, 1) := by decide +kernel
theorem dX6_isOf_3 : decode cX6_isOf 3 = .ok (.iconst 1, 1) := by decide +kernel
theorem dX6_isOf_4 : decode cX6_isOf 4 = .ok (.iand, 1) := by decide +kernel
theorem dX6_isOf_5 : decode cX6_isOf 5 = .ok (.iconst 1, 1) := by decide +kernel
theorem dX6_isOf_6 : decode cX6_isOf 6 = .ok (.if_icmp .ne 7, 3) := by decide +kernel
theorem dX6_isOf_9 : decode cX6_isOf 9 = .ok (.iconst 1, 1) := by decide +kernel
theorem dX6_isOf_10 : decode cX6_isOf 10 = .ok (.goto 4, 3) := by decide +kernel
theorem dX6_isOf_13 : decode cX6_isOf 13 = .ok (.iconst 0, 1) := by decide +kernel
theorem dX6_isOf_14 : decode cX6_isOf 14 = .ok (.ireturn, 1) := by decide +kernel
theorem dX6_size_0 : decode cX6_size 0 = .ok (.iconst 0, 1) := by decide +kernel
theorem dX6_size_1 : decode cX6_size 1 = .ok (.istore_n 1, 1) := by decide +kernel
theorem dX6_size_2 : decode cX6_size 2 = .ok (.iload_n 0, 1) := by decide +kernel
theorem dX6_size_3 : decode cX6_size 3 = .ok (.istore_n 2, 1) := by decide +kernel
theorem dX6_size_4 : decode cX6_size 4 = .ok (.iload_n 2, 1) := by decide +kernel
theorem dX6_size_5 : decode cX6_size 5 = .ok (.ifCond .le 16, 3) := by decide +kernel
theorem dX6_size_8 : decode cX6_size 8 = .ok (.iload_n 1, 1) := by decide +kernel
theorem dX6_size_9 : decode cX6_size 9 = .ok (.iload_n 2, 1) := by decide +kernel
theorem dX6_size_10 : decode cX6_size 10 = .ok (.iconst 1, 1) := by decide +kernel
theorem dX6_size_11 : decode cX6_size 11 = .ok (.iand, 1) := by decide +kernel
theorem dX6_size_12 : decode cX6_size 12 = .ok (.iadd, 1) := by decide +kernel
theorem dX6_size_13 : decode cX6_size 13 = .ok (.istore_n 1, 1) := by decide +kernel
theorem dX6_size_14 : decode cX6_size 14 = .ok (.iload_n 2, 1) := by decide +kernel
theorem dX6_size_15 : decode cX6_size 15 = .ok (.iconst 1, 1) := by decide +kernel
theorem dX6_size_16 : decode cX6_size 16 = .ok (.ishr, 1) := by decide +kernel
theorem dX6_size_17 : decode cX6_size 17 = .ok (.istore_n 2, 1) := by decide +kernel
theorem dX6_size_18 : decode cX6_size 18 = .ok (.goto (-14), 3) := by decide +kernel
theorem dX6_size_21 : decode cX6_size 21 = .ok (.iload_n 1, 1) := by decide +kernel
theorem dX6_size_22 : decode cX6_size 22 = .ok (.ireturn, 1) := by decide +kernel
set_option maxRecDepth 20000 in
theorem ggX6_digit_X6_within : GoodIn wsX6_digit wsX6_within := goodIn_r _ [6] (by decide +kernel) (by decide +kernel)
set_option maxRecDepth 20000 in
theorem gX6_digit_X6_within : GoodIn wsX6_digit (va_wsS RX6 52 yX6_within wsX6_within) := goodIn_app (goodIn_of _ (by decide +kernel)) ggX6_digit_X6_within
theorem dX6_digit_0 : decode cX6_digit 0 = .ok (.aload_n 0, 1) := by decide +kernel
theorem dX6_digit_1 : decode cX6_digit 1 = .ok (.getfield 59, 3) := by decide +kernel
theorem dX6_digit_4 : decode cX6_digit 4 = .ok (.iload_n 1, 1) := by decide +kernel
theorem dX6_digit_5 : decode cX6_digit 5 = .ok (.if_icmp .ge 22, 3) := by decide +kernel
theorem dX6_digit_8 : decode cX6_digit 8 = .ok (.aload_n 0, 1) := by decide +kernel
theorem dX6_digit_9 : decode cX6_digit 9 = .ok (.getfield 16, 3) := by decide +kernel
theorem dX6_digit_12 : decode cX6_digit 12 = .ok (.aload_n 0, 1) := by decide +kernel
theorem dX6_digit_13 : decode cX6_digit 13 = .ok (.getfield 59, 3) := by decide +kernel
theorem dX6_digit_16 : decode cX6_digit 16 = .ok (.iaload, 1) := by decide +kernel
theorem dX6_digit_17 : decode cX6_digit 17 = .ok (.bipush 48, 2) := by decide +kernel
theorem dX6_digit_19 : decode cX6_digit 19 = .ok (.bipush 57, 2) := by decide +kernel
theorem dX6_digit_21 : decode cX6_digit 21 = .ok (.invokestatic 52, 3) := by decide +kernel
theorem dX6_digit_24 : decode cX6_digit 24 = .ok (.ifCond .ne 6, 3) := by decide +kernel
theorem dX6_digit_27 : decode cX6_digit 27 = .ok (.bipush (-9), 2) := by decide +kernel
theorem dX6_digit_29 : decode cX6_digit 29 = .ok (.ireturn, 1) := by decide +kernel
theorem dX6_digit_30 : decode cX6_digit 30 = .ok (.aload_n 0, 1) := by decide +kernel
theorem dX6_digit_31 : decode cX6_digit 31 = .ok (.dup, 1) := by decide +kernel
theorem dX6_digit_32 : decode cX6_digit 32 = .ok (.getfield 59, 3) := by decide +kernel
theorem dX6_digit_35 : decode cX6_digit 35 = .ok (.iconst 1, 1) := by decide +kernel
theorem dX6_digit_36 : decode cX6_digit 36 = .ok (.iadd, 1) := by decide +kernel
theorem dX6_digit_37 : decode cX6_digit 37 = .ok (.putfield 59, 3) := by decide +kernel
theorem dX6_digit_40 : decode cX6_digit 40 = .ok (.aload_n 0, 1) := by decide +kernel
theorem dX6_digit_41 : decode cX6_digit 41 = .ok (.getfield 16, 3) := by decide +kernel
theorem dX6_digit_44 : decode cX6_digit 44 = .ok (.aload_n 0, 1) := by decide +kernel
theorem dX6_digit_45 : decode cX6_digit 45 = .ok (.getfield 59, 3) := by decide +kernel
theorem dX6_digit_48 : decode cX6_digit 48 = .ok (.iconst 1, 1) := by decide +kernel
theorem dX6_digit_49 : decode cX6_digit 49 = .ok (.isub, 1) := by decide +kernel
theorem dX6_digit_50 : decode cX6_digit 50 = .ok (.iaload, 1) := by decide +kernel
theorem dX6_digit_51 : decode cX6_digit 51 = .ok (.bipush 48, 2) := by decide +kernel
theorem dX6_digit_53 : decode cX6_digit 53 = .ok (.isub, 1) := by decide +kernel
theorem dX6_digit_54 : decode cX6_digit 54 = .ok (.ireturn, 1) := by decide +kernel
theorem dX6_isSign_0 : decode cX6_isSign 0 = .ok (.aload_n 0, 1) := by decide +kernel
theorem dX6_isSign_1 : decode cX6_isSign 1 = .ok (.getfield 59, 3) := by decide +kernel
theorem dX6_isSign_4 : decode cX6_isSign 4 = .ok (.iload_n 1, 1) := by decide +kernel
theorem dX6_isSign_5 : decode cX6_isSign 5 = .ok (.if_icmp .ge 16, 3) := by decide +kernel
theorem dX6_isSign_8 : decode cX6_isSign 8 = .ok (.aload_n 0, 1) := by decide +kernel
theorem dX6_isSign_9 : decode cX6_isSign 9 = .ok (.getfield 16, 3) := by decide +kernel
theorem dX6_isSign_12 : decode cX6_isSign 12 = .ok (.aload_n 0, 1) := by decide +kernel
theorem dX6_isSign_13 : decode cX6_isSign 13 = .ok (.getfield 59, 3) := by decide +kernel
theorem dX6_isSign_16 : decode cX6_isSign 16 = .ok (.iaload, 1) := by decide +kernel
theorem dX6_isSign_17 : decode cX6_isSign 17 = .ok (.iload_n 2, 1) := by decide +kernel
theorem dX6_isSign_18 : decode cX6_isSign 18 = .ok (.if_icmp .eq 5, 3) := by decide +kernel
theorem dX6_isSign_21 : decode cX6_isSign 21 = .ok (.iconst 0, 1) := by decide +kernel
theorem dX6_isSign_22 : decode cX6_isSign 22 = .ok (.ireturn, 1) := by decide +kernel
theorem dX6_isSign_23 : decode cX6_isSign 23 = .ok (.aload_n 0, 1) := by decide +kernel
theorem dX6_isSign_24 : decode cX6_isSign 24 = .ok (.dup, 1) := by decide +kernel
theorem dX6_isSign_25 : decode cX6_isSign 25 = .ok (.getfield 59, 3) := by decide +kernel
theorem dX6_isSign_28 : decode cX6_isSign 28 = .ok (.iconst 1, 1) := by decide +kernel
theorem dX6_isSign_29 : decode cX6_isSign 29 = .ok (.iadd, 1) := by decide +kernel
theorem dX6_isSign_30 : decode cX6_isSign 30 = .ok (.putfield 59, 3) := by decide +kernel
theorem dX6_isSign_33 : decode cX6_isSign 33 = .ok (.iconst 1, 1) := by decide +kernel
theorem dX6_isSign_34 : decode cX6_isSign 34 = .ok (.ireturn, 1) := by decide +kernel
set_option maxRecDepth 20000 in
theorem ggX6_wall_X6_isSheet : GoodIn wsX6_wall wsX6_isSheet := goodIn_r _ [7, 8, 9, 6, 10] (by decide +kernel) (by decide +kernel)
set_option maxRecDepth 20000 in
theorem gX6_wall_X6_isSheet : GoodIn wsX6_wall (va_wsS RX6 62 yX6_isSheet wsX6_isSheet) := goodIn_app (goodIn_of _ (by decide +kernel)) ggX6_wall_X6_isSheet
set_option maxRecDepth 20000 in
theorem ggX6_wall_X6_isSort : GoodIn wsX6_wall wsX6_isSort := goodIn_r _ [13, 8, 9, 6, 10] (by decide +kernel) (by decide +kernel)
set_option maxRecDepth 20000 in
theorem gX6_wall_X6_isSort : GoodIn wsX6_wall (va_wsS RX6 66 yX6_isSort wsX6_isSort) := goodIn_app (goodIn_of _ (by decide +kernel)) ggX6_wall_X6_isSort
set_option maxRecDepth 20000 in
theorem ggX6_wall_X6_against : GoodIn wsX6_wall wsX6_against := goodIn_r _ [17, 18, 19, 55, 56, 57, 58, 59, 60, 61, 62, 63, 64, 65, 66, 67, 68, 69, 70, 71, 72, 73, 74, 75, 76, 77, 78, 79, 80] (by decide +kernel) (by decide +kernel)
set_option maxRecDepth 20000 in
theorem gX6_wall_X6_against : GoodIn wsX6_wall (wsV RX6 69 RX6 yX6_against wsX6_against) := goodIn_app (goodIn_of _ (by decide +kernel)) ggX6_wall_X6_against
set_option maxRecDepth 20000 in
theorem ggX6_wall_X6_fails : GoodIn wsX6_wall wsX6_fails := goodIn_r _ [23, 1, 55, 56, 57, 58, 59, 60, 61, 62, 63, 64, 65, 66, 67, 68, 69, 70, 71, 72, 73, 74, 75, 76, 77, 78, 79, 80] (by decide +kernel) (by decide +kernel)
set_option maxRecDepth 20000 in
theorem gX6_wall_X6_fails : GoodIn wsX6_wall (wsV RX6 73 RX6 yX6_fails wsX6_fails) := goodIn_app (goodIn_of _ (by decide +kernel)) ggX6_wall_X6_fails
set_option maxRecDepth 20000 in
theorem ggX6_wall_X6_readWall : GoodIn wsX6_wall wsX6_readWall := goodIn_r _ [27, 28, 29, 30, 2, 31, 32, 33, 6, 34, 35, 36, 37, 38, 39, 8, 9, 10, 40, 41, 42, 43, 44, 55, 56, 57, 58, 59, 60, 61, 62, 63, 64, 65, 66, 67, 68, 69, 70, 71, 72, 73, 74, 75, 76, 77, 78, 79, 80] (by decide +kernel) (by decide +kernel)
set_option maxRecDepth 20000 in
theorem gX6_wall_X6_readWall : GoodIn wsX6_wall (wsV RX6 77 RX6 yX6_readWall wsX6_readWall) := goodIn_app (goodIn_of _ (by decide +kernel)) ggX6_wall_X6_readWall
set_option maxRecDepth 20000 in
theorem ggX6_wall_X6_takeWall : GoodIn wsX6_wall wsX6_takeWall := goodIn_r _ [48, 29, 49, 30, 50, 28, 3, 51, 44, 52, 53, 54, 55, 56, 57, 58, 59, 60, 61, 62, 63, 64, 65, 66, 67, 68, 69, 70, 71, 72, 73, 74, 75, 76, 77, 78, 79, 80] (by decide +kernel) (by decide +kernel)
set_option maxRecDepth 20000 in
theorem gX6_wall_X6_takeWall : GoodIn wsX6_wall (wsV RX6 80 RX6 yX6_takeWall wsX6_takeWall) := goodIn_app (goodIn_of _ (by decide +kernel)) ggX6_wall_X6_takeWall
theorem dX6_wall_0 : decode cX6_wall 0 = .ok (.aload_n 0, 1) := by decide +kernel
theorem dX6_wall_1 : decode cX6_wall 1 = .ok (.iconst 0, 1) := by decide +kernel
theorem dX6_wall_2 : decode cX6_wall 2 = .ok (.putfield 46, 3) := by decide +kernel
theorem dX6_wall_5 : decode cX6_wall 5 = .ok (.iload_n 1, 1) := by decide +kernel
theorem dX6_wall_6 : decode cX6_wall 6 = .ok (.invokestatic 62, 3) := by decide +kernel
theorem dX6_wall_9 : decode cX6_wall 9 = .ok (.ifCond .ne 5, 3) := by decide +kernel
theorem dX6_wall_12 : decode cX6_wall 12 = .ok (.iconst (-1), 1) := by decide +kernel
theorem dX6_wall_13 : decode cX6_wall 13 = .ok (.ireturn, 1) := by decide +kernel
theorem dX6_wall_14 : decode cX6_wall 14 = .ok (.iload_n 2, 1) := by decide +kernel
theorem dX6_wall_15 : decode cX6_wall 15 = .ok (.invokestatic 66, 3) := by decide +kernel
theorem dX6_wall_18 : decode cX6_wall 18 = .ok (.ifCond .ne 6, 3) := by decide +kernel
theorem dX6_wall_21 : decode cX6_wall 21 = .ok (.bipush (-2), 2) := by decide +kernel
theorem dX6_wall_23 : decode cX6_wall 23 = .ok (.ireturn, 1) := by decide +kernel
theorem dX6_wall_24 : decode cX6_wall 24 = .ok (.aload_n 0, 1) := by decide +kernel
theorem dX6_wall_25 : decode cX6_wall 25 = .ok (.iload_n 1, 1) := by decide +kernel
theorem dX6_wall_26 : decode cX6_wall 26 = .ok (.iload_n 2, 1) := by decide +kernel
theorem dX6_wall_27 : decode cX6_wall 27 = .ok (.iload_n 3, 1) := by decide +kernel
theorem dX6_wall_28 : decode cX6_wall 28 = .ok (.iload 4, 2) := by decide +kernel
theorem dX6_wall_30 : decode cX6_wall 30 = .ok (.invokevirtual 69, 3) := by decide +kernel
theorem dX6_wall_33 : decode cX6_wall 33 = .ok (.istore 5, 2) := by decide +kernel
theorem dX6_wall_35 : decode cX6_wall 35 = .ok (.iload 5, 2) := by decide +kernel
theorem dX6_wall_37 : decode cX6_wall 37 = .ok (.ifCond .eq 10, 3) := by decide +kernel
theorem dX6_wall_40 : decode cX6_wall 40 = .ok (.aload_n 0, 1) := by decide +kernel
theorem dX6_wall_41 : decode cX6_wall 41 = .ok (.iload 5, 2) := by decide +kernel
theorem dX6_wall_43 : decode cX6_wall 43 = .ok (.invokevirtual 73, 3) := by decide +kernel
theorem dX6_wall_46 : decode cX6_wall 46 = .ok (.ireturn, 1) := by decide +kernel
theorem dX6_wall_47 : decode cX6_wall 47 = .ok (.bipush 60, 2) := by decide +kernel
theorem dX6_wall_49 : decode cX6_wall 49 = .ok (.iload_n 1, 1) := by decide +kernel
theorem dX6_wall_50 : decode cX6_wall 50 = .ok (.imul, 1) := by decide +kernel
theorem dX6_wall_51 : decode cX6_wall 51 = .ok (.iload_n 3, 1) := by decide +kernel
theorem dX6_wall_52 : decode cX6_wall 52 = .ok (.iadd, 1) := by decide +kernel
theorem dX6_wall_53 : decode cX6_wall 53 = .ok (.istore 6, 2) := by decide +kernel
theorem dX6_wall_55 : decode cX6_wall 55 = .ok (.aload_n 0, 1) := by decide +kernel
theorem dX6_wall_56 : decode cX6_wall 56 = .ok (.iload 6, 2) := by decide +kernel
theorem dX6_wall_58 : decode cX6_wall 58 = .ok (.putfield 59, 3) := by decide +kernel
theorem dX6_wall_61 : decode cX6_wall 61 = .ok (.aload_n 0, 1) := by decide +kernel
theorem dX6_wall_62 : decode cX6_wall 62 = .ok (.iload 6, 2) := by decide +kernel
theorem dX6_wall_64 : decode cX6_wall 64 = .ok (.iload 4, 2) := by decide +kernel
theorem dX6_wall_66 : decode cX6_wall 66 = .ok (.iadd, 1) := by decide +kernel
theorem dX6_wall_67 : decode cX6_wall 67 = .ok (.invokevirtual 77, 3) := by decide +kernel
theorem dX6_wall_70 : decode cX6_wall 70 = .ok (.ifCond .ne 14, 3) := by decide +kernel
theorem dX6_wall_73 : decode cX6_wall 73 = .ok (.bipush (-100), 2) := by decide +kernel
theorem dX6_wall_75 : decode cX6_wall 75 = .ok (.aload_n 0, 1) := by decide +kernel
theorem dX6_wall_76 : decode cX6_wall 76 = .ok (.getfield 59, 3) := by decide +kernel
theorem dX6_wall_79 : decode cX6_wall 79 = .ok (.iload 6, 2) := by decide +kernel
theorem dX6_wall_81 : decode cX6_wall 81 = .ok (.isub, 1) := by decide +kernel
theorem dX6_wall_82 : decode cX6_wall 82 = .ok (.isub, 1) := by decide +kernel
theorem dX6_wall_83 : decode cX6_wall 83 = .ok (.ireturn, 1) := by decide +kernel
theorem dX6_wall_84 : decode cX6_wall 84 = .ok (.aload_n 0, 1) := by decide +kernel
theorem dX6_wall_85 : decode cX6_wall 85 = .ok (.invokevirtual 80, 3) := by decide +kernel
theorem dX6_wall_88 : decode cX6_wall 88 = .ok (.aload_n 0, 1) := by decide +kernel
theorem dX6_wall_89 : decode cX6_wall 89 = .ok (.getfield 56, 3) := by decide +kernel
theorem dX6_wall_92 : decode cX6_wall 92 = .ok (.ireturn, 1) := by decide +kernel
theorem dX6_takeWall_0 : decode cX6_takeWall 0 = .ok (.aload_n 0, 1) := by decide +kernel
theorem dX6_takeWall_1 : decode cX6_takeWall 1 = .ok (.aload_n 0, 1) := by decide +kernel
theorem dX6_takeWall_2 : decode cX6_takeWall 2 = .ok (.getfield 83, 3) := by decide +kernel
theorem dX6_takeWall_5 : decode cX6_takeWall 5 = .ok (.putfield 86, 3) := by decide +kernel
theorem dX6_takeWall_8 : decode cX6_takeWall 8 = .ok (.aload_n 0, 1) := by decide +kernel
theorem dX6_takeWall_9 : decode cX6_takeWall 9 = .ok (.aload_n 0, 1) := by decide +kernel
theorem dX6_takeWall_10 : decode cX6_takeWall 10 = .ok (.getfield 89, 3) := by decide +kernel
theorem dX6_takeWall_13 : decode cX6_takeWall 13 = .ok (.putfield 92, 3) := by decide +kernel
theorem dX6_takeWall_16 : decode cX6_takeWall 16 = .ok (.aload_n 0, 1) := by decide +kernel
theorem dX6_takeWall_17 : decode cX6_takeWall 17 = .ok (.aload_n 0, 1) := by decide +kernel
theorem dX6_takeWall_18 : decode cX6_takeWall 18 = .ok (.getfield 95, 3) := by decide +kernel
theorem dX6_takeWall_21 : decode cX6_takeWall 21 = .ok (.putfield 56, 3) := by decide +kernel
theorem dX6_takeWall_24 : decode cX6_takeWall 24 = .ok (.iconst 0, 1) := by decide +kernel
theorem dX6_takeWall_25 : decode cX6_takeWall 25 = .ok (.istore_n 1, 1) := by decide +kernel
theorem dX6_takeWall_26 : decode cX6_takeWall 26 = .ok (.iload_n 1, 1) := by decide +kernel
theorem dX6_takeWall_27 : decode cX6_takeWall 27 = .ok (.aload_n 0, 1) := by decide +kernel
theorem dX6_takeWall_28 : decode cX6_takeWall 28 = .ok (.getfield 56, 3) := by decide +kernel
theorem dX6_takeWall_31 : decode cX6_takeWall 31 = .ok (.if_icmp .ge 55, 3) := by decide +kernel
theorem dX6_takeWall_34 : decode cX6_takeWall 34 = .ok (.aload_n 0, 1) := by decide +kernel
theorem dX6_takeWall_35 : decode cX6_takeWall 35 = .ok (.getfield 19, 3) := by decide +kernel
theorem dX6_takeWall_38 : decode cX6_takeWall 38 = .ok (.iload_n 1, 1) := by decide +kernel
theorem dX6_takeWall_39 : decode cX6_takeWall 39 = .ok (.aload_n 0, 1) := by decide +kernel
theorem dX6_takeWall_40 : decode cX6_takeWall 40 = .ok (.getfield 28, 3) := by decide +kernel
theorem dX6_takeWall_43 : decode cX6_takeWall 43 = .ok (.iconst 3, 1) := by decide +kernel
theorem dX6_takeWall_44 : decode cX6_takeWall 44 = .ok (.iload_n 1, 1) := by decide +kernel
theorem dX6_takeWall_45 : decode cX6_takeWall 45 = .ok (.imul, 1) := by decide +kernel
theorem dX6_takeWall_46 : decode cX6_takeWall 46 = .ok (.iaload, 1) := by decide +kernel
theorem dX6_takeWall_47 : decode cX6_takeWall 47 = .ok (.iastore, 1) := by decide +kernel
theorem dX6_takeWall_48 : decode cX6_takeWall 48 = .ok (.aload_n 0, 1) := by decide +kernel
theorem dX6_takeWall_49 : decode cX6_takeWall 49 = .ok (.getfield 22, 3) := by decide +kernel
theorem dX6_takeWall_52 : decode cX6_takeWall 52 = .ok (.iload_n 1, 1) := by decide +kernel
theorem dX6_takeWall_53 : decode cX6_takeWall 53 = .ok (.aload_n 0, 1) := by decide +kernel
theorem dX6_takeWall_54 : decode cX6_takeWall 54 = .ok (.getfield 28, 3) := by decide +kernel
theorem dX6_takeWall_57 : decode cX6_takeWall 57 = .ok (.iconst 3, 1) := by decide +kernel
theorem dX6_takeWall_58 : decode cX6_takeWall 58 = .ok (.iload_n 1, 1) := by decide +kernel
theorem dX6_takeWall_59 : decode cX6_takeWall 59 = .ok (.imul, 1) := by decide +kernel
theorem dX6_takeWall_60 : decode cX6_takeWall 60 = .ok (.iconst 1, 1) := by decide +kernel
theorem dX6_takeWall_61 : decode cX6_takeWall 61 = .ok (.iadd, 1) := by decide +kernel
theorem dX6_takeWall_62 : decode cX6_takeWall 62 = .ok (.iaload, 1) := by decide +kernel
theorem dX6_takeWall_63 : decode cX6_takeWall 63 = .ok (.iastore, 1) := by decide +kernel
theorem dX6_takeWall_64 : decode cX6_takeWall 64 = .ok (.aload_n 0, 1) := by decide +kernel
theorem dX6_takeWall_65 : decode cX6_takeWall 65 = .ok (.getfield 25, 3) := by decide +kernel
theorem dX6_takeWall_68 : decode cX6_takeWall 68 = .ok (.iload_n 1, 1) := by decide +kernel
theorem dX6_takeWall_69 : decode cX6_takeWall 69 = .ok (.aload_n 0, 1) := by decide +kernel
theorem dX6_takeWall_70 : decode cX6_takeWall 70 = .ok (.getfield 28, 3) := by decide +kernel
theorem dX6_takeWall_73 : decode cX6_takeWall 73 = .ok (.iconst 3, 1) := by decide +kernel
theorem dX6_takeWall_74 : decode cX6_takeWall 74 = .ok (.iload_n 1, 1) := by decide +kernel
theorem dX6_takeWall_75 : decode cX6_takeWall 75 = .ok (.imul, 1) := by decide +kernel
theorem dX6_takeWall_76 : decode cX6_takeWall 76 = .ok (.iconst 2, 1) := by decide +kernel
theorem dX6_takeWall_77 : decode cX6_takeWall 77 = .ok (.iadd, 1) := by decide +kernel
theorem dX6_takeWall_78 : decode cX6_takeWall 78 = .ok (.iaload, 1) := by decide +kernel
theorem dX6_takeWall_79 : decode cX6_takeWall 79 = .ok (.iastore, 1) := by decide +kernel
theorem dX6_takeWall_80 : decode cX6_takeWall 80 = .ok (.iinc 1 1, 3) := by decide +kernel
theorem dX6_takeWall_83 : decode cX6_takeWall 83 = .ok (.goto (-57), 3) := by decide +kernel
theorem dX6_takeWall_86 : decode cX6_takeWall 86 = .ok (.aload_n 0, 1) := by decide +kernel
theorem dX6_takeWall_87 : decode cX6_takeWall 87 = .ok (.iconst 0, 1) := by decide +kernel
theorem dX6_takeWall_88 : decode cX6_takeWall 88 = .ok (.putfield 98, 3) := by decide +kernel
theorem dX6_takeWall_91 : decode cX6_takeWall 91 = .ok (.return_, 1) := by decide +kernel
set_option maxRecDepth 20000 in
theorem ggX6_readWall_X6_isSign : GoodIn wsX6_readWall wsX6_isSign := goodIn_r _ [9, 4, 10, 23, 24, 25, 26, 27, 28, 29, 30, 31, 32, 33, 34, 35, 36, 37, 38, 39, 40, 41, 42, 43, 44, 45, 46, 47, 48] (by decide +kernel) (by decide +kernel)
set_option maxRecDepth 20000 in
theorem gX6_readWall_X6_isSign : GoodIn wsX6_readWall (wsV RX6 101 RX6 yX6_isSign wsX6_isSign) := goodIn_app (goodIn_of _ (by decide +kernel)) ggX6_readWall_X6_isSign
set_option maxRecDepth 20000 in
theorem ggX6_readWall_X6_digit : GoodIn wsX6_readWall wsX6_digit := goodIn_r _ [14, 4, 10, 15, 16, 8, 17, 23, 24, 25, 26, 27, 28, 29, 30, 31, 32, 33, 34, 35, 36, 37, 38, 39, 40, 41, 42, 43, 44, 45, 46, 47, 48] (by decide +kernel) (by decide +kernel)
set_option maxRecDepth 20000 in
theorem gX6_readWall_X6_digit : GoodIn wsX6_readWall (wsV RX6 105 RX6 yX6_digit wsX6_digit) := goodIn_app (goodIn_of _ (by decide +kernel)) ggX6_readWall_X6_digit
set_option maxRecDepth 20000 in
theorem ggX6_readWall_X6_readLayer : GoodIn wsX6_readWall wsX6_readLayer := goodIn_r _ [21, 4, 10, 1, 22, 11, 12, 13, 8, 14, 15, 16, 17, 23, 24, 25, 26, 27, 28, 29, 30, 31, 32, 33, 34, 35, 36, 37, 38, 39, 40, 41, 42, 43, 44, 45, 46, 47, 48] (by decide +kernel) (by decide +kernel)
set_option maxRecDepth 20000 in
theorem gX6_readWall_X6_readLayer : GoodIn wsX6_readWall (wsV RX6 108 RX6 yX6_readLayer wsX6_readLayer) := goodIn_app (goodIn_of _ (by decide +kernel)) ggX6_readWall_X6_readLayer
theorem dX6_readWall_0 : decode cX6_readWall 0 = .ok (.aload_n 0, 1) := by decide +kernel
theorem dX6_readWall_1 : decode cX6_readWall 1 = .ok (.iconst 0, 1) := by decide +kernel
theorem dX6_readWall_2 : decode cX6_readWall 2 = .ok (.putfield 95, 3) := by decide +kernel
theorem dX6_readWall_5 : decode cX6_readWall 5 = .ok (.aload_n 0, 1) := by decide +kernel
theorem dX6_readWall_6 : decode cX6_readWall 6 = .ok (.iload_n 1, 1) := by decide +kernel
theorem dX6_readWall_7 : decode cX6_readWall 7 = .ok (.bipush 119, 2) := by decide +kernel
theorem dX6_readWall_9 : decode cX6_readWall 9 = .ok (.invokevirtual 101, 3) := by decide +kernel
theorem dX6_readWall_12 : decode cX6_readWall 12 = .ok (.ifCond .ne 5, 3) := by decide +kernel
theorem dX6_readWall_15 : decode cX6_readWall 15 = .ok (.iconst 0, 1) := by decide +kernel
theorem dX6_readWall_16 : decode cX6_readWall 16 = .ok (.ireturn, 1) := by decide +kernel
theorem dX6_readWall_17 : decode cX6_readWall 17 = .ok (.aload_n 0, 1) := by decide +kernel
theorem dX6_readWall_18 : decode cX6_readWall 18 = .ok (.aload_n 0, 1) := by decide +kernel
theorem dX6_readWall_19 : decode cX6_readWall 19 = .ok (.iload_n 1, 1) := by decide +kernel
theorem dX6_readWall_20 : decode cX6_readWall 20 = .ok (.invokevirtual 105, 3) := by decide +kernel
theorem dX6_readWall_23 : decode cX6_readWall 23 = .ok (.putfield 83, 3) := by decide +kernel
theorem dX6_readWall_26 : decode cX6_readWall 26 = .ok (.aload_n 0, 1) := by decide +kernel
theorem dX6_readWall_27 : decode cX6_readWall 27 = .ok (.getfield 83, 3) := by decide +kernel
theorem dX6_readWall_30 : decode cX6_readWall 30 = .ok (.bipush (-9), 2) := by decide +kernel
theorem dX6_readWall_32 : decode cX6_readWall 32 = .ok (.if_icmp .ne 5, 3) := by decide +kernel
theorem dX6_readWall_35 : decode cX6_readWall 35 = .ok (.iconst 0, 1) := by decide +kernel
theorem dX6_readWall_36 : decode cX6_readWall 36 = .ok (.ireturn, 1) := by decide +kernel
theorem dX6_readWall_37 : decode cX6_readWall 37 = .ok (.aload_n 0, 1) := by decide +kernel
theorem dX6_readWall_38 : decode cX6_readWall 38 = .ok (.aload_n 0, 1) := by decide +kernel
theorem dX6_readWall_39 : decode cX6_readWall 39 = .ok (.iload_n 1, 1) := by decide +kernel
theorem dX6_readWall_40 : decode cX6_readWall 40 = .ok (.invokevirtual 105, 3) := by decide +kernel
theorem dX6_readWall_43 : decode cX6_readWall 43 = .ok (.putfield 89, 3) := by decide +kernel
theorem dX6_readWall_46 : decode cX6_readWall 46 = .ok (.aload_n 0, 1) := by decide +kernel
theorem dX6_readWall_47 : decode cX6_readWall 47 = .ok (.getfield 89, 3) := by decide +kernel
theorem dX6_readWall_50 : decode cX6_readWall 50 = .ok (.bipush (-9), 2) := by decide +kernel
theorem dX6_readWall_52 : decode cX6_readWall 52 = .ok (.if_icmp .ne 5, 3) := by decide +kernel
theorem dX6_readWall_55 : decode cX6_readWall 55 = .ok (.iconst 0, 1) := by decide +kernel
theorem dX6_readWall_56 : decode cX6_readWall 56 = .ok (.ireturn, 1) := by decide +kernel
theorem dX6_readWall_57 : decode cX6_readWall 57 = .ok (.aload_n 0, 1) := by decide +kernel
theorem dX6_readWall_58 : decode cX6_readWall 58 = .ok (.getfield 95, 3) := by decide +kernel
theorem dX6_readWall_61 : decode cX6_readWall 61 = .ok (.iconst 2, 1) := by decide +kernel
theorem dX6_readWall_62 : decode cX6_readWall 62 = .ok (.if_icmp .lt 20, 3) := by decide +kernel
theorem dX6_readWall_65 : decode cX6_readWall 65 = .ok (.aload_n 0, 1) := by decide +kernel
theorem dX6_readWall_66 : decode cX6_readWall 66 = .ok (.getfield 95, 3) := by decide +kernel
theorem dX6_readWall_69 : decode cX6_readWall 69 = .ok (.bipush 6, 2) := by decide +kernel
theorem dX6_readWall_71 : decode cX6_readWall 71 = .ok (.if_icmp .ge 31, 3) := by decide +kernel
theorem dX6_readWall_74 : decode cX6_readWall 74 = .ok (.aload_n 0, 1) := by decide +kernel
theorem dX6_readWall_75 : decode cX6_readWall 75 = .ok (.getfield 59, 3) := by decide +kernel
theorem dX6_readWall_78 : decode cX6_readWall 78 = .ok (.iload_n 1, 1) := by decide +kernel
theorem dX6_readWall_79 : decode cX6_readWall 79 = .ok (.if_icmp .ge 23, 3) := by decide +kernel
theorem dX6_readWall_82 : decode cX6_readWall 82 = .ok (.aload_n 0, 1) := by decide +kernel
theorem dX6_readWall_83 : decode cX6_readWall 83 = .ok (.iload_n 1, 1) := by decide +kernel
theorem dX6_readWall_84 : decode cX6_readWall 84 = .ok (.bipush 59, 2) := by decide +kernel
theorem dX6_readWall_86 : decode cX6_readWall 86 = .ok (.invokevirtual 101, 3) := by decide +kernel
theorem dX6_readWall_89 : decode cX6_readWall 89 = .ok (.ifCond .eq 11, 3) := by decide +kernel
theorem dX6_readWall_92 : decode cX6_readWall 92 = .ok (.aload_n 0, 1) := by decide +kernel
theorem dX6_readWall_93 : decode cX6_readWall 93 = .ok (.iload_n 1, 1) := by decide +kernel
theorem dX6_readWall_94 : decode cX6_readWall 94 = .ok (.invokevirtual 108, 3) := by decide +kernel
theorem dX6_readWall_97 : decode cX6_readWall 97 = .ok (.ifCond .ne (-40), 3) := by decide +kernel
theorem dX6_readWall_100 : decode cX6_readWall 100 = .ok (.iconst 0, 1) := by decide +kernel
theorem dX6_readWall_101 : decode cX6_readWall 101 = .ok (.ireturn, 1) := by decide +kernel
theorem dX6_readWall_102 : decode cX6_readWall 102 = .ok (.aload_n 0, 1) := by decide +kernel
theorem dX6_readWall_103 : decode cX6_readWall 103 = .ok (.getfield 59, 3) := by decide +kernel
theorem dX6_readWall_106 : decode cX6_readWall 106 = .ok (.iload_n 1, 1) := by decide +kernel
theorem dX6_readWall_107 : decode cX6_readWall 107 = .ok (.if_icmp .ne 7, 3) := by decide +kernel
theorem dX6_readWall_110 : decode cX6_readWall 110 = .ok (.iconst 1, 1) := by decide +kernel
theorem dX6_readWall_111 : decode cX6_readWall 111 = .ok (.goto 4, 3) := by decide +kernel
theorem dX6_readWall_114 : decode cX6_readWall 114 = .ok (.iconst 0, 1) := by decide +kernel
theorem dX6_readWall_115 : decode cX6_readWall 115 = .ok (.ireturn, 1) := by decide +kernel
set_option maxRecDepth 20000 in
theorem ggX6_readLayer_X6_digit : GoodIn wsX6_readLayer wsX6_digit := goodIn_r _ [9, 1, 2, 10, 11, 8, 12, 13, 14, 15, 16, 17, 18, 19, 20, 21, 22, 23, 24, 25, 26, 27, 28, 29, 30, 31, 32, 33, 34, 35, 36, 37, 38] (by decide +kernel) (by decide +kernel)
set_option maxRecDepth 20000 in
theorem gX6_readLayer_X6_digit : GoodIn wsX6_readLayer (wsV RX6 105 RX6 yX6_digit wsX6_digit) := goodIn_app (goodIn_of _ (by decide +kernel)) ggX6_readLayer_X6_digit
theorem dX6_readLayer_0 : decode cX6_readLayer 0 = .ok (.aload_n 0, 1) := by decide +kernel
theorem dX6_readLayer_1 : decode cX6_readLayer 1 = .ok (.getfield 59, 3) := by decide +kernel
theorem dX6_readLayer_4 : decode cX6_readLayer 4 = .ok (.iload_n 1, 1) := by decide +kernel
theorem dX6_readLayer_5 : decode cX6_readLayer 5 = .ok (.if_icmp .ge 15, 3) := by decide +kernel
theorem dX6_readLayer_8 : decode cX6_readLayer 8 = .ok (.aload_n 0, 1) := by decide +kernel
theorem dX6_readLayer_9 : decode cX6_readLayer 9 = .ok (.getfield 16, 3) := by decide +kernel
theorem dX6_readLayer_12 : decode cX6_readLayer 12 = .ok (.aload_n 0, 1) := by decide +kernel
theorem dX6_readLayer_13 : decode cX6_readLayer 13 = .ok (.getfield 59, 3) := by decide +kernel
theorem dX6_readLayer_16 : decode cX6_readLayer 16 = .ok (.iaload, 1) := by decide +kernel
theorem dX6_readLayer_17 : decode cX6_readLayer 17 = .ok (.goto 4, 3) := by decide +kernel
theorem dX6_readLayer_20 : decode cX6_readLayer 20 = .ok (.iconst 0, 1) := by decide +kernel
theorem dX6_readLayer_21 : decode cX6_readLayer 21 = .ok (.istore_n 2, 1) := by decide +kernel
theorem dX6_readLayer_22 : decode cX6_readLayer 22 = .ok (.iconst 3, 1) := by decide +kernel
theorem dX6_readLayer_23 : decode cX6_readLayer 23 = .ok (.aload_n 0, 1) := by decide +kernel
theorem dX6_readLayer_24 : decode cX6_readLayer 24 = .ok (.getfield 95, 3) := by decide +kernel
theorem dX6_readLayer_27 : decode cX6_readLayer 27 = .ok (.imul, 1) := by decide +kernel
theorem dX6_readLayer_28 : decode cX6_readLayer 28 = .ok (.istore_n 3, 1) := by decide +kernel
theorem dX6_readLayer_29 : decode cX6_readLayer 29 = .ok (.aload_n 0, 1) := by decide +kernel
theorem dX6_readLayer_30 : decode cX6_readLayer 30 = .ok (.getfield 28, 3) := by decide +kernel
theorem dX6_readLayer_33 : decode cX6_readLayer 33 = .ok (.iload_n 3, 1) := by decide +kernel
theorem dX6_readLayer_34 : decode cX6_readLayer 34 = .ok (.iload_n 2, 1) := by decide +kernel
theorem dX6_readLayer_35 : decode cX6_readLayer 35 = .ok (.bipush 115, 2) := by decide +kernel
theorem dX6_readLayer_37 : decode cX6_readLayer 37 = .ok (.if_icmp .ne 7, 3) := by decide +kernel
theorem dX6_readLayer_40 : decode cX6_readLayer 40 = .ok (.iconst 0, 1) := by decide +kernel
theorem dX6_readLayer_41 : decode cX6_readLayer 41 = .ok (.goto 25, 3) := by decide +kernel
theorem dX6_readLayer_44 : decode cX6_readLayer 44 = .ok (.iload_n 2, 1) := by decide +kernel
theorem dX6_readLayer_45 : decode cX6_readLayer 45 = .ok (.bipush 116, 2) := by decide +kernel
theorem dX6_readLayer_47 : decode cX6_readLayer 47 = .ok (.if_icmp .ne 7, 3) := by decide +kernel
theorem dX6_readLayer_50 : decode cX6_readLayer 50 = .ok (.iconst 1, 1) := by decide +kernel
theorem dX6_readLayer_51 : decode cX6_readLayer 51 = .ok (.goto 15, 3) := by decide +kernel
theorem dX6_readLayer_54 : decode cX6_readLayer 54 = .ok (.iload_n 2, 1) := by decide +kernel
theorem dX6_readLayer_55 : decode cX6_readLayer 55 = .ok (.bipush 114, 2) := by decide +kernel
theorem dX6_readLayer_57 : decode cX6_readLayer 57 = .ok (.if_icmp .ne 7, 3) := by decide +kernel
theorem dX6_readLayer_60 : decode cX6_readLayer 60 = .ok (.iconst 2, 1) := by decide +kernel
theorem dX6_readLayer_61 : decode cX6_readLayer 61 = .ok (.goto 5, 3) := by decide +kernel
theorem dX6_readLayer_64 : decode cX6_readLayer 64 = .ok (.bipush (-9), 2) := by decide +kernel
theorem dX6_readLayer_66 : decode cX6_readLayer 66 = .ok (.iastore, 1) := by decide +kernel
theorem dX6_readLayer_67 : decode cX6_readLayer 67 = .ok (.aload_n 0, 1) := by decide +kernel
theorem dX6_readLayer_68 : decode cX6_readLayer 68 = .ok (.getfield 28, 3) := by decide +kernel
theorem dX6_readLayer_71 : decode cX6_readLayer 71 = .ok (.iload_n 3, 1) := by decide +kernel
theorem dX6_readLayer_72 : decode cX6_readLayer 72 = .ok (.iaload, 1) := by decide +kernel
theorem dX6_readLayer_73 : decode cX6_readLayer 73 = .ok (.bipush (-9), 2) := by decide +kernel
theorem dX6_readLayer_75 : decode cX6_readLayer 75 = .ok (.if_icmp .ne 5, 3) := by decide +kernel
theorem dX6_readLayer_78 : decode cX6_readLayer 78 = .ok (.iconst 0, 1) := by decide +kernel
theorem dX6_readLayer_79 : decode cX6_readLayer 79 = .ok (.ireturn, 1) := by decide +kernel
theorem dX6_readLayer_80 : decode cX6_readLayer 80 = .ok (.aload_n 0, 1) := by decide +kernel
theorem dX6_readLayer_81 : decode cX6_readLayer 81 = .ok (.dup, 1) := by decide +kernel
theorem dX6_readLayer_82 : decode cX6_readLayer 82 = .ok (.getfield 59, 3) := by decide +kernel
theorem dX6_readLayer_85 : decode cX6_readLayer 85 = .ok (.iconst 1, 1) := by decide +kernel
theorem dX6_readLayer_86 : decode cX6_readLayer 86 = .ok (.iadd, 1) := by decide +kernel
theorem dX6_readLayer_87 : decode cX6_readLayer 87 = .ok (.putfield 59, 3) := by decide +kernel
theorem dX6_readLayer_90 : decode cX6_readLayer 90 = .ok (.aload_n 0, 1) := by decide +kernel
theorem dX6_readLayer_91 : decode cX6_readLayer 91 = .ok (.getfield 28, 3) := by decide +kernel
theorem dX6_readLayer_94 : decode cX6_readLayer 94 = .ok (.iload_n 3, 1) := by decide +kernel
theorem dX6_readLayer_95 : decode cX6_readLayer 95 = .ok (.iconst 1, 1) := by decide +kernel
theorem dX6_readLayer_96 : decode cX6_readLayer 96 = .ok (.iadd, 1) := by decide +kernel
theorem dX6_readLayer_97 : decode cX6_readLayer 97 = .ok (.aload_n 0, 1) := by decide +kernel
theorem dX6_readLayer_98 : decode cX6_readLayer 98 = .ok (.iload_n 1, 1) := by decide +kernel
theorem dX6_readLayer_99 : decode cX6_readLayer 99 = .ok (.invokevirtual 105, 3) := by decide +kernel
theorem dX6_readLayer_102 : decode cX6_readLayer 102 = .ok (.iastore, 1) := by decide +kernel
theorem dX6_readLayer_103 : decode cX6_readLayer 103 = .ok (.aload_n 0, 1) := by decide +kernel
theorem dX6_readLayer_104 : decode cX6_readLayer 104 = .ok (.getfield 28, 3) := by decide +kernel
theorem dX6_readLayer_107 : decode cX6_readLayer 107 = .ok (.iload_n 3, 1) := by decide +kernel
theorem dX6_readLayer_108 : decode cX6_readLayer 108 = .ok (.iconst 1, 1) := by decide +kernel
theorem dX6_readLayer_109 : decode cX6_readLayer 109 = .ok (.iadd, 1) := by decide +kernel
theorem dX6_readLayer_110 : decode cX6_readLayer 110 = .ok (.iaload, 1) := by decide +kernel
theorem dX6_readLayer_111 : decode cX6_readLayer 111 = .ok (.bipush (-9), 2) := by decide +kernel
theorem dX6_readLayer_113 : decode cX6_readLayer 113 = .ok (.if_icmp .ne 5, 3) := by decide +kernel
theorem dX6_readLayer_116 : decode cX6_readLayer 116 = .ok (.iconst 0, 1) := by decide +kernel
theorem dX6_readLayer_117 : decode cX6_readLayer 117 = .ok (.ireturn, 1) := by decide +kernel
theorem dX6_readLayer_118 : decode cX6_readLayer 118 = .ok (.aload_n 0, 1) := by decide +kernel
theorem dX6_readLayer_119 : decode cX6_readLayer 119 = .ok (.getfield 28, 3) := by decide +kernel
theorem dX6_readLayer_122 : decode cX6_readLayer 122 = .ok (.iload_n 3, 1) := by decide +kernel
theorem dX6_readLayer_123 : decode cX6_readLayer 123 = .ok (.iconst 2, 1) := by decide +kernel
theorem dX6_readLayer_124 : decode cX6_readLayer 124 = .ok (.iadd, 1) := by decide +kernel
theorem dX6_readLayer_125 : decode cX6_readLayer 125 = .ok (.aload_n 0, 1) := by decide +kernel
theorem dX6_readLayer_126 : decode cX6_readLayer 126 = .ok (.iload_n 1, 1) := by decide +kernel
theorem dX6_readLayer_127 : decode cX6_readLayer 127 = .ok (.invokevirtual 105, 3) := by decide +kernel
theorem dX6_readLayer_130 : decode cX6_readLayer 130 = .ok (.iastore, 1) := by decide +kernel
theorem dX6_readLayer_131 : decode cX6_readLayer 131 = .ok (.aload_n 0, 1) := by decide +kernel
theorem dX6_readLayer_132 : decode cX6_readLayer 132 = .ok (.dup, 1) := by decide +kernel
theorem dX6_readLayer_133 : decode cX6_readLayer 133 = .ok (.getfield 95, 3) := by decide +kernel
theorem dX6_readLayer_136 : decode cX6_readLayer 136 = .ok (.iconst 1, 1) := by decide +kernel
theorem dX6_readLayer_137 : decode cX6_readLayer 137 = .ok (.iadd, 1) := by decide +kernel
theorem dX6_readLayer_138 : decode cX6_readLayer 138 = .ok (.putfield 95, 3) := by decide +kernel
theorem dX6_readLayer_141 : decode cX6_readLayer 141 = .ok (.aload_n 0, 1) := by decide +kernel
theorem dX6_readLayer_142 : decode cX6_readLayer 142 = .ok (.getfield 28, 3) := by decide +kernel
theorem dX6_readLayer_145 : decode cX6_readLayer 145 = .ok (.iload_n 3, 1) := by decide +kernel
theorem dX6_readLayer_146 : decode cX6_readLayer 146 = .ok (.iconst 2, 1) := by decide +kernel
theorem dX6_readLayer_147 : decode cX6_readLayer 147 = .ok (.iadd, 1) := by decide +kernel
theorem dX6_readLayer_148 : decode cX6_readLayer 148 = .ok (.iaload, 1) := by decide +kernel
theorem dX6_readLayer_149 : decode cX6_readLayer 149 = .ok (.bipush (-9), 2) := by decide +kernel
theorem dX6_readLayer_151 : decode cX6_readLayer 151 = .ok (.if_icmp .eq 7, 3) := by decide +kernel
theorem dX6_readLayer_154 : decode cX6_readLayer 154 = .ok (.iconst 1, 1) := by decide +kernel
theorem dX6_readLayer_155 : decode cX6_readLayer 155 = .ok (.goto 4, 3) := by decide +kernel
theorem dX6_readLayer_158 : decode cX6_readLayer 158 = .ok (.iconst 0, 1) := by decide +kernel
theorem dX6_readLayer_159 : decode cX6_readLayer 159 = .ok (.ireturn, 1) := by decide +kernel
theorem dX6_gripOf_0 : decode cX6_gripOf 0 = .ok (.aload_n 0, 1) := by decide +kernel
theorem dX6_gripOf_1 : decode cX6_gripOf 1 = .ok (.getfield 19, 3) := by decide +kernel
theorem dX6_gripOf_4 : decode cX6_gripOf 4 = .ok (.iload_n 1, 1) := by decide +kernel
theorem dX6_gripOf_5 : decode cX6_gripOf 5 = .ok (.iaload, 1) := by decide +kernel
theorem dX6_gripOf_6 : decode cX6_gripOf 6 = .ok (.ifCond .ne 12, 3) := by decide +kernel
theorem dX6_gripOf_9 : decode cX6_gripOf 9 = .ok (.aload_n 0, 1) := by decide +kernel
theorem dX6_gripOf_10 : decode cX6_gripOf 10 = .ok (.getfield 22, 3) := by decide +kernel
theorem dX6_gripOf_13 : decode cX6_gripOf 13 = .ok (.iload_n 1, 1) := by decide +kernel
theorem dX6_gripOf_14 : decode cX6_gripOf 14 = .ok (.iaload, 1) := by decide +kernel
theorem dX6_gripOf_15 : decode cX6_gripOf 15 = .ok (.goto 32, 3) := by decide +kernel
theorem dX6_gripOf_18 : decode cX6_gripOf 18 = .ok (.aload_n 0, 1) := by decide +kernel
theorem dX6_gripOf_19 : decode cX6_gripOf 19 = .ok (.getfield 19, 3) := by decide +kernel
theorem dX6_gripOf_22 : decode cX6_gripOf 22 = .ok (.iload_n 1, 1) := by decide +kernel
theorem dX6_gripOf_23 : decode cX6_gripOf 23 = .ok (.iaload, 1) := by decide +kernel
theorem dX6_gripOf_24 : decode cX6_gripOf 24 = .ok (.iconst 1, 1) := by decide +kernel
theorem dX6_gripOf_25 : decode cX6_gripOf 25 = .ok (.if_icmp .ne 14, 3) := by decide +kernel
theorem dX6_gripOf_28 : decode cX6_gripOf 28 = .ok (.aload_n 0, 1) := by decide +kernel
theorem dX6_gripOf_29 : decode cX6_gripOf 29 = .ok (.getfield 22, 3) := by decide +kernel
theorem dX6_gripOf_32 : decode cX6_gripOf 32 = .ok (.iload_n 1, 1) := by decide +kernel
theorem dX6_gripOf_33 : decode cX6_gripOf 33 = .ok (.iaload, 1) := by decide +kernel
theorem dX6_gripOf_34 : decode cX6_gripOf 34 = .ok (.iconst 1, 1) := by decide +kernel
theorem dX6_gripOf_35 : decode cX6_gripOf 35 = .ok (.iadd, 1) := by decide +kernel
theorem dX6_gripOf_36 : decode cX6_gripOf 36 = .ok (.goto 11, 3) := by decide +kernel
theorem dX6_gripOf_39 : decode cX6_gripOf 39 = .ok (.iconst 2, 1) := by decide +kernel
theorem dX6_gripOf_40 : decode cX6_gripOf 40 = .ok (.aload_n 0, 1) := by decide +kernel
theorem dX6_gripOf_41 : decode cX6_gripOf 41 = .ok (.getfield 22, 3) := by decide +kernel
theorem dX6_gripOf_44 : decode cX6_gripOf 44 = .ok (.iload_n 1, 1) := by decide +kernel
theorem dX6_gripOf_45 : decode cX6_gripOf 45 = .ok (.iaload, 1) := by decide +kernel
theorem dX6_gripOf_46 : decode cX6_gripOf 46 = .ok (.imul, 1) := by decide +kernel
theorem dX6_gripOf_47 : decode cX6_gripOf 47 = .ok (.ireturn, 1) := by decide +kernel
theorem dX6_orderAsIs_0 : decode cX6_orderAsIs 0 = .ok (.iconst 0, 1) := by decide +kernel
theorem dX6_orderAsIs_1 : decode cX6_orderAsIs 1 = .ok (.istore_n 1, 1) := by decide +kernel
theorem dX6_orderAsIs_2 : decode cX6_orderAsIs 2 = .ok (.iload_n 1, 1) := by decide +kernel
theorem dX6_orderAsIs_3 : decode cX6_orderAsIs 3 = .ok (.aload_n 0, 1) := by decide +kernel
theorem dX6_orderAsIs_4 : decode cX6_orderAsIs 4 = .ok (.getfield 56, 3) := by decide +kernel
theorem dX6_orderAsIs_7 : decode cX6_orderAsIs 7 = .ok (.if_icmp .ge 16, 3) := by decide +kernel
theorem dX6_orderAsIs_10 : decode cX6_orderAsIs 10 = .ok (.aload_n 0, 1) := by decide +kernel
theorem dX6_orderAsIs_11 : decode cX6_orderAsIs 11 = .ok (.getfield 31, 3) := by decide +kernel
theorem dX6_orderAsIs_14 : decode cX6_orderAsIs 14 = .ok (.iload_n 1, 1) := by decide +kernel
theorem dX6_orderAsIs_15 : decode cX6_orderAsIs 15 = .ok (.iload_n 1, 1) := by decide +kernel
theorem dX6_orderAsIs_16 : decode cX6_orderAsIs 16 = .ok (.iastore, 1) := by decide +kernel
theorem dX6_orderAsIs_17 : decode cX6_orderAsIs 17 = .ok (.iinc 1 1, 3) := by decide +kernel
theorem dX6_orderAsIs_20 : decode cX6_orderAsIs 20 = .ok (.goto (-18), 3) := by decide +kernel
theorem dX6_orderAsIs_23 : decode cX6_orderAsIs 23 = .ok (.return_, 1) := by decide +kernel
set_option maxRecDepth 20000 in
theorem ggX6_liftedBy_X6_isOf : GoodIn wsX6_liftedBy wsX6_isOf := goodIn_r _ [6] (by decide +kernel) (by decide +kernel)
set_option maxRecDepth 20000 in
theorem gX6_liftedBy_X6_isOf : GoodIn wsX6_liftedBy (va_wsS RX6 111 yX6_isOf wsX6_isOf) := goodIn_app (goodIn_of _ (by decide +kernel)) ggX6_liftedBy_X6_isOf
set_option maxRecDepth 20000 in
theorem ggX6_liftedBy_X6_gripOf : GoodIn wsX6_liftedBy wsX6_gripOf := goodIn_r _ [10, 11, 12, 13, 14, 15, 16, 17, 18, 19, 20, 21, 22, 23, 24, 25, 26, 27, 28, 29, 30, 31, 32, 33, 34, 35, 36, 37, 38] (by decide +kernel) (by decide +kernel)
set_option maxRecDepth 20000 in
theorem gX6_liftedBy_X6_gripOf : GoodIn wsX6_liftedBy (wsV RX6 114 RX6 yX6_gripOf wsX6_gripOf) := goodIn_app (goodIn_of _ (by decide +kernel)) ggX6_liftedBy_X6_gripOf
theorem dX6_liftedBy_0 : decode cX6_liftedBy 0 = .ok (.iconst 0, 1) := by decide +kernel
theorem dX6_liftedBy_1 : decode cX6_liftedBy 1 = .ok (.istore 4, 2) := by decide +kernel
theorem dX6_liftedBy_3 : decode cX6_liftedBy 3 = .ok (.iconst 0, 1) := by decide +kernel
theorem dX6_liftedBy_4 : decode cX6_liftedBy 4 = .ok (.istore 5, 2) := by decide +kernel
theorem dX6_liftedBy_6 : decode cX6_liftedBy 6 = .ok (.iload 5, 2) := by decide +kernel
theorem dX6_liftedBy_8 : decode cX6_liftedBy 8 = .ok (.aload_n 0, 1) := by decide +kernel
theorem dX6_liftedBy_9 : decode cX6_liftedBy 9 = .ok (.getfield 56, 3) := by decide +kernel
theorem dX6_liftedBy_12 : decode cX6_liftedBy 12 = .ok (.if_icmp .ge 51, 3) := by decide +kernel
theorem dX6_liftedBy_15 : decode cX6_liftedBy 15 = .ok (.aload_n 0, 1) := by decide +kernel
theorem dX6_liftedBy_16 : decode cX6_liftedBy 16 = .ok (.getfield 31, 3) := by decide +kernel
theorem dX6_liftedBy_19 : decode cX6_liftedBy 19 = .ok (.iload 5, 2) := by decide +kernel
theorem dX6_liftedBy_21 : decode cX6_liftedBy 21 = .ok (.iaload, 1) := by decide +kernel
theorem dX6_liftedBy_22 : decode cX6_liftedBy 22 = .ok (.istore 6, 2) := by decide +kernel
theorem dX6_liftedBy_24 : decode cX6_liftedBy 24 = .ok (.iload_n 3, 1) := by decide +kernel
theorem dX6_liftedBy_25 : decode cX6_liftedBy 25 = .ok (.iload 6, 2) := by decide +kernel
theorem dX6_liftedBy_27 : decode cX6_liftedBy 27 = .ok (.invokestatic 111, 3) := by decide +kernel
theorem dX6_liftedBy_30 : decode cX6_liftedBy 30 = .ok (.ifCond .ne 27, 3) := by decide +kernel
theorem dX6_liftedBy_33 : decode cX6_liftedBy 33 = .ok (.iload_n 1, 1) := by decide +kernel
theorem dX6_liftedBy_34 : decode cX6_liftedBy 34 = .ok (.iload_n 2, 1) := by decide +kernel
theorem dX6_liftedBy_35 : decode cX6_liftedBy 35 = .ok (.isub, 1) := by decide +kernel
theorem dX6_liftedBy_36 : decode cX6_liftedBy 36 = .ok (.aload_n 0, 1) := by decide +kernel
theorem dX6_liftedBy_37 : decode cX6_liftedBy 37 = .ok (.iload 6, 2) := by decide +kernel
theorem dX6_liftedBy_39 : decode cX6_liftedBy 39 = .ok (.invokevirtual 114, 3) := by decide +kernel
theorem dX6_liftedBy_42 : decode cX6_liftedBy 42 = .ok (.if_icmp .ge 6, 3) := by decide +kernel
theorem dX6_liftedBy_45 : decode cX6_liftedBy 45 = .ok (.iload 4, 2) := by decide +kernel
theorem dX6_liftedBy_47 : decode cX6_liftedBy 47 = .ok (.ireturn, 1) := by decide +kernel
theorem dX6_liftedBy_48 : decode cX6_liftedBy 48 = .ok (.iload 4, 2) := by decide +kernel
theorem dX6_liftedBy_50 : decode cX6_liftedBy 50 = .ok (.iconst 1, 1) := by decide +kernel
theorem dX6_liftedBy_51 : decode cX6_liftedBy 51 = .ok (.iload 6, 2) := by decide +kernel
theorem dX6_liftedBy_53 : decode cX6_liftedBy 53 = .ok (.ishl, 1) := by decide +kernel
theorem dX6_liftedBy_54 : decode cX6_liftedBy 54 = .ok (.ior, 1) := by decide +kernel
theorem dX6_liftedBy_55 : decode cX6_liftedBy 55 = .ok (.istore 4, 2) := by decide +kernel
theorem dX6_liftedBy_57 : decode cX6_liftedBy 57 = .ok (.iinc 5 1, 3) := by decide +kernel
theorem dX6_liftedBy_60 : decode cX6_liftedBy 60 = .ok (.goto (-54), 3) := by decide +kernel
theorem dX6_liftedBy_63 : decode cX6_liftedBy 63 = .ok (.iload 4, 2) := by decide +kernel
theorem dX6_liftedBy_65 : decode cX6_liftedBy 65 = .ok (.ireturn, 1) := by decide +kernel
set_option maxRecDepth 20000 in
theorem ggX6_heardBy_X6_liftedBy : GoodIn wsX6_heardBy wsX6_liftedBy := goodIn_r _ [8, 1, 2, 9, 10, 7, 11, 12, 13, 14, 15, 3, 16, 17, 18, 19, 20, 21, 22, 23, 24, 25, 26, 27, 28, 29, 30, 31, 32, 33, 34, 35, 36, 37, 38, 39, 40, 41, 42] (by decide +kernel) (by decide +kernel)
set_option maxRecDepth 20000 in
theorem gX6_heardBy_X6_liftedBy : GoodIn wsX6_heardBy (wsV RX6 117 RX6 yX6_liftedBy wsX6_liftedBy) := goodIn_app (goodIn_of _ (by decide +kernel)) ggX6_heardBy_X6_liftedBy
set_option maxRecDepth 20000 in
theorem ggX6_heardBy_X6_isOf : GoodIn wsX6_heardBy wsX6_isOf := goodIn_r _ [11] (by decide +kernel) (by decide +kernel)
set_option maxRecDepth 20000 in
theorem gX6_heardBy_X6_isOf : GoodIn wsX6_heardBy (va_wsS RX6 111 yX6_isOf wsX6_isOf) := goodIn_app (goodIn_of _ (by decide +kernel)) ggX6_heardBy_X6_isOf
theorem dX6_heardBy_0 : decode cX6_heardBy 0 = .ok (.aload_n 0, 1) := by decide +kernel
theorem dX6_heardBy_1 : decode cX6_heardBy 1 = .ok (.iload_n 1, 1) := by decide +kernel
theorem dX6_heardBy_2 : decode cX6_heardBy 2 = .ok (.iload_n 2, 1) := by decide +kernel
theorem dX6_heardBy_3 : decode cX6_heardBy 3 = .ok (.iload_n 3, 1) := by decide +kernel
theorem dX6_heardBy_4 : decode cX6_heardBy 4 = .ok (.invokevirtual 117, 3) := by decide +kernel
theorem dX6_heardBy_7 : decode cX6_heardBy 7 = .ok (.istore 4, 2) := by decide +kernel
theorem dX6_heardBy_9 : decode cX6_heardBy 9 = .ok (.iconst 0, 1) := by decide +kernel
theorem dX6_heardBy_10 : decode cX6_heardBy 10 = .ok (.istore 5, 2) := by decide +kernel
theorem dX6_heardBy_12 : decode cX6_heardBy 12 = .ok (.iconst 0, 1) := by decide +kernel
theorem dX6_heardBy_13 : decode cX6_heardBy 13 = .ok (.istore 6, 2) := by decide +kernel
theorem dX6_heardBy_15 : decode cX6_heardBy 15 = .ok (.iload 6, 2) := by decide +kernel
theorem dX6_heardBy_17 : decode cX6_heardBy 17 = .ok (.aload_n 0, 1) := by decide +kernel
theorem dX6_heardBy_18 : decode cX6_heardBy 18 = .ok (.getfield 56, 3) := by decide +kernel
theorem dX6_heardBy_21 : decode cX6_heardBy 21 = .ok (.if_icmp .ge 51, 3) := by decide +kernel
theorem dX6_heardBy_24 : decode cX6_heardBy 24 = .ok (.aload_n 0, 1) := by decide +kernel
theorem dX6_heardBy_25 : decode cX6_heardBy 25 = .ok (.getfield 31, 3) := by decide +kernel
theorem dX6_heardBy_28 : decode cX6_heardBy 28 = .ok (.iload 6, 2) := by decide +kernel
theorem dX6_heardBy_30 : decode cX6_heardBy 30 = .ok (.iaload, 1) := by decide +kernel
theorem dX6_heardBy_31 : decode cX6_heardBy 31 = .ok (.istore 7, 2) := by decide +kernel
theorem dX6_heardBy_33 : decode cX6_heardBy 33 = .ok (.iload 4, 2) := by decide +kernel
theorem dX6_heardBy_35 : decode cX6_heardBy 35 = .ok (.iload 7, 2) := by decide +kernel
theorem dX6_heardBy_37 : decode cX6_heardBy 37 = .ok (.invokestatic 111, 3) := by decide +kernel
theorem dX6_heardBy_40 : decode cX6_heardBy 40 = .ok (.ifCond .eq 26, 3) := by decide +kernel
theorem dX6_heardBy_43 : decode cX6_heardBy 43 = .ok (.aload_n 0, 1) := by decide +kernel
theorem dX6_heardBy_44 : decode cX6_heardBy 44 = .ok (.getfield 19, 3) := by decide +kernel
theorem dX6_heardBy_47 : decode cX6_heardBy 47 = .ok (.iload 7, 2) := by decide +kernel
theorem dX6_heardBy_49 : decode cX6_heardBy 49 = .ok (.iaload, 1) := by decide +kernel
theorem dX6_heardBy_50 : decode cX6_heardBy 50 = .ok (.iconst 2, 1) := by decide +kernel
theorem dX6_heardBy_51 : decode cX6_heardBy 51 = .ok (.if_icmp .ne 6, 3) := by decide +kernel
theorem dX6_heardBy_54 : decode cX6_heardBy 54 = .ok (.iload 5, 2) := by decide +kernel
theorem dX6_heardBy_56 : decode cX6_heardBy 56 = .ok (.ireturn, 1) := by decide +kernel
theorem dX6_heardBy_57 : decode cX6_heardBy 57 = .ok (.iload 5, 2) := by decide +kernel
theorem dX6_heardBy_59 : decode cX6_heardBy 59 = .ok (.iconst 1, 1) := by decide +kernel
theorem dX6_heardBy_60 : decode cX6_heardBy 60 = .ok (.iload 7, 2) := by decide +kernel
theorem dX6_heardBy_62 : decode cX6_heardBy 62 = .ok (.ishl, 1) := by decide +kernel
theorem dX6_heardBy_63 : decode cX6_heardBy 63 = .ok (.ior, 1) := by decide +kernel
theorem dX6_heardBy_64 : decode cX6_heardBy 64 = .ok (.istore 5, 2) := by decide +kernel
theorem dX6_heardBy_66 : decode cX6_heardBy 66 = .ok (.iinc 6 1, 3) := by decide +kernel
theorem dX6_heardBy_69 : decode cX6_heardBy 69 = .ok (.goto (-54), 3) := by decide +kernel
theorem dX6_heardBy_72 : decode cX6_heardBy 72 = .ok (.iload 5, 2) := by decide +kernel
theorem dX6_heardBy_74 : decode cX6_heardBy 74 = .ok (.ireturn, 1) := by decide +kernel
set_option maxRecDepth 20000 in
theorem ggX6_givers_X6_isOf : GoodIn wsX6_givers wsX6_isOf := goodIn_r _ [6] (by decide +kernel) (by decide +kernel)
set_option maxRecDepth 20000 in
theorem gX6_givers_X6_isOf : GoodIn wsX6_givers (va_wsS RX6 111 yX6_isOf wsX6_isOf) := goodIn_app (goodIn_of _ (by decide +kernel)) ggX6_givers_X6_isOf
theorem dX6_givers_0 : decode cX6_givers 0 = .ok (.iconst 0, 1) := by decide +kernel
theorem dX6_givers_1 : decode cX6_givers 1 = .ok (.istore_n 3, 1) := by decide +kernel
theorem dX6_givers_2 : decode cX6_givers 2 = .ok (.iconst 0, 1) := by decide +kernel
theorem dX6_givers_3 : decode cX6_givers 3 = .ok (.istore 4, 2) := by decide +kernel
theorem dX6_givers_5 : decode cX6_givers 5 = .ok (.iload 4, 2) := by decide +kernel
theorem dX6_givers_7 : decode cX6_givers 7 = .ok (.aload_n 0, 1) := by decide +kernel
theorem dX6_givers_8 : decode cX6_givers 8 = .ok (.getfield 56, 3) := by decide +kernel
theorem dX6_givers_11 : decode cX6_givers 11 = .ok (.if_icmp .ge 37, 3) := by decide +kernel
theorem dX6_givers_14 : decode cX6_givers 14 = .ok (.iload_n 3, 1) := by decide +kernel
theorem dX6_givers_15 : decode cX6_givers 15 = .ok (.iload_n 1, 1) := by decide +kernel
theorem dX6_givers_16 : decode cX6_givers 16 = .ok (.iload 4, 2) := by decide +kernel
theorem dX6_givers_18 : decode cX6_givers 18 = .ok (.invokestatic 111, 3) := by decide +kernel
theorem dX6_givers_21 : decode cX6_givers 21 = .ok (.ifCond .eq 18, 3) := by decide +kernel
theorem dX6_givers_24 : decode cX6_givers 24 = .ok (.aload_n 0, 1) := by decide +kernel
theorem dX6_givers_25 : decode cX6_givers 25 = .ok (.getfield 25, 3) := by decide +kernel
theorem dX6_givers_28 : decode cX6_givers 28 = .ok (.iload 4, 2) := by decide +kernel
theorem dX6_givers_30 : decode cX6_givers 30 = .ok (.iaload, 1) := by decide +kernel
theorem dX6_givers_31 : decode cX6_givers 31 = .ok (.iload_n 2, 1) := by decide +kernel
theorem dX6_givers_32 : decode cX6_givers 32 = .ok (.if_icmp .ne 7, 3) := by decide +kernel
theorem dX6_givers_35 : decode cX6_givers 35 = .ok (.iconst 1, 1) := by decide +kernel
theorem dX6_givers_36 : decode cX6_givers 36 = .ok (.goto 4, 3) := by decide +kernel
theorem dX6_givers_39 : decode cX6_givers 39 = .ok (.iconst 0, 1) := by decide +kernel
theorem dX6_givers_40 : decode cX6_givers 40 = .ok (.iadd, 1) := by decide +kernel
theorem dX6_givers_41 : decode cX6_givers 41 = .ok (.istore_n 3, 1) := by decide +kernel
theorem dX6_givers_42 : decode cX6_givers 42 = .ok (.iinc 4 1, 3) := by decide +kernel
theorem dX6_givers_45 : decode cX6_givers 45 = .ok (.goto (-40), 3) := by decide +kernel
theorem dX6_givers_48 : decode cX6_givers 48 = .ok (.iload_n 3, 1) := by decide +kernel
theorem dX6_givers_49 : decode cX6_givers 49 = .ok (.ireturn, 1) := by decide +kernel
set_option maxRecDepth 20000 in
theorem ggX6_counselBy_X6_heardBy : GoodIn wsX6_counselBy wsX6_heardBy := goodIn_r _ [8, 1, 2, 9, 10, 11, 12, 7, 13, 14, 15, 16, 17, 18, 19, 20, 21, 26, 27, 28, 29, 30, 31, 32, 33, 34, 35, 36, 37, 38, 39, 40, 41, 42, 43, 44, 45, 46, 47, 48, 49, 50, 51] (by decide +kernel) (by decide +kernel)
set_option maxRecDepth 20000 in
theorem gX6_counselBy_X6_heardBy : GoodIn wsX6_counselBy (wsV RX6 121 RX6 yX6_heardBy wsX6_heardBy) := goodIn_app (goodIn_of _ (by decide +kernel)) ggX6_counselBy_X6_heardBy
set_option maxRecDepth 20000 in
theorem ggX6_counselBy_X6_isOf : GoodIn wsX6_counselBy wsX6_isOf := goodIn_r _ [16] (by decide +kernel) (by decide +kernel)
set_option maxRecDepth 20000 in
theorem gX6_counselBy_X6_isOf : GoodIn wsX6_counselBy (va_wsS RX6 111 yX6_isOf wsX6_isOf) := goodIn_app (goodIn_of _ (by decide +kernel)) ggX6_counselBy_X6_isOf
set_option maxRecDepth 20000 in
theorem ggX6_counselBy_X6_givers : GoodIn wsX6_counselBy wsX6_givers := goodIn_r _ [25, 1, 3, 14, 15, 7, 16, 26, 27, 28, 29, 30, 31, 32, 33, 34, 35, 36, 37, 38, 39, 40, 41, 42, 43, 44, 45, 46, 47, 48, 49, 50, 51] (by decide +kernel) (by decide +kernel)
set_option maxRecDepth 20000 in
theorem gX6_counselBy_X6_givers : GoodIn wsX6_counselBy (wsV RX6 124 RX6 yX6_givers wsX6_givers) := goodIn_app (goodIn_of _ (by decide +kernel)) ggX6_counselBy_X6_givers
theorem dX6_counselBy_0 : decode cX6_counselBy 0 = .ok (.aload_n 0, 1) := by decide +kernel
theorem dX6_counselBy_1 : decode cX6_counselBy 1 = .ok (.iload_n 1, 1) := by decide +kernel
theorem dX6_counselBy_2 : decode cX6_counselBy 2 = .ok (.iload_n 2, 1) := by decide +kernel
theorem dX6_counselBy_3 : decode cX6_counselBy 3 = .ok (.iload_n 3, 1) := by decide +kernel
theorem dX6_counselBy_4 : decode cX6_counselBy 4 = .ok (.invokevirtual 121, 3) := by decide +kernel
theorem dX6_counselBy_7 : decode cX6_counselBy 7 = .ok (.istore 4, 2) := by decide +kernel
theorem dX6_counselBy_9 : decode cX6_counselBy 9 = .ok (.bipush (-9), 2) := by decide +kernel
theorem dX6_counselBy_11 : decode cX6_counselBy 11 = .ok (.istore 5, 2) := by decide +kernel
theorem dX6_counselBy_13 : decode cX6_counselBy 13 = .ok (.iconst 0, 1) := by decide +kernel
theorem dX6_counselBy_14 : decode cX6_counselBy 14 = .ok (.istore 6, 2) := by decide +kernel
theorem dX6_counselBy_16 : decode cX6_counselBy 16 = .ok (.iconst 0, 1) := by decide +kernel
theorem dX6_counselBy_17 : decode cX6_counselBy 17 = .ok (.istore 7, 2) := by decide +kernel
theorem dX6_counselBy_19 : decode cX6_counselBy 19 = .ok (.iload 7, 2) := by decide +kernel
theorem dX6_counselBy_21 : decode cX6_counselBy 21 = .ok (.aload_n 0, 1) := by decide +kernel
theorem dX6_counselBy_22 : decode cX6_counselBy 22 = .ok (.getfield 56, 3) := by decide +kernel
theorem dX6_counselBy_25 : decode cX6_counselBy 25 = .ok (.if_icmp .ge 70, 3) := by decide +kernel
theorem dX6_counselBy_28 : decode cX6_counselBy 28 = .ok (.aload_n 0, 1) := by decide +kernel
theorem dX6_counselBy_29 : decode cX6_counselBy 29 = .ok (.getfield 31, 3) := by decide +kernel
theorem dX6_counselBy_32 : decode cX6_counselBy 32 = .ok (.iload 7, 2) := by decide +kernel
theorem dX6_counselBy_34 : decode cX6_counselBy 34 = .ok (.iaload, 1) := by decide +kernel
theorem dX6_counselBy_35 : decode cX6_counselBy 35 = .ok (.istore 8, 2) := by decide +kernel
theorem dX6_counselBy_37 : decode cX6_counselBy 37 = .ok (.iload 4, 2) := by decide +kernel
theorem dX6_counselBy_39 : decode cX6_counselBy 39 = .ok (.iload 8, 2) := by decide +kernel
theorem dX6_counselBy_41 : decode cX6_counselBy 41 = .ok (.invokestatic 111, 3) := by decide +kernel
theorem dX6_counselBy_44 : decode cX6_counselBy 44 = .ok (.ifCond .eq 45, 3) := by decide +kernel
theorem dX6_counselBy_47 : decode cX6_counselBy 47 = .ok (.aload_n 0, 1) := by decide +kernel
theorem dX6_counselBy_48 : decode cX6_counselBy 48 = .ok (.iload 4, 2) := by decide +kernel
theorem dX6_counselBy_50 : decode cX6_counselBy 50 = .ok (.aload_n 0, 1) := by decide +kernel
theorem dX6_counselBy_51 : decode cX6_counselBy 51 = .ok (.getfield 25, 3) := by decide +kernel
theorem dX6_counselBy_54 : decode cX6_counselBy 54 = .ok (.iload 8, 2) := by decide +kernel
theorem dX6_counselBy_56 : decode cX6_counselBy 56 = .ok (.iaload, 1) := by decide +kernel
theorem dX6_counselBy_57 : decode cX6_counselBy 57 = .ok (.invokevirtual 124, 3) := by decide +kernel
theorem dX6_counselBy_60 : decode cX6_counselBy 60 = .ok (.iload 6, 2) := by decide +kernel
theorem dX6_counselBy_62 : decode cX6_counselBy 62 = .ok (.if_icmp .le 27, 3) := by decide +kernel
theorem dX6_counselBy_65 : decode cX6_counselBy 65 = .ok (.aload_n 0, 1) := by decide +kernel
theorem dX6_counselBy_66 : decode cX6_counselBy 66 = .ok (.iload 4, 2) := by decide +kernel
theorem dX6_counselBy_68 : decode cX6_counselBy 68 = .ok (.aload_n 0, 1) := by decide +kernel
theorem dX6_counselBy_69 : decode cX6_counselBy 69 = .ok (.getfield 25, 3) := by decide +kernel
theorem dX6_counselBy_72 : decode cX6_counselBy 72 = .ok (.iload 8, 2) := by decide +kernel
theorem dX6_counselBy_74 : decode cX6_counselBy 74 = .ok (.iaload, 1) := by decide +kernel
theorem dX6_counselBy_75 : decode cX6_counselBy 75 = .ok (.invokevirtual 124, 3) := by decide +kernel
theorem dX6_counselBy_78 : decode cX6_counselBy 78 = .ok (.istore 6, 2) := by decide +kernel
theorem dX6_counselBy_80 : decode cX6_counselBy 80 = .ok (.aload_n 0, 1) := by decide +kernel
theorem dX6_counselBy_81 : decode cX6_counselBy 81 = .ok (.getfield 25, 3) := by decide +kernel
theorem dX6_counselBy_84 : decode cX6_counselBy 84 = .ok (.iload 8, 2) := by decide +kernel
theorem dX6_counselBy_86 : decode cX6_counselBy 86 = .ok (.iaload, 1) := by decide +kernel
theorem dX6_counselBy_87 : decode cX6_counselBy 87 = .ok (.istore 5, 2) := by decide +kernel
theorem dX6_counselBy_89 : decode cX6_counselBy 89 = .ok (.iinc 7 1, 3) := by decide +kernel
theorem dX6_counselBy_92 : decode cX6_counselBy 92 = .ok (.goto (-73), 3) := by decide +kernel
theorem dX6_counselBy_95 : decode cX6_counselBy 95 = .ok (.iload 5, 2) := by decide +kernel
theorem dX6_counselBy_97 : decode cX6_counselBy 97 = .ok (.ireturn, 1) := by decide +kernel
set_option maxRecDepth 20000 in
theorem ggX6_heardNow_X6_orderAsIs : GoodIn wsX6_heardNow wsX6_orderAsIs := goodIn_r _ [7, 8, 9, 27, 28, 29, 30, 31, 32, 33, 34, 35, 36, 37, 38, 39, 40, 41, 42, 43, 44, 45, 46, 47, 48, 49, 50, 51, 52] (by decide +kernel) (by decide +kernel)
set_option maxRecDepth 20000 in
theorem gX6_heardNow_X6_orderAsIs : GoodIn wsX6_heardNow (wsV RX6 128 RX6 yX6_orderAsIs wsX6_orderAsIs) := goodIn_app (goodIn_of _ (by decide +kernel)) ggX6_heardNow_X6_orderAsIs
set_option maxRecDepth 20000 in
theorem ggX6_heardNow_X6_heardBy : GoodIn wsX6_heardNow wsX6_heardBy := goodIn_r _ [13, 8, 9, 14, 15, 16, 17, 6, 18, 19, 20, 21, 22, 23, 24, 25, 26, 27, 28, 29, 30, 31, 32, 33, 34, 35, 36, 37, 38, 39, 40, 41, 42, 43, 44, 45, 46, 47, 48, 49, 50, 51, 52] (by decide +kernel) (by decide +kernel)
set_option maxRecDepth 20000 in
theorem gX6_heardNow_X6_heardBy : GoodIn wsX6_heardNow (wsV RX6 121 RX6 yX6_heardBy wsX6_heardBy) := goodIn_app (goodIn_of _ (by decide +kernel)) ggX6_heardNow_X6_heardBy
theorem dX6_heardNow_0 : decode cX6_heardNow 0 = .ok (.aload_n 0, 1) := by decide +kernel
theorem dX6_heardNow_1 : decode cX6_heardNow 1 = .ok (.invokevirtual 128, 3) := by decide +kernel
theorem dX6_heardNow_4 : decode cX6_heardNow 4 = .ok (.aload_n 0, 1) := by decide +kernel
theorem dX6_heardNow_5 : decode cX6_heardNow 5 = .ok (.aload_n 0, 1) := by decide +kernel
theorem dX6_heardNow_6 : decode cX6_heardNow 6 = .ok (.getfield 86, 3) := by decide +kernel
theorem dX6_heardNow_9 : decode cX6_heardNow 9 = .ok (.aload_n 0, 1) := by decide +kernel
theorem dX6_heardNow_10 : decode cX6_heardNow 10 = .ok (.getfield 92, 3) := by decide +kernel
theorem dX6_heardNow_13 : decode cX6_heardNow 13 = .ok (.iconst 0, 1) := by decide +kernel
theorem dX6_heardNow_14 : decode cX6_heardNow 14 = .ok (.invokevirtual 121, 3) := by decide +kernel
theorem dX6_heardNow_17 : decode cX6_heardNow 17 = .ok (.ireturn, 1) := by decide +kernel
set_option maxRecDepth 20000 in
theorem ggX6_liftedNow_X6_orderAsIs : GoodIn wsX6_liftedNow wsX6_orderAsIs := goodIn_r _ [7, 8, 9, 23, 24, 25, 26, 27, 28, 29, 30, 31, 32, 33, 34, 35, 36, 37, 38, 39, 40, 41, 42, 43, 44, 45, 46, 47, 48] (by decide +kernel) (by decide +kernel)
set_option maxRecDepth 20000 in
theorem gX6_liftedNow_X6_orderAsIs : GoodIn wsX6_liftedNow (wsV RX6 128 RX6 yX6_orderAsIs wsX6_orderAsIs) := goodIn_app (goodIn_of _ (by decide +kernel)) ggX6_liftedNow_X6_orderAsIs
set_option maxRecDepth 20000 in
theorem ggX6_liftedNow_X6_liftedBy : GoodIn wsX6_liftedNow wsX6_liftedBy := goodIn_r _ [13, 8, 9, 14, 15, 6, 16, 17, 18, 19, 20, 21, 22, 23, 24, 25, 26, 27, 28, 29, 30, 31, 32, 33, 34, 35, 36, 37, 38, 39, 40, 41, 42, 43, 44, 45, 46, 47, 48] (by decide +kernel) (by decide +kernel)
set_option maxRecDepth 20000 in
theorem gX6_liftedNow_X6_liftedBy : GoodIn wsX6_liftedNow (wsV RX6 117 RX6 yX6_liftedBy wsX6_liftedBy) := goodIn_app (goodIn_of _ (by decide +kernel)) ggX6_liftedNow_X6_liftedBy
theorem dX6_liftedNow_0 : decode cX6_liftedNow 0 = .ok (.aload_n 0, 1) := by decide +kernel
theorem dX6_liftedNow_1 : decode cX6_liftedNow 1 = .ok (.invokevirtual 128, 3) := by decide +kernel
theorem dX6_liftedNow_4 : decode cX6_liftedNow 4 = .ok (.aload_n 0, 1) := by decide +kernel
theorem dX6_liftedNow_5 : decode cX6_liftedNow 5 = .ok (.aload_n 0, 1) := by decide +kernel
theorem dX6_liftedNow_6 : decode cX6_liftedNow 6 = .ok (.getfield 86, 3) := by decide +kernel
theorem dX6_liftedNow_9 : decode cX6_liftedNow 9 = .ok (.aload_n 0, 1) := by decide +kernel
theorem dX6_liftedNow_10 : decode cX6_liftedNow 10 = .ok (.getfield 92, 3) := by decide +kernel
theorem dX6_liftedNow_13 : decode cX6_liftedNow 13 = .ok (.iconst 0, 1) := by decide +kernel
theorem dX6_liftedNow_14 : decode cX6_liftedNow 14 = .ok (.invokevirtual 117, 3) := by decide +kernel
theorem dX6_liftedNow_17 : decode cX6_liftedNow 17 = .ok (.ireturn, 1) := by decide +kernel
set_option maxRecDepth 20000 in
theorem ggX6_ofLayer_X6_isLayer : GoodIn wsX6_ofLayer wsX6_isLayer := goodIn_r _ [8, 9, 40, 41, 42, 43, 44, 45, 46, 47, 48, 49, 50, 51, 52, 53, 54, 55, 56, 57, 58, 59, 60, 61, 62, 63, 64, 65] (by decide +kernel) (by decide +kernel)
set_option maxRecDepth 20000 in
theorem gX6_ofLayer_X6_isLayer : GoodIn wsX6_ofLayer (wsV RX6 131 RX6 yX6_isLayer wsX6_isLayer) := goodIn_app (goodIn_of _ (by decide +kernel)) ggX6_ofLayer_X6_isLayer
set_option maxRecDepth 20000 in
theorem ggX6_ofLayer_X6_gripOf : GoodIn wsX6_ofLayer wsX6_gripOf := goodIn_r _ [13, 1, 2, 40, 41, 42, 43, 44, 45, 46, 47, 48, 49, 50, 51, 52, 53, 54, 55, 56, 57, 58, 59, 60, 61, 62, 63, 64, 65] (by decide +kernel) (by decide +kernel)
set_option maxRecDepth 20000 in
theorem gX6_ofLayer_X6_gripOf : GoodIn wsX6_ofLayer (wsV RX6 114 RX6 yX6_gripOf wsX6_gripOf) := goodIn_app (goodIn_of _ (by decide +kernel)) ggX6_ofLayer_X6_gripOf
set_option maxRecDepth 20000 in
theorem ggX6_ofLayer_X6_liftedNow : GoodIn wsX6_ofLayer wsX6_liftedNow := goodIn_r _ [17, 18, 19, 20, 21, 22, 7, 23, 9, 24, 25, 26, 27, 28, 29, 30, 31, 10, 11, 12, 13, 1, 2, 40, 41, 42, 43, 44, 45, 46, 47, 48, 49, 50, 51, 52, 53, 54, 55, 56, 57, 58, 59, 60, 61, 62, 63, 64, 65] (by decide +kernel) (by decide +kernel)
set_option maxRecDepth 20000 in
theorem gX6_ofLayer_X6_liftedNow : GoodIn wsX6_ofLayer (wsV RX6 134 RX6 yX6_liftedNow wsX6_liftedNow) := goodIn_app (goodIn_of _ (by decide +kernel)) ggX6_ofLayer_X6_liftedNow
set_option maxRecDepth 20000 in
theorem ggX6_ofLayer_X6_heardNow : GoodIn wsX6_ofLayer wsX6_heardNow := goodIn_r _ [35, 18, 19, 20, 21, 22, 7, 23, 9, 24, 36, 37, 38, 39, 1, 25, 26, 27, 28, 29, 30, 31, 10, 11, 12, 13, 2, 40, 41, 42, 43, 44, 45, 46, 47, 48, 49, 50, 51, 52, 53, 54, 55, 56, 57, 58, 59, 60, 61, 62, 63, 64, 65] (by decide +kernel) (by decide +kernel)
set_option maxRecDepth 20000 in
theorem gX6_ofLayer_X6_heardNow : GoodIn wsX6_ofLayer (wsV RX6 138 RX6 yX6_heardNow wsX6_heardNow) := goodIn_app (goodIn_of _ (by decide +kernel)) ggX6_ofLayer_X6_heardNow
theorem dX6_ofLayer_0 : decode cX6_ofLayer 0 = .ok (.aload_n 0, 1) := by decide +kernel
theorem dX6_ofLayer_1 : decode cX6_ofLayer 1 = .ok (.iload_n 1, 1) := by decide +kernel
theorem dX6_ofLayer_2 : decode cX6_ofLayer 2 = .ok (.invokevirtual 131, 3) := by decide +kernel
theorem dX6_ofLayer_5 : decode cX6_ofLayer 5 = .ok (.ifCond .ne 5, 3) := by decide +kernel
theorem dX6_ofLayer_8 : decode cX6_ofLayer 8 = .ok (.iconst (-1), 1) := by decide +kernel
theorem dX6_ofLayer_9 : decode cX6_ofLayer 9 = .ok (.ireturn, 1) := by decide +kernel
theorem dX6_ofLayer_10 : decode cX6_ofLayer 10 = .ok (.iload_n 2, 1) := by decide +kernel
theorem dX6_ofLayer_11 : decode cX6_ofLayer 11 = .ok (.tableswitch 82 0 5 #[37, 44, 51, 58, 64, 73], 37) := by decide +kernel
theorem dX6_ofLayer_48 : decode cX6_ofLayer 48 = .ok (.aload_n 0, 1) := by decide +kernel
theorem dX6_ofLayer_49 : decode cX6_ofLayer 49 = .ok (.getfield 19, 3) := by decide +kernel
theorem dX6_ofLayer_52 : decode cX6_ofLayer 52 = .ok (.iload_n 1, 1) := by decide +kernel
theorem dX6_ofLayer_53 : decode cX6_ofLayer 53 = .ok (.iaload, 1) := by decide +kernel
theorem dX6_ofLayer_54 : decode cX6_ofLayer 54 = .ok (.ireturn, 1) := by decide +kernel
theorem dX6_ofLayer_55 : decode cX6_ofLayer 55 = .ok (.aload_n 0, 1) := by decide +kernel
theorem dX6_ofLayer_56 : decode cX6_ofLayer 56 = .ok (.getfield 22, 3) := by decide +kernel
theorem dX6_ofLayer_59 : decode cX6_ofLayer 59 = .ok (.iload_n 1, 1) := by decide +kernel
theorem dX6_ofLayer_60 : decode cX6_ofLayer 60 = .ok (.iaload, 1) := by decide +kernel
theorem dX6_ofLayer_61 : decode cX6_ofLayer 61 = .ok (.ireturn, 1) := by decide +kernel
theorem dX6_ofLayer_62 : decode cX6_ofLayer 62 = .ok (.aload_n 0, 1) := by decide +kernel
theorem dX6_ofLayer_63 : decode cX6_ofLayer 63 = .ok (.getfield 25, 3) := by decide +kernel
theorem dX6_ofLayer_66 : decode cX6_ofLayer 66 = .ok (.iload_n 1, 1) := by decide +kernel
theorem dX6_ofLayer_67 : decode cX6_ofLayer 67 = .ok (.iaload, 1) := by decide +kernel
theorem dX6_ofLayer_68 : decode cX6_ofLayer 68 = .ok (.ireturn, 1) := by decide +kernel
theorem dX6_ofLayer_69 : decode cX6_ofLayer 69 = .ok (.aload_n 0, 1) := by decide +kernel
theorem dX6_ofLayer_70 : decode cX6_ofLayer 70 = .ok (.iload_n 1, 1) := by decide +kernel
theorem dX6_ofLayer_71 : decode cX6_ofLayer 71 = .ok (.invokevirtual 114, 3) := by decide +kernel
theorem dX6_ofLayer_74 : decode cX6_ofLayer 74 = .ok (.ireturn, 1) := by decide +kernel
theorem dX6_ofLayer_75 : decode cX6_ofLayer 75 = .ok (.aload_n 0, 1) := by decide +kernel
theorem dX6_ofLayer_76 : decode cX6_ofLayer 76 = .ok (.invokevirtual 134, 3) := by decide +kernel
theorem dX6_ofLayer_79 : decode cX6_ofLayer 79 = .ok (.iload_n 1, 1) := by decide +kernel
theorem dX6_ofLayer_80 : decode cX6_ofLayer 80 = .ok (.ishr, 1) := by decide +kernel
theorem dX6_ofLayer_81 : decode cX6_ofLayer 81 = .ok (.iconst 1, 1) := by decide +kernel
theorem dX6_ofLayer_82 : decode cX6_ofLayer 82 = .ok (.iand, 1) := by decide +kernel
theorem dX6_ofLayer_83 : decode cX6_ofLayer 83 = .ok (.ireturn, 1) := by decide +kernel
theorem dX6_ofLayer_84 : decode cX6_ofLayer 84 = .ok (.aload_n 0, 1) := by decide +kernel
theorem dX6_ofLayer_85 : decode cX6_ofLayer 85 = .ok (.invokevirtual 138, 3) := by decide +kernel
theorem dX6_ofLayer_88 : decode cX6_ofLayer 88 = .ok (.iload_n 1, 1) := by decide +kernel
theorem dX6_ofLayer_89 : decode cX6_ofLayer 89 = .ok (.ishr, 1) := by decide +kernel
theorem dX6_ofLayer_90 : decode cX6_ofLayer 90 = .ok (.iconst 1, 1) := by decide +kernel
theorem dX6_ofLayer_91 : decode cX6_ofLayer 91 = .ok (.iand, 1) := by decide +kernel
theorem dX6_ofLayer_92 : decode cX6_ofLayer 92 = .ok (.ireturn, 1) := by decide +kernel
theorem dX6_ofLayer_93 : decode cX6_ofLayer 93 = .ok (.bipush (-2), 2) := by decide +kernel
theorem dX6_ofLayer_95 : decode cX6_ofLayer 95 = .ok (.ireturn, 1) := by decide +kernel
set_option maxRecDepth 20000 in
theorem ggX6_heat_X6_within : GoodIn wsX6_heat wsX6_within := goodIn_r _ [6] (by decide +kernel) (by decide +kernel)
set_option maxRecDepth 20000 in
theorem gX6_heat_X6_within : GoodIn wsX6_heat (va_wsS RX6 52 yX6_within wsX6_within) := goodIn_app (goodIn_of _ (by decide +kernel)) ggX6_heat_X6_within
theorem dX6_heat_0 : decode cX6_heat 0 = .ok (.iload_n 1, 1) := by decide +kernel
theorem dX6_heat_1 : decode cX6_heat 1 = .ok (.iconst 0, 1) := by decide +kernel
theorem dX6_heat_2 : decode cX6_heat 2 = .ok (.bipush 20, 2) := by decide +kernel
theorem dX6_heat_4 : decode cX6_heat 4 = .ok (.invokestatic 52, 3) := by decide +kernel
theorem dX6_heat_7 : decode cX6_heat 7 = .ok (.ifCond .ne 6, 3) := by decide +kernel
theorem dX6_heat_10 : decode cX6_heat 10 = .ok (.bipush (-2), 2) := by decide +kernel
theorem dX6_heat_12 : decode cX6_heat 12 = .ok (.ireturn, 1) := by decide +kernel
theorem dX6_heat_13 : decode cX6_heat 13 = .ok (.aload_n 0, 1) := by decide +kernel
theorem dX6_heat_14 : decode cX6_heat 14 = .ok (.getfield 56, 3) := by decide +kernel
theorem dX6_heat_17 : decode cX6_heat 17 = .ok (.ifCond .ne 6, 3) := by decide +kernel
theorem dX6_heat_20 : decode cX6_heat 20 = .ok (.bipush (-3), 2) := by decide +kernel
theorem dX6_heat_22 : decode cX6_heat 22 = .ok (.ireturn, 1) := by decide +kernel
theorem dX6_heat_23 : decode cX6_heat 23 = .ok (.aload_n 0, 1) := by decide +kernel
theorem dX6_heat_24 : decode cX6_heat 24 = .ok (.getfield 86, 3) := by decide +kernel
theorem dX6_heat_27 : decode cX6_heat 27 = .ok (.istore_n 2, 1) := by decide +kernel
theorem dX6_heat_28 : decode cX6_heat 28 = .ok (.aload_n 0, 1) := by decide +kernel
theorem dX6_heat_29 : decode cX6_heat 29 = .ok (.iload_n 1, 1) := by decide +kernel
theorem dX6_heat_30 : decode cX6_heat 30 = .ok (.putfield 86, 3) := by decide +kernel
theorem dX6_heat_33 : decode cX6_heat 33 = .ok (.iload_n 2, 1) := by decide +kernel
theorem dX6_heat_34 : decode cX6_heat 34 = .ok (.ireturn, 1) := by decide +kernel
set_option maxRecDepth 20000 in
theorem ggX6_wet_X6_isDigit : GoodIn wsX6_wet wsX6_isDigit := goodIn_r _ [6, 7, 8, 5, 9] (by decide +kernel) (by decide +kernel)
set_option maxRecDepth 20000 in
theorem gX6_wet_X6_isDigit : GoodIn wsX6_wet (va_wsS RX6 141 yX6_isDigit wsX6_isDigit) := goodIn_app (goodIn_of _ (by decide +kernel)) ggX6_wet_X6_isDigit
theorem dX6_wet_0 : decode cX6_wet 0 = .ok (.iload_n 1, 1) := by decide +kernel
theorem dX6_wet_1 : decode cX6_wet 1 = .ok (.invokestatic 141, 3) := by decide +kernel
theorem dX6_wet_4 : decode cX6_wet 4 = .ok (.ifCond .ne 6, 3) := by decide +kernel
theorem dX6_wet_7 : decode cX6_wet 7 = .ok (.bipush (-2), 2) := by decide +kernel
theorem dX6_wet_9 : decode cX6_wet 9 = .ok (.ireturn, 1) := by decide +kernel
theorem dX6_wet_10 : decode cX6_wet 10 = .ok (.aload_n 0, 1) := by decide +kernel
theorem dX6_wet_11 : decode cX6_wet 11 = .ok (.getfield 56, 3) := by decide +kernel
theorem dX6_wet_14 : decode cX6_wet 14 = .ok (.ifCond .ne 6, 3) := by decide +kernel
theorem dX6_wet_17 : decode cX6_wet 17 = .ok (.bipush (-3), 2) := by decide +kernel
theorem dX6_wet_19 : decode cX6_wet 19 = .ok (.ireturn, 1) := by decide +kernel
theorem dX6_wet_20 : decode cX6_wet 20 = .ok (.aload_n 0, 1) := by decide +kernel
theorem dX6_wet_21 : decode cX6_wet 21 = .ok (.getfield 92, 3) := by decide +kernel
theorem dX6_wet_24 : decode cX6_wet 24 = .ok (.istore_n 2, 1) := by decide +kernel
theorem dX6_wet_25 : decode cX6_wet 25 = .ok (.aload_n 0, 1) := by decide +kernel
theorem dX6_wet_26 : decode cX6_wet 26 = .ok (.iload_n 1, 1) := by decide +kernel
theorem dX6_wet_27 : decode cX6_wet 27 = .ok (.putfield 92, 3) := by decide +kernel
theorem dX6_wet_30 : decode cX6_wet 30 = .ok (.iload_n 2, 1) := by decide +kernel
theorem dX6_wet_31 : decode cX6_wet 31 = .ok (.ireturn, 1) := by decide +kernel
set_option maxRecDepth 20000 in
theorem ggX6_paste_X6_isLayer : GoodIn wsX6_paste wsX6_isLayer := goodIn_r _ [6, 7, 14, 15, 16, 17, 18, 19, 20, 21, 22, 23, 24, 25, 26, 27, 28, 29, 30, 31, 32, 33, 34, 35, 36, 37, 38, 39] (by decide +kernel) (by decide +kernel)
set_option maxRecDepth 20000 in
theorem gX6_paste_X6_isLayer : GoodIn wsX6_paste (wsV RX6 131 RX6 yX6_isLayer wsX6_isLayer) := goodIn_app (goodIn_of _ (by decide +kernel)) ggX6_paste_X6_isLayer
set_option maxRecDepth 20000 in
theorem ggX6_paste_X6_isDigit : GoodIn wsX6_paste wsX6_isDigit := goodIn_r _ [10, 11, 12, 5, 13] (by decide +kernel) (by decide +kernel)
set_option maxRecDepth 20000 in
theorem gX6_paste_X6_isDigit : GoodIn wsX6_paste (va_wsS RX6 141 yX6_isDigit wsX6_isDigit) := goodIn_app (goodIn_of _ (by decide +kernel)) ggX6_paste_X6_isDigit
theorem dX6_paste_0 : decode cX6_paste 0 = .ok (.aload_n 0, 1) := by decide +kernel
theorem dX6_paste_1 : decode cX6_paste 1 = .ok (.iload_n 1, 1) := by decide +kernel
theorem dX6_paste_2 : decode cX6_paste 2 = .ok (.invokevirtual 131, 3) := by decide +kernel
theorem dX6_paste_5 : decode cX6_paste 5 = .ok (.ifCond .ne 5, 3) := by decide +kernel
theorem dX6_paste_8 : decode cX6_paste 8 = .ok (.iconst (-1), 1) := by decide +kernel
theorem dX6_paste_9 : decode cX6_paste 9 = .ok (.ireturn, 1) := by decide +kernel
theorem dX6_paste_10 : decode cX6_paste 10 = .ok (.iload_n 2, 1) := by decide +kernel
theorem dX6_paste_11 : decode cX6_paste 11 = .ok (.invokestatic 141, 3) := by decide +kernel
theorem dX6_paste_14 : decode cX6_paste 14 = .ok (.ifCond .ne 6, 3) := by decide +kernel
theorem dX6_paste_17 : decode cX6_paste 17 = .ok (.bipush (-2), 2) := by decide +kernel
theorem dX6_paste_19 : decode cX6_paste 19 = .ok (.ireturn, 1) := by decide +kernel
theorem dX6_paste_20 : decode cX6_paste 20 = .ok (.aload_n 0, 1) := by decide +kernel
theorem dX6_paste_21 : decode cX6_paste 21 = .ok (.getfield 22, 3) := by decide +kernel
theorem dX6_paste_24 : decode cX6_paste 24 = .ok (.iload_n 1, 1) := by decide +kernel
theorem dX6_paste_25 : decode cX6_paste 25 = .ok (.iaload, 1) := by decide +kernel
theorem dX6_paste_26 : decode cX6_paste 26 = .ok (.istore_n 3, 1) := by decide +kernel
theorem dX6_paste_27 : decode cX6_paste 27 = .ok (.aload_n 0, 1) := by decide +kernel
theorem dX6_paste_28 : decode cX6_paste 28 = .ok (.getfield 22, 3) := by decide +kernel
theorem dX6_paste_31 : decode cX6_paste 31 = .ok (.iload_n 1, 1) := by decide +kernel
theorem dX6_paste_32 : decode cX6_paste 32 = .ok (.iload_n 2, 1) := by decide +kernel
theorem dX6_paste_33 : decode cX6_paste 33 = .ok (.iastore, 1) := by decide +kernel
theorem dX6_paste_34 : decode cX6_paste 34 = .ok (.iload_n 3, 1) := by decide +kernel
theorem dX6_paste_35 : decode cX6_paste 35 = .ok (.ireturn, 1) := by decide +kernel
set_option maxRecDepth 20000 in
theorem ggX6_heard_X6_heardNow : GoodIn wsX6_heard wsX6_heardNow := goodIn_r _ [6, 7, 8, 9, 10, 11, 5, 12, 1, 13, 14, 15, 16, 17, 18, 19, 20, 21, 22, 23, 24, 25, 26, 27, 28, 29, 30, 31, 32, 33, 34, 35, 36, 37, 38, 39, 40, 41, 42, 43, 44, 45, 46, 47, 48, 49, 50, 51, 52, 53, 54, 55, 56] (by decide +kernel) (by decide +kernel)
set_option maxRecDepth 20000 in
theorem gX6_heard_X6_heardNow : GoodIn wsX6_heard (wsV RX6 138 RX6 yX6_heardNow wsX6_heardNow) := goodIn_app (goodIn_of _ (by decide +kernel)) ggX6_heard_X6_heardNow
theorem dX6_heard_0 : decode cX6_heard 0 = .ok (.aload_n 0, 1) := by decide +kernel
theorem dX6_heard_1 : decode cX6_heard 1 = .ok (.getfield 56, 3) := by decide +kernel
theorem dX6_heard_4 : decode cX6_heard 4 = .ok (.ifCond .ne 8, 3) := by decide +kernel
theorem dX6_heard_7 : decode cX6_heard 7 = .ok (.bipush (-3), 2) := by decide +kernel
theorem dX6_heard_9 : decode cX6_heard 9 = .ok (.goto 7, 3) := by decide +kernel
theorem dX6_heard_12 : decode cX6_heard 12 = .ok (.aload_n 0, 1) := by decide +kernel
theorem dX6_heard_13 : decode cX6_heard 13 = .ok (.invokevirtual 138, 3) := by decide +kernel
theorem dX6_heard_16 : decode cX6_heard 16 = .ok (.ireturn, 1) := by decide +kernel
set_option maxRecDepth 20000 in
theorem ggX6_counsel_X6_within : GoodIn wsX6_counsel wsX6_within := goodIn_r _ [5] (by decide +kernel) (by decide +kernel)
set_option maxRecDepth 20000 in
theorem gX6_counsel_X6_within : GoodIn wsX6_counsel (va_wsS RX6 52 yX6_within wsX6_within) := goodIn_app (goodIn_of _ (by decide +kernel)) ggX6_counsel_X6_within
set_option maxRecDepth 20000 in
theorem ggX6_counsel_X6_isDigit : GoodIn wsX6_counsel wsX6_isDigit := goodIn_r _ [8, 2, 3, 4, 5] (by decide +kernel) (by decide +kernel)
set_option maxRecDepth 20000 in
theorem gX6_counsel_X6_isDigit : GoodIn wsX6_counsel (va_wsS RX6 141 yX6_isDigit wsX6_isDigit) := goodIn_app (goodIn_of _ (by decide +kernel)) ggX6_counsel_X6_isDigit
set_option maxRecDepth 20000 in
theorem ggX6_counsel_X6_orderAsIs : GoodIn wsX6_counsel wsX6_orderAsIs := goodIn_r _ [12, 1, 13, 40, 41, 42, 43, 44, 45, 46, 47, 48, 49, 50, 51, 52, 53, 54, 55, 56, 57, 58, 59, 60, 61, 62, 63, 64, 65] (by decide +kernel) (by decide +kernel)
set_option maxRecDepth 20000 in
theorem gX6_counsel_X6_orderAsIs : GoodIn wsX6_counsel (wsV RX6 128 RX6 yX6_orderAsIs wsX6_orderAsIs) := goodIn_app (goodIn_of _ (by decide +kernel)) ggX6_counsel_X6_orderAsIs
set_option maxRecDepth 20000 in
theorem ggX6_counsel_X6_counselBy : GoodIn wsX6_counsel wsX6_counselBy := goodIn_r _ [17, 1, 13, 18, 19, 20, 21, 4, 22, 23, 24, 25, 26, 27, 28, 29, 30, 31, 32, 33, 34, 35, 36, 37, 38, 39, 40, 41, 42, 43, 44, 45, 46, 47, 48, 49, 50, 51, 52, 53, 54, 55, 56, 57, 58, 59, 60, 61, 62, 63, 64, 65] (by decide +kernel) (by decide +kernel)
set_option maxRecDepth 20000 in
theorem gX6_counsel_X6_counselBy : GoodIn wsX6_counsel (wsV RX6 144 RX6 yX6_counselBy wsX6_counselBy) := goodIn_app (goodIn_of _ (by decide +kernel)) ggX6_counsel_X6_counselBy
theorem dX6_counsel_0 : decode cX6_counsel 0 = .ok (.iload_n 1, 1) := by decide +kernel
theorem dX6_counsel_1 : decode cX6_counsel 1 = .ok (.iconst 0, 1) := by decide +kernel
theorem dX6_counsel_2 : decode cX6_counsel 2 = .ok (.bipush 20, 2) := by decide +kernel
theorem dX6_counsel_4 : decode cX6_counsel 4 = .ok (.invokestatic 52, 3) := by decide +kernel
theorem dX6_counsel_7 : decode cX6_counsel 7 = .ok (.ifCond .eq 10, 3) := by decide +kernel
theorem dX6_counsel_10 : decode cX6_counsel 10 = .ok (.iload_n 2, 1) := by decide +kernel
theorem dX6_counsel_11 : decode cX6_counsel 11 = .ok (.invokestatic 141, 3) := by decide +kernel
theorem dX6_counsel_14 : decode cX6_counsel 14 = .ok (.ifCond .ne 6, 3) := by decide +kernel
theorem dX6_counsel_17 : decode cX6_counsel 17 = .ok (.bipush (-2), 2) := by decide +kernel
theorem dX6_counsel_19 : decode cX6_counsel 19 = .ok (.ireturn, 1) := by decide +kernel
theorem dX6_counsel_20 : decode cX6_counsel 20 = .ok (.aload_n 0, 1) := by decide +kernel
theorem dX6_counsel_21 : decode cX6_counsel 21 = .ok (.getfield 56, 3) := by decide +kernel
theorem dX6_counsel_24 : decode cX6_counsel 24 = .ok (.ifCond .ne 6, 3) := by decide +kernel
theorem dX6_counsel_27 : decode cX6_counsel 27 = .ok (.bipush (-3), 2) := by decide +kernel
theorem dX6_counsel_29 : decode cX6_counsel 29 = .ok (.ireturn, 1) := by decide +kernel
theorem dX6_counsel_30 : decode cX6_counsel 30 = .ok (.aload_n 0, 1) := by decide +kernel
theorem dX6_counsel_31 : decode cX6_counsel 31 = .ok (.invokevirtual 128, 3) := by decide +kernel
theorem dX6_counsel_34 : decode cX6_counsel 34 = .ok (.aload_n 0, 1) := by decide +kernel
theorem dX6_counsel_35 : decode cX6_counsel 35 = .ok (.iload_n 1, 1) := by decide +kernel
theorem dX6_counsel_36 : decode cX6_counsel 36 = .ok (.iload_n 2, 1) := by decide +kernel
theorem dX6_counsel_37 : decode cX6_counsel 37 = .ok (.iconst 0, 1) := by decide +kernel
theorem dX6_counsel_38 : decode cX6_counsel 38 = .ok (.invokevirtual 144, 3) := by decide +kernel
theorem dX6_counsel_41 : decode cX6_counsel 41 = .ok (.ireturn, 1) := by decide +kernel
set_option maxRecDepth 20000 in
theorem ggX6_clash_X6_within : GoodIn wsX6_clash wsX6_within := goodIn_r _ [5] (by decide +kernel) (by decide +kernel)
set_option maxRecDepth 20000 in
theorem gX6_clash_X6_within : GoodIn wsX6_clash (va_wsS RX6 52 yX6_within wsX6_within) := goodIn_app (goodIn_of _ (by decide +kernel)) ggX6_clash_X6_within
set_option maxRecDepth 20000 in
theorem ggX6_clash_X6_heardNow : GoodIn wsX6_clash wsX6_heardNow := goodIn_r _ [9, 10, 11, 12, 13, 14, 4, 15, 1, 16, 17, 18, 19, 20, 21, 22, 23, 24, 25, 26, 27, 28, 29, 30, 31, 32, 33, 42, 43, 44, 45, 46, 47, 48, 49, 50, 51, 52, 53, 54, 55, 56, 57, 58, 59, 60, 61, 62, 63, 64, 65, 66, 67] (by decide +kernel) (by decide +kernel)
set_option maxRecDepth 20000 in
theorem gX6_clash_X6_heardNow : GoodIn wsX6_clash (wsV RX6 138 RX6 yX6_heardNow wsX6_heardNow) := goodIn_app (goodIn_of _ (by decide +kernel)) ggX6_clash_X6_heardNow
set_option maxRecDepth 20000 in
theorem ggX6_clash_X6_size : GoodIn wsX6_clash wsX6_size := goodIn_r _ [36] (by decide +kernel) (by decide +kernel)
set_option maxRecDepth 20000 in
theorem gX6_clash_X6_size : GoodIn wsX6_clash (va_wsS RX6 147 yX6_size wsX6_size) := goodIn_app (goodIn_of _ (by decide +kernel)) ggX6_clash_X6_size
set_option maxRecDepth 20000 in
theorem ggX6_clash_X6_givers : GoodIn wsX6_clash wsX6_givers := goodIn_r _ [40, 1, 41, 26, 27, 4, 28, 42, 43, 44, 45, 46, 47, 48, 49, 50, 51, 52, 53, 54, 55, 56, 57, 58, 59, 60, 61, 62, 63, 64, 65, 66, 67] (by decide +kernel) (by decide +kernel)
set_option maxRecDepth 20000 in
theorem gX6_clash_X6_givers : GoodIn wsX6_clash (wsV RX6 124 RX6 yX6_givers wsX6_givers) := goodIn_app (goodIn_of _ (by decide +kernel)) ggX6_clash_X6_givers
theorem dX6_clash_0 : decode cX6_clash 0 = .ok (.iload_n 1, 1) := by decide +kernel
theorem dX6_clash_1 : decode cX6_clash 1 = .ok (.iconst 0, 1) := by decide +kernel
theorem dX6_clash_2 : decode cX6_clash 2 = .ok (.iconst 1, 1) := by decide +kernel
theorem dX6_clash_3 : decode cX6_clash 3 = .ok (.invokestatic 52, 3) := by decide +kernel
theorem dX6_clash_6 : decode cX6_clash 6 = .ok (.ifCond .ne 6, 3) := by decide +kernel
theorem dX6_clash_9 : decode cX6_clash 9 = .ok (.bipush (-2), 2) := by decide +kernel
theorem dX6_clash_11 : decode cX6_clash 11 = .ok (.ireturn, 1) := by decide +kernel
theorem dX6_clash_12 : decode cX6_clash 12 = .ok (.aload_n 0, 1) := by decide +kernel
theorem dX6_clash_13 : decode cX6_clash 13 = .ok (.getfield 56, 3) := by decide +kernel
theorem dX6_clash_16 : decode cX6_clash 16 = .ok (.ifCond .ne 6, 3) := by decide +kernel
theorem dX6_clash_19 : decode cX6_clash 19 = .ok (.bipush (-3), 2) := by decide +kernel
theorem dX6_clash_21 : decode cX6_clash 21 = .ok (.ireturn, 1) := by decide +kernel
theorem dX6_clash_22 : decode cX6_clash 22 = .ok (.aload_n 0, 1) := by decide +kernel
theorem dX6_clash_23 : decode cX6_clash 23 = .ok (.invokevirtual 138, 3) := by decide +kernel
theorem dX6_clash_26 : decode cX6_clash 26 = .ok (.istore_n 2, 1) := by decide +kernel
theorem dX6_clash_27 : decode cX6_clash 27 = .ok (.iload_n 2, 1) := by decide +kernel
theorem dX6_clash_28 : decode cX6_clash 28 = .ok (.invokestatic 147, 3) := by decide +kernel
theorem dX6_clash_31 : decode cX6_clash 31 = .ok (.istore_n 3, 1) := by decide +kernel
theorem dX6_clash_32 : decode cX6_clash 32 = .ok (.iconst 0, 1) := by decide +kernel
theorem dX6_clash_33 : decode cX6_clash 33 = .ok (.istore 4, 2) := by decide +kernel
theorem dX6_clash_35 : decode cX6_clash 35 = .ok (.iconst 0, 1) := by decide +kernel
theorem dX6_clash_36 : decode cX6_clash 36 = .ok (.istore 5, 2) := by decide +kernel
theorem dX6_clash_38 : decode cX6_clash 38 = .ok (.iconst 0, 1) := by decide +kernel
theorem dX6_clash_39 : decode cX6_clash 39 = .ok (.istore 6, 2) := by decide +kernel
theorem dX6_clash_41 : decode cX6_clash 41 = .ok (.iload 6, 2) := by decide +kernel
theorem dX6_clash_43 : decode cX6_clash 43 = .ok (.bipush 9, 2) := by decide +kernel
theorem dX6_clash_45 : decode cX6_clash 45 = .ok (.if_icmp .gt 48, 3) := by decide +kernel
theorem dX6_clash_48 : decode cX6_clash 48 = .ok (.aload_n 0, 1) := by decide +kernel
theorem dX6_clash_49 : decode cX6_clash 49 = .ok (.iload_n 2, 1) := by decide +kernel
theorem dX6_clash_50 : decode cX6_clash 50 = .ok (.iload 6, 2) := by decide +kernel
theorem dX6_clash_52 : decode cX6_clash 52 = .ok (.invokevirtual 124, 3) := by decide +kernel
theorem dX6_clash_55 : decode cX6_clash 55 = .ok (.istore 7, 2) := by decide +kernel
theorem dX6_clash_57 : decode cX6_clash 57 = .ok (.iload 4, 2) := by decide +kernel
theorem dX6_clash_59 : decode cX6_clash 59 = .ok (.iload 7, 2) := by decide +kernel
theorem dX6_clash_61 : decode cX6_clash 61 = .ok (.iload 7, 2) := by decide +kernel
theorem dX6_clash_63 : decode cX6_clash 63 = .ok (.iconst 1, 1) := by decide +kernel
theorem dX6_clash_64 : decode cX6_clash 64 = .ok (.isub, 1) := by decide +kernel
theorem dX6_clash_65 : decode cX6_clash 65 = .ok (.imul, 1) := by decide +kernel
theorem dX6_clash_66 : decode cX6_clash 66 = .ok (.iconst 2, 1) := by decide +kernel
theorem dX6_clash_67 : decode cX6_clash 67 = .ok (.idiv, 1) := by decide +kernel
theorem dX6_clash_68 : decode cX6_clash 68 = .ok (.iadd, 1) := by decide +kernel
theorem dX6_clash_69 : decode cX6_clash 69 = .ok (.istore 4, 2) := by decide +kernel
theorem dX6_clash_71 : decode cX6_clash 71 = .ok (.iload 7, 2) := by decide +kernel
theorem dX6_clash_73 : decode cX6_clash 73 = .ok (.iload 5, 2) := by decide +kernel
theorem dX6_clash_75 : decode cX6_clash 75 = .ok (.if_icmp .le 8, 3) := by decide +kernel
theorem dX6_clash_78 : decode cX6_clash 78 = .ok (.iload 7, 2) := by decide +kernel
theorem dX6_clash_80 : decode cX6_clash 80 = .ok (.goto 5, 3) := by decide +kernel
theorem dX6_clash_83 : decode cX6_clash 83 = .ok (.iload 5, 2) := by decide +kernel
theorem dX6_clash_85 : decode cX6_clash 85 = .ok (.istore 5, 2) := by decide +kernel
theorem dX6_clash_87 : decode cX6_clash 87 = .ok (.iinc 6 1, 3) := by decide +kernel
theorem dX6_clash_90 : decode cX6_clash 90 = .ok (.goto (-49), 3) := by decide +kernel
theorem dX6_clash_93 : decode cX6_clash 93 = .ok (.iload_n 1, 1) := by decide +kernel
theorem dX6_clash_94 : decode cX6_clash 94 = .ok (.ifCond .ne 16, 3) := by decide +kernel
theorem dX6_clash_97 : decode cX6_clash 97 = .ok (.iload_n 3, 1) := by decide +kernel
theorem dX6_clash_98 : decode cX6_clash 98 = .ok (.iload_n 3, 1) := by decide +kernel
theorem dX6_clash_99 : decode cX6_clash 99 = .ok (.iconst 1, 1) := by decide +kernel
theorem dX6_clash_100 : decode cX6_clash 100 = .ok (.isub, 1) := by decide +kernel
theorem dX6_clash_101 : decode cX6_clash 101 = .ok (.imul, 1) := by decide +kernel
theorem dX6_clash_102 : decode cX6_clash 102 = .ok (.iconst 2, 1) := by decide +kernel
theorem dX6_clash_103 : decode cX6_clash 103 = .ok (.idiv, 1) := by decide +kernel
theorem dX6_clash_104 : decode cX6_clash 104 = .ok (.iload 4, 2) := by decide +kernel
theorem dX6_clash_106 : decode cX6_clash 106 = .ok (.isub, 1) := by decide +kernel
theorem dX6_clash_107 : decode cX6_clash 107 = .ok (.goto 7, 3) := by decide +kernel
theorem dX6_clash_110 : decode cX6_clash 110 = .ok (.iload_n 3, 1) := by decide +kernel
theorem dX6_clash_111 : decode cX6_clash 111 = .ok (.iload 5, 2) := by decide +kernel
theorem dX6_clash_113 : decode cX6_clash 113 = .ok (.isub, 1) := by decide +kernel
theorem dX6_clash_114 : decode cX6_clash 114 = .ok (.ireturn, 1) := by decide +kernel
theorem dX6_putOn_0 : decode cX6_putOn 0 = .ok (.aload_n 0, 1) := by decide +kernel
theorem dX6_putOn_1 : decode cX6_putOn 1 = .ok (.getfield 56, 3) := by decide +kernel
theorem dX6_putOn_4 : decode cX6_putOn 4 = .ok (.istore 4, 2) := by decide +kernel
theorem dX6_putOn_6 : decode cX6_putOn 6 = .ok (.iload 4, 2) := by decide +kernel
theorem dX6_putOn_8 : decode cX6_putOn 8 = .ok (.ifCond .le 57, 3) := by decide +kernel
theorem dX6_putOn_11 : decode cX6_putOn 11 = .ok (.aload_n 0, 1) := by decide +kernel
theorem dX6_putOn_12 : decode cX6_putOn 12 = .ok (.getfield 19, 3) := by decide +kernel
theorem dX6_putOn_15 : decode cX6_putOn 15 = .ok (.iload 4, 2) := by decide +kernel
theorem dX6_putOn_17 : decode cX6_putOn 17 = .ok (.aload_n 0, 1) := by decide +kernel
theorem dX6_putOn_18 : decode cX6_putOn 18 = .ok (.getfield 19, 3) := by decide +kernel
theorem dX6_putOn_21 : decode cX6_putOn 21 = .ok (.iload 4, 2) := by decide +kernel
theorem dX6_putOn_23 : decode cX6_putOn 23 = .ok (.iconst 1, 1) := by decide +kernel
theorem dX6_putOn_24 : decode cX6_putOn 24 = .ok (.isub, 1) := by decide +kernel
theorem dX6_putOn_25 : decode cX6_putOn 25 = .ok (.iaload, 1) := by decide +kernel
theorem dX6_putOn_26 : decode cX6_putOn 26 = .ok (.iastore, 1) := by decide +kernel
theorem dX6_putOn_27 : decode cX6_putOn 27 = .ok (.aload_n 0, 1) := by decide +kernel
theorem dX6_putOn_28 : decode cX6_putOn 28 = .ok (.getfield 22, 3) := by decide +kernel
theorem dX6_putOn_31 : decode cX6_putOn 31 = .ok (.iload 4, 2) := by decide +kernel
theorem dX6_putOn_33 : decode cX6_putOn 33 = .ok (.aload_n 0, 1) := by decide +kernel
theorem dX6_putOn_34 : decode cX6_putOn 34 = .ok (.getfield 22, 3) := by decide +kernel
theorem dX6_putOn_37 : decode cX6_putOn 37 = .ok (.iload 4, 2) := by decide +kernel
theorem dX6_putOn_39 : decode cX6_putOn 39 = .ok (.iconst 1, 1) := by decide +kernel
theorem dX6_putOn_40 : decode cX6_putOn 40 = .ok (.isub, 1) := by decide +kernel
theorem dX6_putOn_41 : decode cX6_putOn 41 = .ok (.iaload, 1) := by decide +kernel
theorem dX6_putOn_42 : decode cX6_putOn 42 = .ok (.iastore, 1) := by decide +kernel
theorem dX6_putOn_43 : decode cX6_putOn 43 = .ok (.aload_n 0, 1) := by decide +kernel
theorem dX6_putOn_44 : decode cX6_putOn 44 = .ok (.getfield 25, 3) := by decide +kernel
theorem dX6_putOn_47 : decode cX6_putOn 47 = .ok (.iload 4, 2) := by decide +kernel
theorem dX6_putOn_49 : decode cX6_putOn 49 = .ok (.aload_n 0, 1) := by decide +kernel
theorem dX6_putOn_50 : decode cX6_putOn 50 = .ok (.getfield 25, 3) := by decide +kernel
theorem dX6_putOn_53 : decode cX6_putOn 53 = .ok (.iload 4, 2) := by decide +kernel
theorem dX6_putOn_55 : decode cX6_putOn 55 = .ok (.iconst 1, 1) := by decide +kernel
theorem dX6_putOn_56 : decode cX6_putOn 56 = .ok (.isub, 1) := by decide +kernel
theorem dX6_putOn_57 : decode cX6_putOn 57 = .ok (.iaload, 1) := by decide +kernel
theorem dX6_putOn_58 : decode cX6_putOn 58 = .ok (.iastore, 1) := by decide +kernel
theorem dX6_putOn_59 : decode cX6_putOn 59 = .ok (.iinc 4 (-1), 3) := by decide +kernel
theorem dX6_putOn_62 : decode cX6_putOn 62 = .ok (.goto (-56), 3) := by decide +kernel
theorem dX6_putOn_65 : decode cX6_putOn 65 = .ok (.aload_n 0, 1) := by decide +kernel
theorem dX6_putOn_66 : decode cX6_putOn 66 = .ok (.getfield 19, 3) := by decide +kernel
theorem dX6_putOn_69 : decode cX6_putOn 69 = .ok (.iconst 0, 1) := by decide +kernel
theorem dX6_putOn_70 : decode cX6_putOn 70 = .ok (.iload_n 1, 1) := by decide +kernel
theorem dX6_putOn_71 : decode cX6_putOn 71 = .ok (.iastore, 1) := by decide +kernel
theorem dX6_putOn_72 : decode cX6_putOn 72 = .ok (.aload_n 0, 1) := by decide +kernel
theorem dX6_putOn_73 : decode cX6_putOn 73 = .ok (.getfield 22, 3) := by decide +kernel
theorem dX6_putOn_76 : decode cX6_putOn 76 = .ok (.iconst 0, 1) := by decide +kernel
theorem dX6_putOn_77 : decode cX6_putOn 77 = .ok (.iload_n 2, 1) := by decide +kernel
theorem dX6_putOn_78 : decode cX6_putOn 78 = .ok (.iastore, 1) := by decide +kernel
theorem dX6_putOn_79 : decode cX6_putOn 79 = .ok (.aload_n 0, 1) := by decide +kernel
theorem dX6_putOn_80 : decode cX6_putOn 80 = .ok (.getfield 25, 3) := by decide +kernel
theorem dX6_putOn_83 : decode cX6_putOn 83 = .ok (.iconst 0, 1) := by decide +kernel
theorem dX6_putOn_84 : decode cX6_putOn 84 = .ok (.iload_n 3, 1) := by decide +kernel
theorem dX6_putOn_85 : decode cX6_putOn 85 = .ok (.iastore, 1) := by decide +kernel
theorem dX6_putOn_86 : decode cX6_putOn 86 = .ok (.aload_n 0, 1) := by decide +kernel
theorem dX6_putOn_87 : decode cX6_putOn 87 = .ok (.dup, 1) := by decide +kernel
theorem dX6_putOn_88 : decode cX6_putOn 88 = .ok (.getfield 56, 3) := by decide +kernel
theorem dX6_putOn_91 : decode cX6_putOn 91 = .ok (.iconst 1, 1) := by decide +kernel
theorem dX6_putOn_92 : decode cX6_putOn 92 = .ok (.iadd, 1) := by decide +kernel
theorem dX6_putOn_93 : decode cX6_putOn 93 = .ok (.putfield 56, 3) := by decide +kernel
theorem dX6_putOn_96 : decode cX6_putOn 96 = .ok (.return_, 1) := by decide +kernel
theorem dX6_takeOff_0 : decode cX6_takeOff 0 = .ok (.aload_n 0, 1) := by decide +kernel
theorem dX6_takeOff_1 : decode cX6_takeOff 1 = .ok (.getfield 25, 3) := by decide +kernel
theorem dX6_takeOff_4 : decode cX6_takeOff 4 = .ok (.iconst 0, 1) := by decide +kernel
theorem dX6_takeOff_5 : decode cX6_takeOff 5 = .ok (.iaload, 1) := by decide +kernel
theorem dX6_takeOff_6 : decode cX6_takeOff 6 = .ok (.istore_n 1, 1) := by decide +kernel
theorem dX6_takeOff_7 : decode cX6_takeOff 7 = .ok (.aload_n 0, 1) := by decide +kernel
theorem dX6_takeOff_8 : decode cX6_takeOff 8 = .ok (.dup, 1) := by decide +kernel
theorem dX6_takeOff_9 : decode cX6_takeOff 9 = .ok (.getfield 56, 3) := by decide +kernel
theorem dX6_takeOff_12 : decode cX6_takeOff 12 = .ok (.iconst 1, 1) := by decide +kernel
theorem dX6_takeOff_13 : decode cX6_takeOff 13 = .ok (.isub, 1) := by decide +kernel
theorem dX6_takeOff_14 : decode cX6_takeOff 14 = .ok (.putfield 56, 3) := by decide +kernel
theorem dX6_takeOff_17 : decode cX6_takeOff 17 = .ok (.iconst 0, 1) := by decide +kernel
theorem dX6_takeOff_18 : decode cX6_takeOff 18 = .ok (.istore_n 2, 1) := by decide +kernel
theorem dX6_takeOff_19 : decode cX6_takeOff 19 = .ok (.iload_n 2, 1) := by decide +kernel
theorem dX6_takeOff_20 : decode cX6_takeOff 20 = .ok (.aload_n 0, 1) := by decide +kernel
theorem dX6_takeOff_21 : decode cX6_takeOff 21 = .ok (.getfield 56, 3) := by decide +kernel
theorem dX6_takeOff_24 : decode cX6_takeOff 24 = .ok (.if_icmp .ge 51, 3) := by decide +kernel
theorem dX6_takeOff_27 : decode cX6_takeOff 27 = .ok (.aload_n 0, 1) := by decide +kernel
theorem dX6_takeOff_28 : decode cX6_takeOff 28 = .ok (.getfield 19, 3) := by decide +kernel
theorem dX6_takeOff_31 : decode cX6_takeOff 31 = .ok (.iload_n 2, 1) := by decide +kernel
theorem dX6_takeOff_32 : decode cX6_takeOff 32 = .ok (.aload_n 0, 1) := by decide +kernel
theorem dX6_takeOff_33 : decode cX6_takeOff 33 = .ok (.getfield 19, 3) := by decide +kernel
theorem dX6_takeOff_36 : decode cX6_takeOff 36 = .ok (.iload_n 2, 1) := by decide +kernel
theorem dX6_takeOff_37 : decode cX6_takeOff 37 = .ok (.iconst 1, 1) := by decide +kernel
theorem dX6_takeOff_38 : decode cX6_takeOff 38 = .ok (.iadd, 1) := by decide +kernel
theorem dX6_takeOff_39 : decode cX6_takeOff 39 = .ok (.iaload, 1) := by decide +kernel
theorem dX6_takeOff_40 : decode cX6_takeOff 40 = .ok (.iastore, 1) := by decide +kernel
theorem dX6_takeOff_41 : decode cX6_takeOff 41 = .ok (.aload_n 0, 1) := by decide +kernel
theorem dX6_takeOff_42 : decode cX6_takeOff 42 = .ok (.getfield 22, 3) := by decide +kernel
theorem dX6_takeOff_45 : decode cX6_takeOff 45 = .ok (.iload_n 2, 1) := by decide +kernel
theorem dX6_takeOff_46 : decode cX6_takeOff 46 = .ok (.aload_n 0, 1) := by decide +kernel
theorem dX6_takeOff_47 : decode cX6_takeOff 47 = .ok (.getfield 22, 3) := by decide +kernel
theorem dX6_takeOff_50 : decode cX6_takeOff 50 = .ok (.iload_n 2, 1) := by decide +kernel
theorem dX6_takeOff_51 : decode cX6_takeOff 51 = .ok (.iconst 1, 1) := by decide +kernel
theorem dX6_takeOff_52 : decode cX6_takeOff 52 = .ok (.iadd, 1) := by decide +kernel
theorem dX6_takeOff_53 : decode cX6_takeOff 53 = .ok (.iaload, 1) := by decide +kernel
theorem dX6_takeOff_54 : decode cX6_takeOff 54 = .ok (.iastore, 1) := by decide +kernel
theorem dX6_takeOff_55 : decode cX6_takeOff 55 = .ok (.aload_n 0, 1) := by decide +kernel
theorem dX6_takeOff_56 : decode cX6_takeOff 56 = .ok (.getfield 25, 3) := by decide +kernel
theorem dX6_takeOff_59 : decode cX6_takeOff 59 = .ok (.iload_n 2, 1) := by decide +kernel
theorem dX6_takeOff_60 : decode cX6_takeOff 60 = .ok (.aload_n 0, 1) := by decide +kernel
theorem dX6_takeOff_61 : decode cX6_takeOff 61 = .ok (.getfield 25, 3) := by decide +kernel
theorem dX6_takeOff_64 : decode cX6_takeOff 64 = .ok (.iload_n 2, 1) := by decide +kernel
theorem dX6_takeOff_65 : decode cX6_takeOff 65 = .ok (.iconst 1, 1) := by decide +kernel
theorem dX6_takeOff_66 : decode cX6_takeOff 66 = .ok (.iadd, 1) := by decide +kernel
theorem dX6_takeOff_67 : decode cX6_takeOff 67 = .ok (.iaload, 1) := by decide +kernel
theorem dX6_takeOff_68 : decode cX6_takeOff 68 = .ok (.iastore, 1) := by decide +kernel
theorem dX6_takeOff_69 : decode cX6_takeOff 69 = .ok (.iinc 2 1, 3) := by decide +kernel
theorem dX6_takeOff_72 : decode cX6_takeOff 72 = .ok (.goto (-53), 3) := by decide +kernel
theorem dX6_takeOff_75 : decode cX6_takeOff 75 = .ok (.iload_n 1, 1) := by decide +kernel
theorem dX6_takeOff_76 : decode cX6_takeOff 76 = .ok (.ireturn, 1) := by decide +kernel
set_option maxRecDepth 20000 in
theorem ggX6_mayPeel_X6_liftedNow : GoodIn wsX6_mayPeel wsX6_liftedNow := goodIn_r _ [6, 7, 8, 9, 10, 11, 5, 12, 1, 13, 14, 15, 16, 17, 18, 19, 20, 21, 22, 23, 24, 25, 26, 27, 28, 29, 30, 31, 32, 33, 34, 35, 36, 37, 38, 39, 40, 41, 42, 43, 44, 45, 46, 47, 48, 49, 50, 51, 52] (by decide +kernel) (by decide +kernel)
set_option maxRecDepth 20000 in
theorem gX6_mayPeel_X6_liftedNow : GoodIn wsX6_mayPeel (wsV RX6 134 RX6 yX6_liftedNow wsX6_liftedNow) := goodIn_app (goodIn_of _ (by decide +kernel)) ggX6_mayPeel_X6_liftedNow
set_option maxRecDepth 20000 in
theorem ggX6_mayPeel_X6_isOf : GoodIn wsX6_mayPeel wsX6_isOf := goodIn_r _ [20] (by decide +kernel) (by decide +kernel)
set_option maxRecDepth 20000 in
theorem gX6_mayPeel_X6_isOf : GoodIn wsX6_mayPeel (va_wsS RX6 111 yX6_isOf wsX6_isOf) := goodIn_app (goodIn_of _ (by decide +kernel)) ggX6_mayPeel_X6_isOf
theorem dX6_mayPeel_0 : decode cX6_mayPeel 0 = .ok (.aload_n 0, 1) := by decide +kernel
theorem dX6_mayPeel_1 : decode cX6_mayPeel 1 = .ok (.getfield 56, 3) := by decide +kernel
theorem dX6_mayPeel_4 : decode cX6_mayPeel 4 = .ok (.iconst 1, 1) := by decide +kernel
theorem dX6_mayPeel_5 : decode cX6_mayPeel 5 = .ok (.if_icmp .le 18, 3) := by decide +kernel
theorem dX6_mayPeel_8 : decode cX6_mayPeel 8 = .ok (.aload_n 0, 1) := by decide +kernel
theorem dX6_mayPeel_9 : decode cX6_mayPeel 9 = .ok (.invokevirtual 134, 3) := by decide +kernel
theorem dX6_mayPeel_12 : decode cX6_mayPeel 12 = .ok (.iconst 0, 1) := by decide +kernel
theorem dX6_mayPeel_13 : decode cX6_mayPeel 13 = .ok (.invokestatic 111, 3) := by decide +kernel
theorem dX6_mayPeel_16 : decode cX6_mayPeel 16 = .ok (.ifCond .eq 7, 3) := by decide +kernel
theorem dX6_mayPeel_19 : decode cX6_mayPeel 19 = .ok (.iconst 1, 1) := by decide +kernel
theorem dX6_mayPeel_20 : decode cX6_mayPeel 20 = .ok (.goto 4, 3) := by decide +kernel
theorem dX6_mayPeel_23 : decode cX6_mayPeel 23 = .ok (.iconst 0, 1) := by decide +kernel
theorem dX6_mayPeel_24 : decode cX6_mayPeel 24 = .ok (.ireturn, 1) := by decide +kernel
set_option maxRecDepth 20000 in
theorem ggX6_putUp_X6_within : GoodIn wsX6_putUp wsX6_within := goodIn_r _ [5] (by decide +kernel) (by decide +kernel)
set_option maxRecDepth 20000 in
theorem gX6_putUp_X6_within : GoodIn wsX6_putUp (va_wsS RX6 52 yX6_within wsX6_within) := goodIn_app (goodIn_of _ (by decide +kernel)) ggX6_putUp_X6_within
set_option maxRecDepth 20000 in
theorem ggX6_putUp_X6_isDigit : GoodIn wsX6_putUp wsX6_isDigit := goodIn_r _ [8, 2, 3, 4, 5] (by decide +kernel) (by decide +kernel)
set_option maxRecDepth 20000 in
theorem gX6_putUp_X6_isDigit : GoodIn wsX6_putUp (va_wsS RX6 141 yX6_isDigit wsX6_isDigit) := goodIn_app (goodIn_of _ (by decide +kernel)) ggX6_putUp_X6_isDigit
set_option maxRecDepth 20000 in
theorem ggX6_putUp_X6_putOn : GoodIn wsX6_putUp wsX6_putOn := goodIn_r _ [12, 1, 13, 14, 15, 16, 17, 18, 19, 20, 21, 22, 23, 24, 25, 26, 27, 28, 29, 30, 31, 32, 33, 34, 35, 36, 37, 38, 39, 40, 41] (by decide +kernel) (by decide +kernel)
set_option maxRecDepth 20000 in
theorem gX6_putUp_X6_putOn : GoodIn wsX6_putUp (wsV RX6 150 RX6 yX6_putOn wsX6_putOn) := goodIn_app (goodIn_of _ (by decide +kernel)) ggX6_putUp_X6_putOn
theorem dX6_putUp_0 : decode cX6_putUp 0 = .ok (.iload_n 1, 1) := by decide +kernel
theorem dX6_putUp_1 : decode cX6_putUp 1 = .ok (.iconst 0, 1) := by decide +kernel
theorem dX6_putUp_2 : decode cX6_putUp 2 = .ok (.iconst 2, 1) := by decide +kernel
theorem dX6_putUp_3 : decode cX6_putUp 3 = .ok (.invokestatic 52, 3) := by decide +kernel
theorem dX6_putUp_6 : decode cX6_putUp 6 = .ok (.ifCond .eq 17, 3) := by decide +kernel
theorem dX6_putUp_9 : decode cX6_putUp 9 = .ok (.iload_n 2, 1) := by decide +kernel
theorem dX6_putUp_10 : decode cX6_putUp 10 = .ok (.invokestatic 141, 3) := by decide +kernel
theorem dX6_putUp_13 : decode cX6_putUp 13 = .ok (.ifCond .eq 10, 3) := by decide +kernel
theorem dX6_putUp_16 : decode cX6_putUp 16 = .ok (.iload_n 3, 1) := by decide +kernel
theorem dX6_putUp_17 : decode cX6_putUp 17 = .ok (.invokestatic 141, 3) := by decide +kernel
theorem dX6_putUp_20 : decode cX6_putUp 20 = .ok (.ifCond .ne 6, 3) := by decide +kernel
theorem dX6_putUp_23 : decode cX6_putUp 23 = .ok (.bipush (-2), 2) := by decide +kernel
theorem dX6_putUp_25 : decode cX6_putUp 25 = .ok (.ireturn, 1) := by decide +kernel
theorem dX6_putUp_26 : decode cX6_putUp 26 = .ok (.aload_n 0, 1) := by decide +kernel
theorem dX6_putUp_27 : decode cX6_putUp 27 = .ok (.getfield 56, 3) := by decide +kernel
theorem dX6_putUp_30 : decode cX6_putUp 30 = .ok (.ifCond .ne 6, 3) := by decide +kernel
theorem dX6_putUp_33 : decode cX6_putUp 33 = .ok (.bipush (-3), 2) := by decide +kernel
theorem dX6_putUp_35 : decode cX6_putUp 35 = .ok (.ireturn, 1) := by decide +kernel
theorem dX6_putUp_36 : decode cX6_putUp 36 = .ok (.aload_n 0, 1) := by decide +kernel
theorem dX6_putUp_37 : decode cX6_putUp 37 = .ok (.getfield 56, 3) := by decide +kernel
theorem dX6_putUp_40 : decode cX6_putUp 40 = .ok (.bipush 6, 2) := by decide +kernel
theorem dX6_putUp_42 : decode cX6_putUp 42 = .ok (.if_icmp .ne 6, 3) := by decide +kernel
theorem dX6_putUp_45 : decode cX6_putUp 45 = .ok (.bipush (-4), 2) := by decide +kernel
theorem dX6_putUp_47 : decode cX6_putUp 47 = .ok (.ireturn, 1) := by decide +kernel
theorem dX6_putUp_48 : decode cX6_putUp 48 = .ok (.aload_n 0, 1) := by decide +kernel
theorem dX6_putUp_49 : decode cX6_putUp 49 = .ok (.iload_n 1, 1) := by decide +kernel
theorem dX6_putUp_50 : decode cX6_putUp 50 = .ok (.iload_n 2, 1) := by decide +kernel
theorem dX6_putUp_51 : decode cX6_putUp 51 = .ok (.iload_n 3, 1) := by decide +kernel
theorem dX6_putUp_52 : decode cX6_putUp 52 = .ok (.invokevirtual 150, 3) := by decide +kernel
theorem dX6_putUp_55 : decode cX6_putUp 55 = .ok (.aload_n 0, 1) := by decide +kernel
theorem dX6_putUp_56 : decode cX6_putUp 56 = .ok (.getfield 56, 3) := by decide +kernel
theorem dX6_putUp_59 : decode cX6_putUp 59 = .ok (.ireturn, 1) := by decide +kernel
set_option maxRecDepth 20000 in
theorem ggX6_peel_X6_mayPeel : GoodIn wsX6_peel wsX6_mayPeel := goodIn_r _ [6, 1, 7, 8, 9, 5, 10, 11, 12, 13, 14, 15, 16, 17, 18, 19, 20, 21, 22, 23, 24, 25, 26, 27, 28, 29, 30, 36, 37, 38, 39, 40, 41, 42, 43, 44, 45, 46, 47, 48, 49, 50, 51, 52, 53, 54, 55, 56, 57, 58, 59, 60, 61] (by decide +kernel) (by decide +kernel)
set_option maxRecDepth 20000 in
theorem gX6_peel_X6_mayPeel : GoodIn wsX6_peel (wsV RX6 154 RX6 yX6_mayPeel wsX6_mayPeel) := goodIn_app (goodIn_of _ (by decide +kernel)) ggX6_peel_X6_mayPeel
set_option maxRecDepth 20000 in
theorem ggX6_peel_X6_takeOff : GoodIn wsX6_peel wsX6_takeOff := goodIn_r _ [34, 35, 1, 29, 30, 36, 37, 38, 39, 40, 41, 42, 43, 44, 45, 46, 47, 48, 49, 50, 51, 52, 53, 54, 55, 56, 57, 58, 59, 60, 61] (by decide +kernel) (by decide +kernel)
set_option maxRecDepth 20000 in
theorem gX6_peel_X6_takeOff : GoodIn wsX6_peel (wsV RX6 158 RX6 yX6_takeOff wsX6_takeOff) := goodIn_app (goodIn_of _ (by decide +kernel)) ggX6_peel_X6_takeOff
theorem dX6_peel_0 : decode cX6_peel 0 = .ok (.aload_n 0, 1) := by decide +kernel
theorem dX6_peel_1 : decode cX6_peel 1 = .ok (.getfield 56, 3) := by decide +kernel
theorem dX6_peel_4 : decode cX6_peel 4 = .ok (.ifCond .le 17, 3) := by decide +kernel
theorem dX6_peel_7 : decode cX6_peel 7 = .ok (.aload_n 0, 1) := by decide +kernel
theorem dX6_peel_8 : decode cX6_peel 8 = .ok (.invokevirtual 154, 3) := by decide +kernel
theorem dX6_peel_11 : decode cX6_peel 11 = .ok (.ifCond .eq 10, 3) := by decide +kernel
theorem dX6_peel_14 : decode cX6_peel 14 = .ok (.aload_n 0, 1) := by decide +kernel
theorem dX6_peel_15 : decode cX6_peel 15 = .ok (.invokevirtual 158, 3) := by decide +kernel
theorem dX6_peel_18 : decode cX6_peel 18 = .ok (.goto 5, 3) := by decide +kernel
theorem dX6_peel_21 : decode cX6_peel 21 = .ok (.bipush (-3), 2) := by decide +kernel
theorem dX6_peel_23 : decode cX6_peel 23 = .ok (.ireturn, 1) := by decide +kernel
theorem dX6_keep_0 : decode cX6_keep 0 = .ok (.aload_n 0, 1) := by decide +kernel
theorem dX6_keep_1 : decode cX6_keep 1 = .ok (.aload_n 0, 1) := by decide +kernel
theorem dX6_keep_2 : decode cX6_keep 2 = .ok (.getfield 56, 3) := by decide +kernel
theorem dX6_keep_5 : decode cX6_keep 5 = .ok (.putfield 161, 3) := by decide +kernel
theorem dX6_keep_8 : decode cX6_keep 8 = .ok (.aload_n 0, 1) := by decide +kernel
theorem dX6_keep_9 : decode cX6_keep 9 = .ok (.aload_n 0, 1) := by decide +kernel
theorem dX6_keep_10 : decode cX6_keep 10 = .ok (.getfield 86, 3) := by decide +kernel
theorem dX6_keep_13 : decode cX6_keep 13 = .ok (.putfield 164, 3) := by decide +kernel
theorem dX6_keep_16 : decode cX6_keep 16 = .ok (.aload_n 0, 1) := by decide +kernel
theorem dX6_keep_17 : decode cX6_keep 17 = .ok (.aload_n 0, 1) := by decide +kernel
theorem dX6_keep_18 : decode cX6_keep 18 = .ok (.getfield 92, 3) := by decide +kernel
theorem dX6_keep_21 : decode cX6_keep 21 = .ok (.putfield 167, 3) := by decide +kernel
theorem dX6_keep_24 : decode cX6_keep 24 = .ok (.iconst 0, 1) := by decide +kernel
theorem dX6_keep_25 : decode cX6_keep 25 = .ok (.istore_n 1, 1) := by decide +kernel
theorem dX6_keep_26 : decode cX6_keep 26 = .ok (.iload_n 1, 1) := by decide +kernel
theorem dX6_keep_27 : decode cX6_keep 27 = .ok (.aload_n 0, 1) := by decide +kernel
theorem dX6_keep_28 : decode cX6_keep 28 = .ok (.getfield 56, 3) := by decide +kernel
theorem dX6_keep_31 : decode cX6_keep 31 = .ok (.if_icmp .ge 55, 3) := by decide +kernel
theorem dX6_keep_34 : decode cX6_keep 34 = .ok (.aload_n 0, 1) := by decide +kernel
theorem dX6_keep_35 : decode cX6_keep 35 = .ok (.getfield 34, 3) := by decide +kernel
theorem dX6_keep_38 : decode cX6_keep 38 = .ok (.iconst 3, 1) := by decide +kernel
theorem dX6_keep_39 : decode cX6_keep 39 = .ok (.iload_n 1, 1) := by decide +kernel
theorem dX6_keep_40 : decode cX6_keep 40 = .ok (.imul, 1) := by decide +kernel
theorem dX6_keep_41 : decode cX6_keep 41 = .ok (.aload_n 0, 1) := by decide +kernel
theorem dX6_keep_42 : decode cX6_keep 42 = .ok (.getfield 19, 3) := by decide +kernel
theorem dX6_keep_45 : decode cX6_keep 45 = .ok (.iload_n 1, 1) := by decide +kernel
theorem dX6_keep_46 : decode cX6_keep 46 = .ok (.iaload, 1) := by decide +kernel
theorem dX6_keep_47 : decode cX6_keep 47 = .ok (.iastore, 1) := by decide +kernel
theorem dX6_keep_48 : decode cX6_keep 48 = .ok (.aload_n 0, 1) := by decide +kernel
theorem dX6_keep_49 : decode cX6_keep 49 = .ok (.getfield 34, 3) := by decide +kernel
theorem dX6_keep_52 : decode cX6_keep 52 = .ok (.iconst 3, 1) := by decide +kernel
theorem dX6_keep_53 : decode cX6_keep 53 = .ok (.iload_n 1, 1) := by decide +kernel
theorem dX6_keep_54 : decode cX6_keep 54 = .ok (.imul, 1) := by decide +kernel
theorem dX6_keep_55 : decode cX6_keep 55 = .ok (.iconst 1, 1) := by decide +kernel
theorem dX6_keep_56 : decode cX6_keep 56 = .ok (.iadd, 1) := by decide +kernel
theorem dX6_keep_57 : decode cX6_keep 57 = .ok (.aload_n 0, 1) := by decide +kernel
theorem dX6_keep_58 : decode cX6_keep 58 = .ok (.getfield 22, 3) := by decide +kernel
theorem dX6_keep_61 : decode cX6_keep 61 = .ok (.iload_n 1, 1) := by decide +kernel
theorem dX6_keep_62 : decode cX6_keep 62 = .ok (.iaload, 1) := by decide +kernel
theorem dX6_keep_63 : decode cX6_keep 63 = .ok (.iastore, 1) := by decide +kernel
theorem dX6_keep_64 : decode cX6_keep 64 = .ok (.aload_n 0, 1) := by decide +kernel
theorem dX6_keep_65 : decode cX6_keep 65 = .ok (.getfield 34, 3) := by decide +kernel
theorem dX6_keep_68 : decode cX6_keep 68 = .ok (.iconst 3, 1) := by decide +kernel
theorem dX6_keep_69 : decode cX6_keep 69 = .ok (.iload_n 1, 1) := by decide +kernel
theorem dX6_keep_70 : decode cX6_keep 70 = .ok (.imul, 1) := by decide +kernel
theorem dX6_keep_71 : decode cX6_keep 71 = .ok (.iconst 2, 1) := by decide +kernel
theorem dX6_keep_72 : decode cX6_keep 72 = .ok (.iadd, 1) := by decide +kernel
theorem dX6_keep_73 : decode cX6_keep 73 = .ok (.aload_n 0, 1) := by decide +kernel
theorem dX6_keep_74 : decode cX6_keep 74 = .ok (.getfield 25, 3) := by decide +kernel
theorem dX6_keep_77 : decode cX6_keep 77 = .ok (.iload_n 1, 1) := by decide +kernel
theorem dX6_keep_78 : decode cX6_keep 78 = .ok (.iaload, 1) := by decide +kernel
theorem dX6_keep_79 : decode cX6_keep 79 = .ok (.iastore, 1) := by decide +kernel
theorem dX6_keep_80 : decode cX6_keep 80 = .ok (.iinc 1 1, 3) := by decide +kernel
theorem dX6_keep_83 : decode cX6_keep 83 = .ok (.goto (-57), 3) := by decide +kernel
theorem dX6_keep_86 : decode cX6_keep 86 = .ok (.return_, 1) := by decide +kernel
theorem dX6_putBack_0 : decode cX6_putBack 0 = .ok (.aload_n 0, 1) := by decide +kernel
theorem dX6_putBack_1 : decode cX6_putBack 1 = .ok (.aload_n 0, 1) := by decide +kernel
theorem dX6_putBack_2 : decode cX6_putBack 2 = .ok (.getfield 161, 3) := by decide +kernel
theorem dX6_putBack_5 : decode cX6_putBack 5 = .ok (.putfield 56, 3) := by decide +kernel
theorem dX6_putBack_8 : decode cX6_putBack 8 = .ok (.aload_n 0, 1) := by decide +kernel
theorem dX6_putBack_9 : decode cX6_putBack 9 = .ok (.aload_n 0, 1) := by decide +kernel
theorem dX6_putBack_10 : decode cX6_putBack 10 = .ok (.getfield 164, 3) := by decide +kernel
theorem dX6_putBack_13 : decode cX6_putBack 13 = .ok (.putfield 86, 3) := by decide +kernel
theorem dX6_putBack_16 : decode cX6_putBack 16 = .ok (.aload_n 0, 1) := by decide +kernel
theorem dX6_putBack_17 : decode cX6_putBack 17 = .ok (.aload_n 0, 1) := by decide +kernel
theorem dX6_putBack_18 : decode cX6_putBack 18 = .ok (.getfield 167, 3) := by decide +kernel
theorem dX6_putBack_21 : decode cX6_putBack 21 = .ok (.putfield 92, 3) := by decide +kernel
theorem dX6_putBack_24 : decode cX6_putBack 24 = .ok (.iconst 0, 1) := by decide +kernel
theorem dX6_putBack_25 : decode cX6_putBack 25 = .ok (.istore_n 1, 1) := by decide +kernel
theorem dX6_putBack_26 : decode cX6_putBack 26 = .ok (.iload_n 1, 1) := by decide +kernel
theorem dX6_putBack_27 : decode cX6_putBack 27 = .ok (.aload_n 0, 1) := by decide +kernel
theorem dX6_putBack_28 : decode cX6_putBack 28 = .ok (.getfield 56, 3) := by decide +kernel
theorem dX6_putBack_31 : decode cX6_putBack 31 = .ok (.if_icmp .ge 55, 3) := by decide +kernel
theorem dX6_putBack_34 : decode cX6_putBack 34 = .ok (.aload_n 0, 1) := by decide +kernel
theorem dX6_putBack_35 : decode cX6_putBack 35 = .ok (.getfield 19, 3) := by decide +kernel
theorem dX6_putBack_38 : decode cX6_putBack 38 = .ok (.iload_n 1, 1) := by decide +kernel
theorem dX6_putBack_39 : decode cX6_putBack 39 = .ok (.aload_n 0, 1) := by decide +kernel
theorem dX6_putBack_40 : decode cX6_putBack 40 = .ok (.getfield 34, 3) := by decide +kernel
theorem dX6_putBack_43 : decode cX6_putBack 43 = .ok (.iconst 3, 1) := by decide +kernel
theorem dX6_putBack_44 : decode cX6_putBack 44 = .ok (.iload_n 1, 1) := by decide +kernel
theorem dX6_putBack_45 : decode cX6_putBack 45 = .ok (.imul, 1) := by decide +kernel
theorem dX6_putBack_46 : decode cX6_putBack 46 = .ok (.iaload, 1) := by decide +kernel
theorem dX6_putBack_47 : decode cX6_putBack 47 = .ok (.iastore, 1) := by decide +kernel
theorem dX6_putBack_48 : decode cX6_putBack 48 = .ok (.aload_n 0, 1) := by decide +kernel
theorem dX6_putBack_49 : decode cX6_putBack 49 = .ok (.getfield 22, 3) := by decide +kernel
theorem dX6_putBack_52 : decode cX6_putBack 52 = .ok (.iload_n 1, 1) := by decide +kernel
theorem dX6_putBack_53 : decode cX6_putBack 53 = .ok (.aload_n 0, 1) := by decide +kernel
theorem dX6_putBack_54 : decode cX6_putBack 54 = .ok (.getfield 34, 3) := by decide +kernel
theorem dX6_putBack_57 : decode cX6_putBack 57 = .ok (.iconst 3, 1) := by decide +kernel
theorem dX6_putBack_58 : decode cX6_putBack 58 = .ok (.iload_n 1, 1) := by decide +kernel
theorem dX6_putBack_59 : decode cX6_putBack 59 = .ok (.imul, 1) := by decide +kernel
theorem dX6_putBack_60 : decode cX6_putBack 60 = .ok (.iconst 1, 1) := by decide +kernel
theorem dX6_putBack_61 : decode cX6_putBack 61 = .ok (.iadd, 1) := by decide +kernel
theorem dX6_putBack_62 : decode cX6_putBack 62 = .ok (.iaload, 1) := by decide +kernel
theorem dX6_putBack_63 : decode cX6_putBack 63 = .ok (.iastore, 1) := by decide +kernel
theorem dX6_putBack_64 : decode cX6_putBack 64 = .ok (.aload_n 0, 1) := by decide +kernel
theorem dX6_putBack_65 : decode cX6_putBack 65 = .ok (.getfield 25, 3) := by decide +kernel
theorem dX6_putBack_68 : decode cX6_putBack 68 = .ok (.iload_n 1, 1) := by decide +kernel
theorem dX6_putBack_69 : decode cX6_putBack 69 = .ok (.aload_n 0, 1) := by decide +kernel
theorem dX6_putBack_70 : decode cX6_putBack 70 = .ok (.getfield 34, 3) := by decide +kernel
theorem dX6_putBack_73 : decode cX6_putBack 73 = .ok (.iconst 3, 1) := by decide +kernel
theorem dX6_putBack_74 : decode cX6_putBack 74 = .ok (.iload_n 1, 1) := by decide +kernel
theorem dX6_putBack_75 : decode cX6_putBack 75 = .ok (.imul, 1) := by decide +kernel
theorem dX6_putBack_76 : decode cX6_putBack 76 = .ok (.iconst 2, 1) := by decide +kernel
theorem dX6_putBack_77 : decode cX6_putBack 77 = .ok (.iadd, 1) := by decide +kernel
theorem dX6_putBack_78 : decode cX6_putBack 78 = .ok (.iaload, 1) := by decide +kernel
theorem dX6_putBack_79 : decode cX6_putBack 79 = .ok (.iastore, 1) := by decide +kernel
theorem dX6_putBack_80 : decode cX6_putBack 80 = .ok (.iinc 1 1, 3) := by decide +kernel
theorem dX6_putBack_83 : decode cX6_putBack 83 = .ok (.goto (-57), 3) := by decide +kernel
theorem dX6_putBack_86 : decode cX6_putBack 86 = .ok (.return_, 1) := by decide +kernel
set_option maxRecDepth 20000 in
theorem ggX6_isPair_X6_within : GoodIn wsX6_isPair wsX6_within := goodIn_r _ [4] (by decide +kernel) (by decide +kernel)
set_option maxRecDepth 20000 in
theorem gX6_isPair_X6_within : GoodIn wsX6_isPair (va_wsS RX6 52 yX6_within wsX6_within) := goodIn_app (goodIn_of _ (by decide +kernel)) ggX6_isPair_X6_within
set_option maxRecDepth 20000 in
theorem ggX6_isPair_X6_isDigit : GoodIn wsX6_isPair wsX6_isDigit := goodIn_r _ [7, 1, 2, 3, 4] (by decide +kernel) (by decide +kernel)
set_option maxRecDepth 20000 in
theorem gX6_isPair_X6_isDigit : GoodIn wsX6_isPair (va_wsS RX6 141 yX6_isDigit wsX6_isDigit) := goodIn_app (goodIn_of _ (by decide +kernel)) ggX6_isPair_X6_isDigit
theorem dX6_isPair_0 : decode cX6_isPair 0 = .ok (.iload_n 0, 1) := by decide +kernel
theorem dX6_isPair_1 : decode cX6_isPair 1 = .ok (.tableswitch 54 0 3 #[31, 49, 39, 49], 31) := by decide +kernel
theorem dX6_isPair_32 : decode cX6_isPair 32 = .ok (.iload_n 1, 1) := by decide +kernel
theorem dX6_isPair_33 : decode cX6_isPair 33 = .ok (.iconst 0, 1) := by decide +kernel
theorem dX6_isPair_34 : decode cX6_isPair 34 = .ok (.bipush 20, 2) := by decide +kernel
theorem dX6_isPair_36 : decode cX6_isPair 36 = .ok (.invokestatic 52, 3) := by decide +kernel
theorem dX6_isPair_39 : decode cX6_isPair 39 = .ok (.ireturn, 1) := by decide +kernel
theorem dX6_isPair_40 : decode cX6_isPair 40 = .ok (.iload_n 1, 1) := by decide +kernel
theorem dX6_isPair_41 : decode cX6_isPair 41 = .ok (.ifCond .ne 7, 3) := by decide +kernel
theorem dX6_isPair_44 : decode cX6_isPair 44 = .ok (.iconst 1, 1) := by decide +kernel
theorem dX6_isPair_45 : decode cX6_isPair 45 = .ok (.goto 4, 3) := by decide +kernel
theorem dX6_isPair_48 : decode cX6_isPair 48 = .ok (.iconst 0, 1) := by decide +kernel
theorem dX6_isPair_49 : decode cX6_isPair 49 = .ok (.ireturn, 1) := by decide +kernel
theorem dX6_isPair_50 : decode cX6_isPair 50 = .ok (.iload_n 1, 1) := by decide +kernel
theorem dX6_isPair_51 : decode cX6_isPair 51 = .ok (.invokestatic 141, 3) := by decide +kernel
theorem dX6_isPair_54 : decode cX6_isPair 54 = .ok (.ireturn, 1) := by decide +kernel
theorem dX6_isPair_55 : decode cX6_isPair 55 = .ok (.iconst 0, 1) := by decide +kernel
theorem dX6_isPair_56 : decode cX6_isPair 56 = .ok (.ireturn, 1) := by decide +kernel
set_option maxRecDepth 20000 in
theorem ggX6_does_X6_mayPeel : GoodIn wsX6_does wsX6_mayPeel := goodIn_r _ [8, 3, 9, 10, 11, 7, 12, 1, 2, 13, 14, 15, 16, 17, 18, 19, 20, 21, 22, 23, 24, 25, 26, 27, 28, 29, 30, 40, 41, 42, 43, 44, 45, 46, 47, 48, 49, 50, 51, 52, 53, 54, 55, 56, 57, 58, 59, 60, 61, 62, 63, 64, 65] (by decide +kernel) (by decide +kernel)
set_option maxRecDepth 20000 in
theorem gX6_does_X6_mayPeel : GoodIn wsX6_does (wsV RX6 154 RX6 yX6_mayPeel wsX6_mayPeel) := goodIn_app (goodIn_of _ (by decide +kernel)) ggX6_does_X6_mayPeel
set_option maxRecDepth 20000 in
theorem ggX6_does_X6_takeOff : GoodIn wsX6_does wsX6_takeOff := goodIn_r _ [34, 35, 3, 29, 30, 40, 41, 42, 43, 44, 45, 46, 47, 48, 49, 50, 51, 52, 53, 54, 55, 56, 57, 58, 59, 60, 61, 62, 63, 64, 65] (by decide +kernel) (by decide +kernel)
set_option maxRecDepth 20000 in
theorem gX6_does_X6_takeOff : GoodIn wsX6_does (wsV RX6 158 RX6 yX6_takeOff wsX6_takeOff) := goodIn_app (goodIn_of _ (by decide +kernel)) ggX6_does_X6_takeOff
set_option maxRecDepth 20000 in
theorem ggX6_does_X6_putOn : GoodIn wsX6_does wsX6_putOn := goodIn_r _ [39, 3, 29, 30, 35, 40, 41, 42, 43, 44, 45, 46, 47, 48, 49, 50, 51, 52, 53, 54, 55, 56, 57, 58, 59, 60, 61, 62, 63, 64, 65] (by decide +kernel) (by decide +kernel)
set_option maxRecDepth 20000 in
theorem gX6_does_X6_putOn : GoodIn wsX6_does (wsV RX6 150 RX6 yX6_putOn wsX6_putOn) := goodIn_app (goodIn_of _ (by decide +kernel)) ggX6_does_X6_putOn
theorem dX6_does_0 : decode cX6_does 0 = .ok (.iload_n 1, 1) := by decide +kernel
theorem dX6_does_1 : decode cX6_does 1 = .ok (.ifCond .ne 8, 3) := by decide +kernel
theorem dX6_does_4 : decode cX6_does 4 = .ok (.aload_n 0, 1) := by decide +kernel
theorem dX6_does_5 : decode cX6_does 5 = .ok (.iload_n 2, 1) := by decide +kernel
theorem dX6_does_6 : decode cX6_does 6 = .ok (.putfield 86, 3) := by decide +kernel
theorem dX6_does_9 : decode cX6_does 9 = .ok (.iload_n 1, 1) := by decide +kernel
theorem dX6_does_10 : decode cX6_does 10 = .ok (.iconst 1, 1) := by decide +kernel
theorem dX6_does_11 : decode cX6_does 11 = .ok (.if_icmp .ne 8, 3) := by decide +kernel
theorem dX6_does_14 : decode cX6_does 14 = .ok (.aload_n 0, 1) := by decide +kernel
theorem dX6_does_15 : decode cX6_does 15 = .ok (.iload_n 2, 1) := by decide +kernel
theorem dX6_does_16 : decode cX6_does 16 = .ok (.putfield 92, 3) := by decide +kernel
theorem dX6_does_19 : decode cX6_does 19 = .ok (.iload_n 1, 1) := by decide +kernel
theorem dX6_does_20 : decode cX6_does 20 = .ok (.iconst 2, 1) := by decide +kernel
theorem dX6_does_21 : decode cX6_does 21 = .ok (.if_icmp .ne 10, 3) := by decide +kernel
theorem dX6_does_24 : decode cX6_does 24 = .ok (.aload_n 0, 1) := by decide +kernel
theorem dX6_does_25 : decode cX6_does 25 = .ok (.invokevirtual 154, 3) := by decide +kernel
theorem dX6_does_28 : decode cX6_does 28 = .ok (.ifCond .eq 17, 3) := by decide +kernel
theorem dX6_does_31 : decode cX6_does 31 = .ok (.iload_n 1, 1) := by decide +kernel
theorem dX6_does_32 : decode cX6_does 32 = .ok (.iconst 3, 1) := by decide +kernel
theorem dX6_does_33 : decode cX6_does 33 = .ok (.if_icmp .ne 14, 3) := by decide +kernel
theorem dX6_does_36 : decode cX6_does 36 = .ok (.aload_n 0, 1) := by decide +kernel
theorem dX6_does_37 : decode cX6_does 37 = .ok (.getfield 56, 3) := by decide +kernel
theorem dX6_does_40 : decode cX6_does 40 = .ok (.bipush 6, 2) := by decide +kernel
theorem dX6_does_42 : decode cX6_does 42 = .ok (.if_icmp .ne 5, 3) := by decide +kernel
theorem dX6_does_45 : decode cX6_does 45 = .ok (.iconst 0, 1) := by decide +kernel
theorem dX6_does_46 : decode cX6_does 46 = .ok (.ireturn, 1) := by decide +kernel
theorem dX6_does_47 : decode cX6_does 47 = .ok (.iload_n 1, 1) := by decide +kernel
theorem dX6_does_48 : decode cX6_does 48 = .ok (.iconst 2, 1) := by decide +kernel
theorem dX6_does_49 : decode cX6_does 49 = .ok (.if_icmp .ne 8, 3) := by decide +kernel
theorem dX6_does_52 : decode cX6_does 52 = .ok (.aload_n 0, 1) := by decide +kernel
theorem dX6_does_53 : decode cX6_does 53 = .ok (.invokevirtual 158, 3) := by decide +kernel
theorem dX6_does_56 : decode cX6_does 56 = .ok (.pop, 1) := by decide +kernel
theorem dX6_does_57 : decode cX6_does 57 = .ok (.iload_n 1, 1) := by decide +kernel
theorem dX6_does_58 : decode cX6_does 58 = .ok (.iconst 3, 1) := by decide +kernel
theorem dX6_does_59 : decode cX6_does 59 = .ok (.if_icmp .ne 10, 3) := by decide +kernel
theorem dX6_does_62 : decode cX6_does 62 = .ok (.aload_n 0, 1) := by decide +kernel
theorem dX6_does_63 : decode cX6_does 63 = .ok (.iconst 0, 1) := by decide +kernel
theorem dX6_does_64 : decode cX6_does 64 = .ok (.iload_n 2, 1) := by decide +kernel
theorem dX6_does_65 : decode cX6_does 65 = .ok (.iload_n 2, 1) := by decide +kernel
theorem dX6_does_66 : decode cX6_does 66 = .ok (.invokevirtual 150, 3) := by decide +kernel
theorem dX6_does_69 : decode cX6_does 69 = .ok (.iconst 1, 1) := by decide +kernel
theorem dX6_does_70 : decode cX6_does 70 = .ok (.ireturn, 1) := by decide +kernel
set_option maxRecDepth 20000 in
theorem ggX6_goDays_X6_does : GoodIn wsX6_goDays wsX6_does := goodIn_r _ [7, 8, 9, 10, 11, 12, 13, 6, 14, 15, 16, 17, 18, 19, 20, 21, 22, 23, 24, 25, 26, 27, 28, 29, 30, 31, 32, 33, 34, 35, 36, 37, 38, 39, 40, 41, 42, 43, 44, 45, 54, 55, 56, 57, 58, 59, 60, 61, 62, 63, 64, 65, 66, 67, 68, 69, 70, 71, 72, 73, 74, 75, 76, 77, 78, 79] (by decide +kernel) (by decide +kernel)
set_option maxRecDepth 20000 in
theorem gX6_goDays_X6_does : GoodIn wsX6_goDays (wsV RX6 173 RX6 yX6_does wsX6_does) := goodIn_app (goodIn_of _ (by decide +kernel)) ggX6_goDays_X6_does
set_option maxRecDepth 20000 in
theorem ggX6_goDays_X6_heardNow : GoodIn wsX6_goDays wsX6_heardNow := goodIn_r _ [49, 8, 9, 19, 20, 21, 6, 22, 10, 23, 50, 51, 52, 53, 35, 24, 25, 26, 27, 28, 29, 30, 31, 32, 33, 34, 36, 54, 55, 56, 57, 58, 59, 60, 61, 62, 63, 64, 65, 66, 67, 68, 69, 70, 71, 72, 73, 74, 75, 76, 77, 78, 79] (by decide +kernel) (by decide +kernel)
set_option maxRecDepth 20000 in
theorem gX6_goDays_X6_heardNow : GoodIn wsX6_goDays (wsV RX6 138 RX6 yX6_heardNow wsX6_heardNow) := goodIn_app (goodIn_of _ (by decide +kernel)) ggX6_goDays_X6_heardNow
theorem dX6_goDays_0 : decode cX6_goDays 0 = .ok (.aload_n 0, 1) := by decide +kernel
theorem dX6_goDays_1 : decode cX6_goDays 1 = .ok (.iconst 0, 1) := by decide +kernel
theorem dX6_goDays_2 : decode cX6_goDays 2 = .ok (.putfield 170, 3) := by decide +kernel
theorem dX6_goDays_5 : decode cX6_goDays 5 = .ok (.iconst 0, 1) := by decide +kernel
theorem dX6_goDays_6 : decode cX6_goDays 6 = .ok (.istore_n 3, 1) := by decide +kernel
theorem dX6_goDays_7 : decode cX6_goDays 7 = .ok (.iload_n 3, 1) := by decide +kernel
theorem dX6_goDays_8 : decode cX6_goDays 8 = .ok (.iload_n 2, 1) := by decide +kernel
theorem dX6_goDays_9 : decode cX6_goDays 9 = .ok (.if_icmp .ge 61, 3) := by decide +kernel
theorem dX6_goDays_12 : decode cX6_goDays 12 = .ok (.aload_n 0, 1) := by decide +kernel
theorem dX6_goDays_13 : decode cX6_goDays 13 = .ok (.aload_n 0, 1) := by decide +kernel
theorem dX6_goDays_14 : decode cX6_goDays 14 = .ok (.getfield 16, 3) := by decide +kernel
theorem dX6_goDays_17 : decode cX6_goDays 17 = .ok (.iload_n 1, 1) := by decide +kernel
theorem dX6_goDays_18 : decode cX6_goDays 18 = .ok (.iconst 2, 1) := by decide +kernel
theorem dX6_goDays_19 : decode cX6_goDays 19 = .ok (.iload_n 3, 1) := by decide +kernel
theorem dX6_goDays_20 : decode cX6_goDays 20 = .ok (.imul, 1) := by decide +kernel
theorem dX6_goDays_21 : decode cX6_goDays 21 = .ok (.iadd, 1) := by decide +kernel
theorem dX6_goDays_22 : decode cX6_goDays 22 = .ok (.iaload, 1) := by decide +kernel
theorem dX6_goDays_23 : decode cX6_goDays 23 = .ok (.aload_n 0, 1) := by decide +kernel
theorem dX6_goDays_24 : decode cX6_goDays 24 = .ok (.getfield 16, 3) := by decide +kernel
theorem dX6_goDays_27 : decode cX6_goDays 27 = .ok (.iload_n 1, 1) := by decide +kernel
theorem dX6_goDays_28 : decode cX6_goDays 28 = .ok (.iconst 2, 1) := by decide +kernel
theorem dX6_goDays_29 : decode cX6_goDays 29 = .ok (.iload_n 3, 1) := by decide +kernel
theorem dX6_goDays_30 : decode cX6_goDays 30 = .ok (.imul, 1) := by decide +kernel
theorem dX6_goDays_31 : decode cX6_goDays 31 = .ok (.iadd, 1) := by decide +kernel
theorem dX6_goDays_32 : decode cX6_goDays 32 = .ok (.iconst 1, 1) := by decide +kernel
theorem dX6_goDays_33 : decode cX6_goDays 33 = .ok (.iadd, 1) := by decide +kernel
theorem dX6_goDays_34 : decode cX6_goDays 34 = .ok (.iaload, 1) := by decide +kernel
theorem dX6_goDays_35 : decode cX6_goDays 35 = .ok (.invokevirtual 173, 3) := by decide +kernel
theorem dX6_goDays_38 : decode cX6_goDays 38 = .ok (.ifCond .ne 5, 3) := by decide +kernel
theorem dX6_goDays_41 : decode cX6_goDays 41 = .ok (.iload_n 3, 1) := by decide +kernel
theorem dX6_goDays_42 : decode cX6_goDays 42 = .ok (.ireturn, 1) := by decide +kernel
theorem dX6_goDays_43 : decode cX6_goDays 43 = .ok (.aload_n 0, 1) := by decide +kernel
theorem dX6_goDays_44 : decode cX6_goDays 44 = .ok (.dup, 1) := by decide +kernel
theorem dX6_goDays_45 : decode cX6_goDays 45 = .ok (.getfield 170, 3) := by decide +kernel
theorem dX6_goDays_48 : decode cX6_goDays 48 = .ok (.aload_n 0, 1) := by decide +kernel
theorem dX6_goDays_49 : decode cX6_goDays 49 = .ok (.invokevirtual 138, 3) := by decide +kernel
theorem dX6_goDays_52 : decode cX6_goDays 52 = .ok (.ifCond .ne 7, 3) := by decide +kernel
theorem dX6_goDays_55 : decode cX6_goDays 55 = .ok (.iconst 0, 1) := by decide +kernel
theorem dX6_goDays_56 : decode cX6_goDays 56 = .ok (.goto 4, 3) := by decide +kernel
theorem dX6_goDays_59 : decode cX6_goDays 59 = .ok (.iconst 1, 1) := by decide +kernel
theorem dX6_goDays_60 : decode cX6_goDays 60 = .ok (.iadd, 1) := by decide +kernel
theorem dX6_goDays_61 : decode cX6_goDays 61 = .ok (.putfield 170, 3) := by decide +kernel
theorem dX6_goDays_64 : decode cX6_goDays 64 = .ok (.iinc 3 1, 3) := by decide +kernel
theorem dX6_goDays_67 : decode cX6_goDays 67 = .ok (.goto (-60), 3) := by decide +kernel
theorem dX6_goDays_70 : decode cX6_goDays 70 = .ok (.bipush (-9), 2) := by decide +kernel
theorem dX6_goDays_72 : decode cX6_goDays 72 = .ok (.ireturn, 1) := by decide +kernel
set_option maxRecDepth 20000 in
theorem ggX6_days_X6_isSheet : GoodIn wsX6_days wsX6_isSheet := goodIn_r _ [7, 8, 9, 6, 10] (by decide +kernel) (by decide +kernel)
set_option maxRecDepth 20000 in
theorem gX6_days_X6_isSheet : GoodIn wsX6_days (va_wsS RX6 62 yX6_isSheet wsX6_isSheet) := goodIn_app (goodIn_of _ (by decide +kernel)) ggX6_days_X6_isSheet
set_option maxRecDepth 20000 in
theorem ggX6_days_X6_isSort : GoodIn wsX6_days wsX6_isSort := goodIn_r _ [13, 8, 9, 6, 10] (by decide +kernel) (by decide +kernel)
set_option maxRecDepth 20000 in
theorem gX6_days_X6_isSort : GoodIn wsX6_days (va_wsS RX6 66 yX6_isSort wsX6_isSort) := goodIn_app (goodIn_of _ (by decide +kernel)) ggX6_days_X6_isSort
set_option maxRecDepth 20000 in
theorem ggX6_days_X6_within : GoodIn wsX6_days wsX6_within := goodIn_r _ [10] (by decide +kernel) (by decide +kernel)
set_option maxRecDepth 20000 in
theorem gX6_days_X6_within : GoodIn wsX6_days (va_wsS RX6 52 yX6_within wsX6_within) := goodIn_app (goodIn_of _ (by decide +kernel)) ggX6_days_X6_within
set_option maxRecDepth 20000 in
theorem ggX6_days_X6_against : GoodIn wsX6_days wsX6_against := goodIn_r _ [17, 18, 19, 108, 109, 110, 111, 112, 113, 114, 115, 116, 117, 118, 119, 120, 121, 122, 123, 124, 125, 126, 127, 128, 129, 130, 131, 132, 133] (by decide +kernel) (by decide +kernel)
set_option maxRecDepth 20000 in
theorem gX6_days_X6_against : GoodIn wsX6_days (wsV RX6 69 RX6 yX6_against wsX6_against) := goodIn_app (goodIn_of _ (by decide +kernel)) ggX6_days_X6_against
set_option maxRecDepth 20000 in
theorem ggX6_days_X6_fails : GoodIn wsX6_days wsX6_fails := goodIn_r _ [23, 1, 108, 109, 110, 111, 112, 113, 114, 115, 116, 117, 118, 119, 120, 121, 122, 123, 124, 125, 126, 127, 128, 129, 130, 131, 132, 133] (by decide +kernel) (by decide +kernel)
set_option maxRecDepth 20000 in
theorem gX6_days_X6_fails : GoodIn wsX6_days (wsV RX6 73 RX6 yX6_fails wsX6_fails) := goodIn_app (goodIn_of _ (by decide +kernel)) ggX6_days_X6_fails
set_option maxRecDepth 20000 in
theorem ggX6_days_X6_isPair : GoodIn wsX6_days wsX6_isPair := goodIn_r _ [26, 8, 9, 6, 10, 27, 28, 29] (by decide +kernel) (by decide +kernel)
set_option maxRecDepth 20000 in
theorem gX6_days_X6_isPair : GoodIn wsX6_days (va_wsS RX6 176 yX6_isPair wsX6_isPair) := goodIn_app (goodIn_of _ (by decide +kernel)) ggX6_days_X6_isPair
set_option maxRecDepth 20000 in
theorem ggX6_days_X6_keep : GoodIn wsX6_days wsX6_keep := goodIn_r _ [33, 2, 34, 35, 36, 37, 38, 39, 40, 41, 42, 108, 109, 110, 111, 112, 113, 114, 115, 116, 117, 118, 119, 120, 121, 122, 123, 124, 125, 126, 127, 128, 129, 130, 131, 132, 133] (by decide +kernel) (by decide +kernel)
set_option maxRecDepth 20000 in
theorem gX6_days_X6_keep : GoodIn wsX6_days (wsV RX6 179 RX6 yX6_keep wsX6_keep) := goodIn_app (goodIn_of _ (by decide +kernel)) ggX6_days_X6_keep
set_option maxRecDepth 20000 in
theorem ggX6_days_X6_goDays : GoodIn wsX6_days wsX6_goDays := goodIn_r _ [46, 47, 3, 48, 49, 50, 6, 51, 35, 37, 2, 52, 53, 54, 55, 56, 57, 58, 59, 60, 61, 62, 63, 64, 65, 66, 67, 68, 69, 70, 71, 72, 73, 74, 75, 40, 41, 76, 77, 78, 79, 42, 80, 81, 82, 83, 84, 85, 86, 87, 88, 89, 90, 91, 108, 109, 110, 111, 112, 113, 114, 115, 116, 117, 118, 119, 120, 121, 122, 123, 124, 125, 126, 127, 128, 129, 130, 131, 132, 133] (by decide +kernel) (by decide +kernel)
set_option maxRecDepth 20000 in
theorem gX6_days_X6_goDays : GoodIn wsX6_days (wsV RX6 182 RX6 yX6_goDays wsX6_goDays) := goodIn_app (goodIn_of _ (by decide +kernel)) ggX6_days_X6_goDays
set_option maxRecDepth 20000 in
theorem ggX6_days_X6_tellDays : GoodIn wsX6_days wsX6_tellDays := goodIn_r _ [95, 35, 37, 2, 47, 60, 61, 62, 6, 63, 64, 96, 97, 98, 99, 42, 88, 89, 90, 91, 40, 65, 66, 67, 68, 69, 70, 71, 72, 73, 74, 75, 41, 100, 101, 102, 103, 84, 85, 86, 87, 108, 109, 110, 111, 112, 113, 114, 115, 116, 117, 118, 119, 120, 121, 122, 123, 124, 125, 126, 127, 128, 129, 130, 131, 132, 133] (by decide +kernel) (by decide +kernel)
set_option maxRecDepth 20000 in
theorem gX6_days_X6_tellDays : GoodIn wsX6_days (wsV RX6 185 RX6 yX6_tellDays wsX6_tellDays) := goodIn_app (goodIn_of _ (by decide +kernel)) ggX6_days_X6_tellDays
set_option maxRecDepth 20000 in
theorem ggX6_days_X6_putBack : GoodIn wsX6_days wsX6_putBack := goodIn_r _ [107, 34, 2, 36, 35, 38, 37, 40, 39, 41, 42, 108, 109, 110, 111, 112, 113, 114, 115, 116, 117, 118, 119, 120, 121, 122, 123, 124, 125, 126, 127, 128, 129, 130, 131, 132, 133] (by decide +kernel) (by decide +kernel)
set_option maxRecDepth 20000 in
theorem gX6_days_X6_putBack : GoodIn wsX6_days (wsV RX6 188 RX6 yX6_putBack wsX6_putBack) := goodIn_app (goodIn_of _ (by decide +kernel)) ggX6_days_X6_putBack
end
section
theorem dX6_days_0 : decode cX6_days 0 = .ok (.aload_n 0, 1) := by decide +kernel
theorem dX6_days_1 : decode cX6_days 1 = .ok (.iconst 0, 1) := by decide +kernel
theorem dX6_days_2 : decode cX6_days 2 = .ok (.putfield 46, 3) := by decide +kernel
theorem dX6_days_5 : decode cX6_days 5 = .ok (.iload_n 1, 1) := by decide +kernel
theorem dX6_days_6 : decode cX6_days 6 = .ok (.invokestatic 62, 3) := by decide +kernel
theorem dX6_days_9 : decode cX6_days 9 = .ok (.ifCond .ne 5, 3) := by decide +kernel
theorem dX6_days_12 : decode cX6_days 12 = .ok (.iconst (-1), 1) := by decide +kernel
theorem dX6_days_13 : decode cX6_days 13 = .ok (.ireturn, 1) := by decide +kernel
theorem dX6_days_14 : decode cX6_days 14 = .ok (.iload_n 2, 1) := by decide +kernel
theorem dX6_days_15 : decode cX6_days 15 = .ok (.invokestatic 66, 3) := by decide +kernel
theorem dX6_days_18 : decode cX6_days 18 = .ok (.ifCond .eq 24, 3) := by decide +kernel
theorem dX6_days_21 : decode cX6_days 21 = .ok (.iload 4, 2) := by decide +kernel
theorem dX6_days_23 : decode cX6_days 23 = .ok (.iconst 0, 1) := by decide +kernel
theorem dX6_days_24 : decode cX6_days 24 = .ok (.bipush 20, 2) := by decide +kernel
theorem dX6_days_26 : decode cX6_days 26 = .ok (.invokestatic 52, 3) := by decide +kernel
theorem dX6_days_29 : decode cX6_days 29 = .ok (.ifCond .eq 13, 3) := by decide +kernel
theorem dX6_days_32 : decode cX6_days 32 = .ok (.iload 5, 2) := by decide +kernel
theorem dX6_days_34 : decode cX6_days 34 = .ok (.iconst 0, 1) := by decide +kernel
theorem dX6_days_35 : decode cX6_days 35 = .ok (.iconst 4, 1) := by decide +kernel
theorem dX6_days_36 : decode cX6_days 36 = .ok (.invokestatic 52, 3) := by decide +kernel
theorem dX6_days_39 : decode cX6_days 39 = .ok (.ifCond .ne 6, 3) := by decide +kernel
theorem dX6_days_42 : decode cX6_days 42 = .ok (.bipush (-2), 2) := by decide +kernel
theorem dX6_days_44 : decode cX6_days 44 = .ok (.ireturn, 1) := by decide +kernel
theorem dX6_days_45 : decode cX6_days 45 = .ok (.aload_n 0, 1) := by decide +kernel
theorem dX6_days_46 : decode cX6_days 46 = .ok (.iload_n 1, 1) := by decide +kernel
theorem dX6_days_47 : decode cX6_days 47 = .ok (.iload_n 2, 1) := by decide +kernel
theorem dX6_days_48 : decode cX6_days 48 = .ok (.iload_n 3, 1) := by decide +kernel
theorem dX6_days_49 : decode cX6_days 49 = .ok (.iconst 2, 1) := by decide +kernel
theorem dX6_days_50 : decode cX6_days 50 = .ok (.iload 4, 2) := by decide +kernel
theorem dX6_days_52 : decode cX6_days 52 = .ok (.imul, 1) := by decide +kernel
theorem dX6_days_53 : decode cX6_days 53 = .ok (.invokevirtual 69, 3) := by decide +kernel
theorem dX6_days_56 : decode cX6_days 56 = .ok (.istore 6, 2) := by decide +kernel
theorem dX6_days_58 : decode cX6_days 58 = .ok (.iload 6, 2) := by decide +kernel
theorem dX6_days_60 : decode cX6_days 60 = .ok (.ifCond .eq 10, 3) := by decide +kernel
theorem dX6_days_63 : decode cX6_days 63 = .ok (.aload_n 0, 1) := by decide +kernel
theorem dX6_days_64 : decode cX6_days 64 = .ok (.iload 6, 2) := by decide +kernel
theorem dX6_days_66 : decode cX6_days 66 = .ok (.invokevirtual 73, 3) := by decide +kernel
theorem dX6_days_69 : decode cX6_days 69 = .ok (.ireturn, 1) := by decide +kernel
theorem dX6_days_70 : decode cX6_days 70 = .ok (.aload_n 0, 1) := by decide +kernel
theorem dX6_days_71 : decode cX6_days 71 = .ok (.getfield 56, 3) := by decide +kernel
theorem dX6_days_74 : decode cX6_days 74 = .ok (.ifCond .ne 6, 3) := by decide +kernel
theorem dX6_days_77 : decode cX6_days 77 = .ok (.bipush (-3), 2) := by decide +kernel
theorem dX6_days_79 : decode cX6_days 79 = .ok (.ireturn, 1) := by decide +kernel
theorem dX6_days_80 : decode cX6_days 80 = .ok (.bipush 60, 2) := by decide +kernel
theorem dX6_days_82 : decode cX6_days 82 = .ok (.iload_n 1, 1) := by decide +kernel
theorem dX6_days_83 : decode cX6_days 83 = .ok (.imul, 1) := by decide +kernel
theorem dX6_days_84 : decode cX6_days 84 = .ok (.iload_n 3, 1) := by decide +kernel
theorem dX6_days_85 : decode cX6_days 85 = .ok (.iadd, 1) := by decide +kernel
theorem dX6_days_86 : decode cX6_days 86 = .ok (.istore 7, 2) := by decide +kernel
theorem dX6_days_88 : decode cX6_days 88 = .ok (.iconst 0, 1) := by decide +kernel
theorem dX6_days_89 : decode cX6_days 89 = .ok (.istore 8, 2) := by decide +kernel
theorem dX6_days_91 : decode cX6_days 91 = .ok (.iload 8, 2) := by decide +kernel
theorem dX6_days_93 : decode cX6_days 93 = .ok (.iload 4, 2) := by decide +kernel
theorem dX6_days_95 : decode cX6_days 95 = .ok (.if_icmp .ge 44, 3) := by decide +kernel
theorem dX6_days_98 : decode cX6_days 98 = .ok (.aload_n 0, 1) := by decide +kernel
theorem dX6_days_99 : decode cX6_days 99 = .ok (.getfield 16, 3) := by decide +kernel
theorem dX6_days_102 : decode cX6_days 102 = .ok (.iload 7, 2) := by decide +kernel
theorem dX6_days_104 : decode cX6_days 104 = .ok (.iconst 2, 1) := by decide +kernel
theorem dX6_days_105 : decode cX6_days 105 = .ok (.iload 8, 2) := by decide +kernel
theorem dX6_days_107 : decode cX6_days 107 = .ok (.imul, 1) := by decide +kernel
theorem dX6_days_108 : decode cX6_days 108 = .ok (.iadd, 1) := by decide +kernel
theorem dX6_days_109 : decode cX6_days 109 = .ok (.iaload, 1) := by decide +kernel
theorem dX6_days_110 : decode cX6_days 110 = .ok (.aload_n 0, 1) := by decide +kernel
theorem dX6_days_111 : decode cX6_days 111 = .ok (.getfield 16, 3) := by decide +kernel
theorem dX6_days_114 : decode cX6_days 114 = .ok (.iload 7, 2) := by decide +kernel
theorem dX6_days_116 : decode cX6_days 116 = .ok (.iconst 2, 1) := by decide +kernel
theorem dX6_days_117 : decode cX6_days 117 = .ok (.iload 8, 2) := by decide +kernel
theorem dX6_days_119 : decode cX6_days 119 = .ok (.imul, 1) := by decide +kernel
theorem dX6_days_120 : decode cX6_days 120 = .ok (.iadd, 1) := by decide +kernel
theorem dX6_days_121 : decode cX6_days 121 = .ok (.iconst 1, 1) := by decide +kernel
theorem dX6_days_122 : decode cX6_days 122 = .ok (.iadd, 1) := by decide +kernel
theorem dX6_days_123 : decode cX6_days 123 = .ok (.iaload, 1) := by decide +kernel
theorem dX6_days_124 : decode cX6_days 124 = .ok (.invokestatic 176, 3) := by decide +kernel
theorem dX6_days_127 : decode cX6_days 127 = .ok (.ifCond .ne 6, 3) := by decide +kernel
theorem dX6_days_130 : decode cX6_days 130 = .ok (.bipush (-2), 2) := by decide +kernel
theorem dX6_days_132 : decode cX6_days 132 = .ok (.ireturn, 1) := by decide +kernel
theorem dX6_days_133 : decode cX6_days 133 = .ok (.iinc 8 1, 3) := by decide +kernel
theorem dX6_days_136 : decode cX6_days 136 = .ok (.goto (-45), 3) := by decide +kernel
theorem dX6_days_139 : decode cX6_days 139 = .ok (.aload_n 0, 1) := by decide +kernel
theorem dX6_days_140 : decode cX6_days 140 = .ok (.invokevirtual 179, 3) := by decide +kernel
theorem dX6_days_143 : decode cX6_days 143 = .ok (.aload_n 0, 1) := by decide +kernel
theorem dX6_days_144 : decode cX6_days 144 = .ok (.iload 7, 2) := by decide +kernel
theorem dX6_days_146 : decode cX6_days 146 = .ok (.iload 4, 2) := by decide +kernel
theorem dX6_days_148 : decode cX6_days 148 = .ok (.invokevirtual 182, 3) := by decide +kernel
theorem dX6_days_151 : decode cX6_days 151 = .ok (.istore 8, 2) := by decide +kernel
theorem dX6_days_153 : decode cX6_days 153 = .ok (.aload_n 0, 1) := by decide +kernel
theorem dX6_days_154 : decode cX6_days 154 = .ok (.iload 5, 2) := by decide +kernel
theorem dX6_days_156 : decode cX6_days 156 = .ok (.invokevirtual 185, 3) := by decide +kernel
theorem dX6_days_159 : decode cX6_days 159 = .ok (.istore 9, 2) := by decide +kernel
theorem dX6_days_161 : decode cX6_days 161 = .ok (.aload_n 0, 1) := by decide +kernel
theorem dX6_days_162 : decode cX6_days 162 = .ok (.invokevirtual 188, 3) := by decide +kernel
theorem dX6_days_165 : decode cX6_days 165 = .ok (.iload 5, 2) := by decide +kernel
theorem dX6_days_167 : decode cX6_days 167 = .ok (.iconst 1, 1) := by decide +kernel
theorem dX6_days_168 : decode cX6_days 168 = .ok (.if_icmp .ne 8, 3) := by decide +kernel
theorem dX6_days_171 : decode cX6_days 171 = .ok (.iload 8, 2) := by decide +kernel
theorem dX6_days_173 : decode cX6_days 173 = .ok (.goto 20, 3) := by decide +kernel
theorem dX6_days_176 : decode cX6_days 176 = .ok (.iload 8, 2) := by decide +kernel
theorem dX6_days_178 : decode cX6_days 178 = .ok (.bipush (-9), 2) := by decide +kernel
theorem dX6_days_180 : decode cX6_days 180 = .ok (.if_icmp .ne 8, 3) := by decide +kernel
theorem dX6_days_183 : decode cX6_days 183 = .ok (.iload 9, 2) := by decide +kernel
theorem dX6_days_185 : decode cX6_days 185 = .ok (.goto 8, 3) := by decide +kernel
theorem dX6_days_188 : decode cX6_days 188 = .ok (.bipush (-100), 2) := by decide +kernel
theorem dX6_days_190 : decode cX6_days 190 = .ok (.iload 8, 2) := by decide +kernel
theorem dX6_days_192 : decode cX6_days 192 = .ok (.isub, 1) := by decide +kernel
theorem dX6_days_193 : decode cX6_days 193 = .ok (.ireturn, 1) := by decide +kernel
set_option maxRecDepth 20000 in
theorem ggX6_tellDays_X6_orderAsIs : GoodIn wsX6_tellDays wsX6_orderAsIs := goodIn_r _ [9, 3, 10, 41, 42, 43, 44, 45, 46, 47, 48, 49, 50, 51, 52, 53, 54, 55, 56, 57, 58, 59, 60, 61, 62, 63, 64, 65, 66] (by decide +kernel) (by decide +kernel)
set_option maxRecDepth 20000 in
theorem gX6_tellDays_X6_orderAsIs : GoodIn wsX6_tellDays (wsV RX6 128 RX6 yX6_orderAsIs wsX6_orderAsIs) := goodIn_app (goodIn_of _ (by decide +kernel)) ggX6_tellDays_X6_orderAsIs
set_option maxRecDepth 20000 in
theorem ggX6_tellDays_X6_counselBy : GoodIn wsX6_tellDays wsX6_counselBy := goodIn_r _ [14, 3, 10, 15, 16, 17, 18, 8, 19, 20, 21, 22, 23, 24, 25, 26, 27, 28, 29, 30, 31, 32, 33, 34, 35, 36, 41, 42, 43, 44, 45, 46, 47, 48, 49, 50, 51, 52, 53, 54, 55, 56, 57, 58, 59, 60, 61, 62, 63, 64, 65, 66] (by decide +kernel) (by decide +kernel)
set_option maxRecDepth 20000 in
theorem gX6_tellDays_X6_counselBy : GoodIn wsX6_tellDays (wsV RX6 144 RX6 yX6_counselBy wsX6_counselBy) := goodIn_app (goodIn_of _ (by decide +kernel)) ggX6_tellDays_X6_counselBy
set_option maxRecDepth 20000 in
theorem ggX6_tellDays_X6_heardNow : GoodIn wsX6_tellDays wsX6_heardNow := goodIn_r _ [40, 1, 2, 5, 6, 7, 8, 9, 3, 10, 16, 17, 18, 19, 20, 21, 22, 23, 24, 25, 26, 27, 28, 29, 30, 31, 32, 41, 42, 43, 44, 45, 46, 47, 48, 49, 50, 51, 52, 53, 54, 55, 56, 57, 58, 59, 60, 61, 62, 63, 64, 65, 66] (by decide +kernel) (by decide +kernel)
set_option maxRecDepth 20000 in
theorem gX6_tellDays_X6_heardNow : GoodIn wsX6_tellDays (wsV RX6 138 RX6 yX6_heardNow wsX6_heardNow) := goodIn_app (goodIn_of _ (by decide +kernel)) ggX6_tellDays_X6_heardNow
theorem dX6_tellDays_0 : decode cX6_tellDays 0 = .ok (.iload_n 1, 1) := by decide +kernel
theorem dX6_tellDays_1 : decode cX6_tellDays 1 = .ok (.iconst 2, 1) := by decide +kernel
theorem dX6_tellDays_2 : decode cX6_tellDays 2 = .ok (.if_icmp .ne 21, 3) := by decide +kernel
theorem dX6_tellDays_5 : decode cX6_tellDays 5 = .ok (.aload_n 0, 1) := by decide +kernel
theorem dX6_tellDays_6 : decode cX6_tellDays 6 = .ok (.invokevirtual 128, 3) := by decide +kernel
theorem dX6_tellDays_9 : decode cX6_tellDays 9 = .ok (.aload_n 0, 1) := by decide +kernel
theorem dX6_tellDays_10 : decode cX6_tellDays 10 = .ok (.aload_n 0, 1) := by decide +kernel
theorem dX6_tellDays_11 : decode cX6_tellDays 11 = .ok (.getfield 86, 3) := by decide +kernel
theorem dX6_tellDays_14 : decode cX6_tellDays 14 = .ok (.aload_n 0, 1) := by decide +kernel
theorem dX6_tellDays_15 : decode cX6_tellDays 15 = .ok (.getfield 92, 3) := by decide +kernel
theorem dX6_tellDays_18 : decode cX6_tellDays 18 = .ok (.iconst 0, 1) := by decide +kernel
theorem dX6_tellDays_19 : decode cX6_tellDays 19 = .ok (.invokevirtual 144, 3) := by decide +kernel
theorem dX6_tellDays_22 : decode cX6_tellDays 22 = .ok (.ireturn, 1) := by decide +kernel
theorem dX6_tellDays_23 : decode cX6_tellDays 23 = .ok (.iload_n 1, 1) := by decide +kernel
theorem dX6_tellDays_24 : decode cX6_tellDays 24 = .ok (.ifCond .ne 10, 3) := by decide +kernel
theorem dX6_tellDays_27 : decode cX6_tellDays 27 = .ok (.aload_n 0, 1) := by decide +kernel
theorem dX6_tellDays_28 : decode cX6_tellDays 28 = .ok (.getfield 56, 3) := by decide +kernel
theorem dX6_tellDays_31 : decode cX6_tellDays 31 = .ok (.goto 19, 3) := by decide +kernel
theorem dX6_tellDays_34 : decode cX6_tellDays 34 = .ok (.iload_n 1, 1) := by decide +kernel
theorem dX6_tellDays_35 : decode cX6_tellDays 35 = .ok (.iconst 3, 1) := by decide +kernel
theorem dX6_tellDays_36 : decode cX6_tellDays 36 = .ok (.if_icmp .ne 10, 3) := by decide +kernel
theorem dX6_tellDays_39 : decode cX6_tellDays 39 = .ok (.aload_n 0, 1) := by decide +kernel
theorem dX6_tellDays_40 : decode cX6_tellDays 40 = .ok (.invokevirtual 138, 3) := by decide +kernel
theorem dX6_tellDays_43 : decode cX6_tellDays 43 = .ok (.goto 7, 3) := by decide +kernel
theorem dX6_tellDays_46 : decode cX6_tellDays 46 = .ok (.aload_n 0, 1) := by decide +kernel
theorem dX6_tellDays_47 : decode cX6_tellDays 47 = .ok (.getfield 170, 3) := by decide +kernel
theorem dX6_tellDays_50 : decode cX6_tellDays 50 = .ok (.ireturn, 1) := by decide +kernel
set_option maxRecDepth 20000 in
theorem ggX6_needs_X6_isLayer : GoodIn wsX6_needs wsX6_isLayer := goodIn_r _ [6, 7, 30, 31, 32, 33, 34, 35, 36, 37, 38, 39, 40, 41, 42, 43, 44, 45, 46, 47, 48, 49, 50, 51, 52, 53, 54, 55] (by decide +kernel) (by decide +kernel)
set_option maxRecDepth 20000 in
theorem gX6_needs_X6_isLayer : GoodIn wsX6_needs (wsV RX6 131 RX6 yX6_isLayer wsX6_isLayer) := goodIn_app (goodIn_of _ (by decide +kernel)) ggX6_needs_X6_isLayer
set_option maxRecDepth 20000 in
theorem ggX6_needs_X6_orderAsIs : GoodIn wsX6_needs wsX6_orderAsIs := goodIn_r _ [11, 7, 12, 30, 31, 32, 33, 34, 35, 36, 37, 38, 39, 40, 41, 42, 43, 44, 45, 46, 47, 48, 49, 50, 51, 52, 53, 54, 55] (by decide +kernel) (by decide +kernel)
set_option maxRecDepth 20000 in
theorem gX6_needs_X6_orderAsIs : GoodIn wsX6_needs (wsV RX6 128 RX6 yX6_orderAsIs wsX6_orderAsIs) := goodIn_app (goodIn_of _ (by decide +kernel)) ggX6_needs_X6_orderAsIs
set_option maxRecDepth 20000 in
theorem ggX6_needs_X6_heardBy : GoodIn wsX6_needs wsX6_heardBy := goodIn_r _ [16, 7, 12, 17, 18, 19, 20, 5, 21, 22, 23, 24, 25, 26, 27, 28, 29, 30, 31, 32, 33, 34, 35, 36, 37, 38, 39, 40, 41, 42, 43, 44, 45, 46, 47, 48, 49, 50, 51, 52, 53, 54, 55] (by decide +kernel) (by decide +kernel)
set_option maxRecDepth 20000 in
theorem gX6_needs_X6_heardBy : GoodIn wsX6_needs (wsV RX6 121 RX6 yX6_heardBy wsX6_heardBy) := goodIn_app (goodIn_of _ (by decide +kernel)) ggX6_needs_X6_heardBy
set_option maxRecDepth 20000 in
theorem ggX6_needs_X6_isOf : GoodIn wsX6_needs wsX6_isOf := goodIn_r _ [24] (by decide +kernel) (by decide +kernel)
set_option maxRecDepth 20000 in
theorem gX6_needs_X6_isOf : GoodIn wsX6_needs (va_wsS RX6 111 yX6_isOf wsX6_isOf) := goodIn_app (goodIn_of _ (by decide +kernel)) ggX6_needs_X6_isOf
theorem dX6_needs_0 : decode cX6_needs 0 = .ok (.aload_n 0, 1) := by decide +kernel
theorem dX6_needs_1 : decode cX6_needs 1 = .ok (.iload_n 1, 1) := by decide +kernel
theorem dX6_needs_2 : decode cX6_needs 2 = .ok (.invokevirtual 131, 3) := by decide +kernel
theorem dX6_needs_5 : decode cX6_needs 5 = .ok (.ifCond .ne 5, 3) := by decide +kernel
theorem dX6_needs_8 : decode cX6_needs 8 = .ok (.iconst (-1), 1) := by decide +kernel
theorem dX6_needs_9 : decode cX6_needs 9 = .ok (.ireturn, 1) := by decide +kernel
theorem dX6_needs_10 : decode cX6_needs 10 = .ok (.aload_n 0, 1) := by decide +kernel
theorem dX6_needs_11 : decode cX6_needs 11 = .ok (.invokevirtual 128, 3) := by decide +kernel
theorem dX6_needs_14 : decode cX6_needs 14 = .ok (.iconst 0, 1) := by decide +kernel
theorem dX6_needs_15 : decode cX6_needs 15 = .ok (.istore_n 2, 1) := by decide +kernel
theorem dX6_needs_16 : decode cX6_needs 16 = .ok (.iload_n 2, 1) := by decide +kernel
theorem dX6_needs_17 : decode cX6_needs 17 = .ok (.bipush 20, 2) := by decide +kernel
theorem dX6_needs_19 : decode cX6_needs 19 = .ok (.if_icmp .gt 28, 3) := by decide +kernel
theorem dX6_needs_22 : decode cX6_needs 22 = .ok (.aload_n 0, 1) := by decide +kernel
theorem dX6_needs_23 : decode cX6_needs 23 = .ok (.iload_n 2, 1) := by decide +kernel
theorem dX6_needs_24 : decode cX6_needs 24 = .ok (.aload_n 0, 1) := by decide +kernel
theorem dX6_needs_25 : decode cX6_needs 25 = .ok (.getfield 92, 3) := by decide +kernel
theorem dX6_needs_28 : decode cX6_needs 28 = .ok (.iconst 0, 1) := by decide +kernel
theorem dX6_needs_29 : decode cX6_needs 29 = .ok (.invokevirtual 121, 3) := by decide +kernel
theorem dX6_needs_32 : decode cX6_needs 32 = .ok (.iload_n 1, 1) := by decide +kernel
theorem dX6_needs_33 : decode cX6_needs 33 = .ok (.invokestatic 111, 3) := by decide +kernel
theorem dX6_needs_36 : decode cX6_needs 36 = .ok (.ifCond .eq 5, 3) := by decide +kernel
theorem dX6_needs_39 : decode cX6_needs 39 = .ok (.iload_n 2, 1) := by decide +kernel
theorem dX6_needs_40 : decode cX6_needs 40 = .ok (.ireturn, 1) := by decide +kernel
theorem dX6_needs_41 : decode cX6_needs 41 = .ok (.iinc 2 1, 3) := by decide +kernel
theorem dX6_needs_44 : decode cX6_needs 44 = .ok (.goto (-28), 3) := by decide +kernel
theorem dX6_needs_47 : decode cX6_needs 47 = .ok (.bipush (-9), 2) := by decide +kernel
theorem dX6_needs_49 : decode cX6_needs 49 = .ok (.ireturn, 1) := by decide +kernel
set_option maxRecDepth 20000 in
theorem ggX6_gets_X6_isDigit : GoodIn wsX6_gets wsX6_isDigit := goodIn_r _ [6, 7, 8, 5, 9] (by decide +kernel) (by decide +kernel)
set_option maxRecDepth 20000 in
theorem gX6_gets_X6_isDigit : GoodIn wsX6_gets (va_wsS RX6 141 yX6_isDigit wsX6_isDigit) := goodIn_app (goodIn_of _ (by decide +kernel)) ggX6_gets_X6_isDigit
set_option maxRecDepth 20000 in
theorem ggX6_gets_X6_orderAsIs : GoodIn wsX6_gets wsX6_orderAsIs := goodIn_r _ [13, 1, 14, 41, 42, 43, 44, 45, 46, 47, 48, 49, 50, 51, 52, 53, 54, 55, 56, 57, 58, 59, 60, 61, 62, 63, 64, 65, 66] (by decide +kernel) (by decide +kernel)
set_option maxRecDepth 20000 in
theorem gX6_gets_X6_orderAsIs : GoodIn wsX6_gets (wsV RX6 128 RX6 yX6_orderAsIs wsX6_orderAsIs) := goodIn_app (goodIn_of _ (by decide +kernel)) ggX6_gets_X6_orderAsIs
set_option maxRecDepth 20000 in
theorem ggX6_gets_X6_counselBy : GoodIn wsX6_gets wsX6_counselBy := goodIn_r _ [18, 1, 14, 19, 20, 21, 22, 5, 23, 24, 25, 26, 27, 28, 29, 30, 31, 32, 33, 34, 35, 36, 37, 38, 39, 40, 41, 42, 43, 44, 45, 46, 47, 48, 49, 50, 51, 52, 53, 54, 55, 56, 57, 58, 59, 60, 61, 62, 63, 64, 65, 66] (by decide +kernel) (by decide +kernel)
set_option maxRecDepth 20000 in
theorem gX6_gets_X6_counselBy : GoodIn wsX6_gets (wsV RX6 144 RX6 yX6_counselBy wsX6_counselBy) := goodIn_app (goodIn_of _ (by decide +kernel)) ggX6_gets_X6_counselBy
theorem dX6_gets_0 : decode cX6_gets 0 = .ok (.iload_n 1, 1) := by decide +kernel
theorem dX6_gets_1 : decode cX6_gets 1 = .ok (.invokestatic 141, 3) := by decide +kernel
theorem dX6_gets_4 : decode cX6_gets 4 = .ok (.ifCond .ne 6, 3) := by decide +kernel
theorem dX6_gets_7 : decode cX6_gets 7 = .ok (.bipush (-2), 2) := by decide +kernel
theorem dX6_gets_9 : decode cX6_gets 9 = .ok (.ireturn, 1) := by decide +kernel
theorem dX6_gets_10 : decode cX6_gets 10 = .ok (.aload_n 0, 1) := by decide +kernel
theorem dX6_gets_11 : decode cX6_gets 11 = .ok (.getfield 56, 3) := by decide +kernel
theorem dX6_gets_14 : decode cX6_gets 14 = .ok (.ifCond .ne 6, 3) := by decide +kernel
theorem dX6_gets_17 : decode cX6_gets 17 = .ok (.bipush (-3), 2) := by decide +kernel
theorem dX6_gets_19 : decode cX6_gets 19 = .ok (.ireturn, 1) := by decide +kernel
theorem dX6_gets_20 : decode cX6_gets 20 = .ok (.aload_n 0, 1) := by decide +kernel
theorem dX6_gets_21 : decode cX6_gets 21 = .ok (.invokevirtual 128, 3) := by decide +kernel
theorem dX6_gets_24 : decode cX6_gets 24 = .ok (.iconst 0, 1) := by decide +kernel
theorem dX6_gets_25 : decode cX6_gets 25 = .ok (.istore_n 2, 1) := by decide +kernel
theorem dX6_gets_26 : decode cX6_gets 26 = .ok (.iload_n 2, 1) := by decide +kernel
theorem dX6_gets_27 : decode cX6_gets 27 = .ok (.bipush 20, 2) := by decide +kernel
theorem dX6_gets_29 : decode cX6_gets 29 = .ok (.if_icmp .gt 25, 3) := by decide +kernel
theorem dX6_gets_32 : decode cX6_gets 32 = .ok (.aload_n 0, 1) := by decide +kernel
theorem dX6_gets_33 : decode cX6_gets 33 = .ok (.iload_n 2, 1) := by decide +kernel
theorem dX6_gets_34 : decode cX6_gets 34 = .ok (.aload_n 0, 1) := by decide +kernel
theorem dX6_gets_35 : decode cX6_gets 35 = .ok (.getfield 92, 3) := by decide +kernel
theorem dX6_gets_38 : decode cX6_gets 38 = .ok (.iconst 0, 1) := by decide +kernel
theorem dX6_gets_39 : decode cX6_gets 39 = .ok (.invokevirtual 144, 3) := by decide +kernel
theorem dX6_gets_42 : decode cX6_gets 42 = .ok (.iload_n 1, 1) := by decide +kernel
theorem dX6_gets_43 : decode cX6_gets 43 = .ok (.if_icmp .ne 5, 3) := by decide +kernel
theorem dX6_gets_46 : decode cX6_gets 46 = .ok (.iload_n 2, 1) := by decide +kernel
theorem dX6_gets_47 : decode cX6_gets 47 = .ok (.ireturn, 1) := by decide +kernel
theorem dX6_gets_48 : decode cX6_gets 48 = .ok (.iinc 2 1, 3) := by decide +kernel
theorem dX6_gets_51 : decode cX6_gets 51 = .ok (.goto (-25), 3) := by decide +kernel
theorem dX6_gets_54 : decode cX6_gets 54 = .ok (.bipush (-9), 2) := by decide +kernel
theorem dX6_gets_56 : decode cX6_gets 56 = .ok (.ireturn, 1) := by decide +kernel
set_option maxRecDepth 20000 in
theorem ggX6_without_X6_isDigit : GoodIn wsX6_without wsX6_isDigit := goodIn_r _ [7, 8, 9, 6, 10] (by decide +kernel) (by decide +kernel)
set_option maxRecDepth 20000 in
theorem gX6_without_X6_isDigit : GoodIn wsX6_without (va_wsS RX6 141 yX6_isDigit wsX6_isDigit) := goodIn_app (goodIn_of _ (by decide +kernel)) ggX6_without_X6_isDigit
set_option maxRecDepth 20000 in
theorem ggX6_without_X6_orderAsIs : GoodIn wsX6_without wsX6_orderAsIs := goodIn_r _ [14, 1, 15, 45, 46, 47, 48, 49, 50, 51, 52, 53, 54, 55, 56, 57, 58, 59, 60, 61, 62, 63, 64, 65, 66, 67, 68, 69, 70] (by decide +kernel) (by decide +kernel)
set_option maxRecDepth 20000 in
theorem gX6_without_X6_orderAsIs : GoodIn wsX6_without (wsV RX6 128 RX6 yX6_orderAsIs wsX6_orderAsIs) := goodIn_app (goodIn_of _ (by decide +kernel)) ggX6_without_X6_orderAsIs
set_option maxRecDepth 20000 in
theorem ggX6_without_X6_size : GoodIn wsX6_without wsX6_size := goodIn_r _ [18] (by decide +kernel) (by decide +kernel)
set_option maxRecDepth 20000 in
theorem gX6_without_X6_size : GoodIn wsX6_without (va_wsS RX6 147 yX6_size wsX6_size) := goodIn_app (goodIn_of _ (by decide +kernel)) ggX6_without_X6_size
set_option maxRecDepth 20000 in
theorem ggX6_without_X6_counselBy : GoodIn wsX6_without wsX6_counselBy := goodIn_r _ [22, 1, 15, 23, 24, 25, 26, 6, 27, 28, 29, 30, 31, 32, 33, 34, 35, 36, 37, 38, 39, 40, 41, 42, 43, 44, 45, 46, 47, 48, 49, 50, 51, 52, 53, 54, 55, 56, 57, 58, 59, 60, 61, 62, 63, 64, 65, 66, 67, 68, 69, 70] (by decide +kernel) (by decide +kernel)
set_option maxRecDepth 20000 in
theorem gX6_without_X6_counselBy : GoodIn wsX6_without (wsV RX6 144 RX6 yX6_counselBy wsX6_counselBy) := goodIn_app (goodIn_of _ (by decide +kernel)) ggX6_without_X6_counselBy
theorem dX6_without_0 : decode cX6_without 0 = .ok (.iload_n 1, 1) := by decide +kernel
theorem dX6_without_1 : decode cX6_without 1 = .ok (.invokestatic 141, 3) := by decide +kernel
theorem dX6_without_4 : decode cX6_without 4 = .ok (.ifCond .ne 6, 3) := by decide +kernel
theorem dX6_without_7 : decode cX6_without 7 = .ok (.bipush (-2), 2) := by decide +kernel
theorem dX6_without_9 : decode cX6_without 9 = .ok (.ireturn, 1) := by decide +kernel
theorem dX6_without_10 : decode cX6_without 10 = .ok (.aload_n 0, 1) := by decide +kernel
theorem dX6_without_11 : decode cX6_without 11 = .ok (.getfield 56, 3) := by decide +kernel
theorem dX6_without_14 : decode cX6_without 14 = .ok (.ifCond .ne 6, 3) := by decide +kernel
theorem dX6_without_17 : decode cX6_without 17 = .ok (.bipush (-3), 2) := by decide +kernel
theorem dX6_without_19 : decode cX6_without 19 = .ok (.ireturn, 1) := by decide +kernel
theorem dX6_without_20 : decode cX6_without 20 = .ok (.aload_n 0, 1) := by decide +kernel
theorem dX6_without_21 : decode cX6_without 21 = .ok (.invokevirtual 128, 3) := by decide +kernel
theorem dX6_without_24 : decode cX6_without 24 = .ok (.bipush (-9), 2) := by decide +kernel
theorem dX6_without_26 : decode cX6_without 26 = .ok (.istore_n 2, 1) := by decide +kernel
theorem dX6_without_27 : decode cX6_without 27 = .ok (.iconst 0, 1) := by decide +kernel
theorem dX6_without_28 : decode cX6_without 28 = .ok (.istore_n 3, 1) := by decide +kernel
theorem dX6_without_29 : decode cX6_without 29 = .ok (.iload_n 3, 1) := by decide +kernel
theorem dX6_without_30 : decode cX6_without 30 = .ok (.iconst 1, 1) := by decide +kernel
theorem dX6_without_31 : decode cX6_without 31 = .ok (.aload_n 0, 1) := by decide +kernel
theorem dX6_without_32 : decode cX6_without 32 = .ok (.getfield 56, 3) := by decide +kernel
theorem dX6_without_35 : decode cX6_without 35 = .ok (.ishl, 1) := by decide +kernel
theorem dX6_without_36 : decode cX6_without 36 = .ok (.if_icmp .ge 57, 3) := by decide +kernel
theorem dX6_without_39 : decode cX6_without 39 = .ok (.iload_n 2, 1) := by decide +kernel
theorem dX6_without_40 : decode cX6_without 40 = .ok (.bipush (-9), 2) := by decide +kernel
theorem dX6_without_42 : decode cX6_without 42 = .ok (.if_icmp .eq 14, 3) := by decide +kernel
theorem dX6_without_45 : decode cX6_without 45 = .ok (.iload_n 3, 1) := by decide +kernel
theorem dX6_without_46 : decode cX6_without 46 = .ok (.invokestatic 147, 3) := by decide +kernel
theorem dX6_without_49 : decode cX6_without 49 = .ok (.iload_n 2, 1) := by decide +kernel
theorem dX6_without_50 : decode cX6_without 50 = .ok (.invokestatic 147, 3) := by decide +kernel
theorem dX6_without_53 : decode cX6_without 53 = .ok (.if_icmp .ge 7, 3) := by decide +kernel
theorem dX6_without_56 : decode cX6_without 56 = .ok (.iconst 1, 1) := by decide +kernel
theorem dX6_without_57 : decode cX6_without 57 = .ok (.goto 4, 3) := by decide +kernel
theorem dX6_without_60 : decode cX6_without 60 = .ok (.iconst 0, 1) := by decide +kernel
theorem dX6_without_61 : decode cX6_without 61 = .ok (.istore 4, 2) := by decide +kernel
theorem dX6_without_63 : decode cX6_without 63 = .ok (.iload 4, 2) := by decide +kernel
theorem dX6_without_65 : decode cX6_without 65 = .ok (.ifCond .eq 22, 3) := by decide +kernel
theorem dX6_without_68 : decode cX6_without 68 = .ok (.aload_n 0, 1) := by decide +kernel
theorem dX6_without_69 : decode cX6_without 69 = .ok (.aload_n 0, 1) := by decide +kernel
theorem dX6_without_70 : decode cX6_without 70 = .ok (.getfield 86, 3) := by decide +kernel
theorem dX6_without_73 : decode cX6_without 73 = .ok (.aload_n 0, 1) := by decide +kernel
theorem dX6_without_74 : decode cX6_without 74 = .ok (.getfield 92, 3) := by decide +kernel
theorem dX6_without_77 : decode cX6_without 77 = .ok (.iload_n 3, 1) := by decide +kernel
theorem dX6_without_78 : decode cX6_without 78 = .ok (.invokevirtual 144, 3) := by decide +kernel
theorem dX6_without_81 : decode cX6_without 81 = .ok (.iload_n 1, 1) := by decide +kernel
theorem dX6_without_82 : decode cX6_without 82 = .ok (.if_icmp .ne 5, 3) := by decide +kernel
theorem dX6_without_85 : decode cX6_without 85 = .ok (.iload_n 3, 1) := by decide +kernel
theorem dX6_without_86 : decode cX6_without 86 = .ok (.istore_n 2, 1) := by decide +kernel
theorem dX6_without_87 : decode cX6_without 87 = .ok (.iinc 3 1, 3) := by decide +kernel
theorem dX6_without_90 : decode cX6_without 90 = .ok (.goto (-61), 3) := by decide +kernel
theorem dX6_without_93 : decode cX6_without 93 = .ok (.iload_n 2, 1) := by decide +kernel
theorem dX6_without_94 : decode cX6_without 94 = .ok (.ireturn, 1) := by decide +kernel
set_option maxRecDepth 20000 in
theorem ggX6_reading_X6_within : GoodIn wsX6_reading wsX6_within := goodIn_r _ [9] (by decide +kernel) (by decide +kernel)
set_option maxRecDepth 20000 in
theorem gX6_reading_X6_within : GoodIn wsX6_reading (va_wsS RX6 52 yX6_within wsX6_within) := goodIn_app (goodIn_of _ (by decide +kernel)) ggX6_reading_X6_within
set_option maxRecDepth 20000 in
theorem ggX6_reading_X6_isDigit : GoodIn wsX6_reading wsX6_isDigit := goodIn_r _ [12, 6, 7, 8, 9] (by decide +kernel) (by decide +kernel)
set_option maxRecDepth 20000 in
theorem gX6_reading_X6_isDigit : GoodIn wsX6_reading (va_wsS RX6 141 yX6_isDigit wsX6_isDigit) := goodIn_app (goodIn_of _ (by decide +kernel)) ggX6_reading_X6_isDigit
theorem dX6_reading_0 : decode cX6_reading 0 = .ok (.iload_n 1, 1) := by decide +kernel
theorem dX6_reading_1 : decode cX6_reading 1 = .ok (.iconst 0, 1) := by decide +kernel
theorem dX6_reading_2 : decode cX6_reading 2 = .ok (.bipush 20, 2) := by decide +kernel
theorem dX6_reading_4 : decode cX6_reading 4 = .ok (.invokestatic 52, 3) := by decide +kernel
theorem dX6_reading_7 : decode cX6_reading 7 = .ok (.ifCond .eq 23, 3) := by decide +kernel
theorem dX6_reading_10 : decode cX6_reading 10 = .ok (.iload_n 2, 1) := by decide +kernel
theorem dX6_reading_11 : decode cX6_reading 11 = .ok (.invokestatic 141, 3) := by decide +kernel
theorem dX6_reading_14 : decode cX6_reading 14 = .ok (.ifCond .eq 16, 3) := by decide +kernel
theorem dX6_reading_17 : decode cX6_reading 17 = .ok (.iload_n 3, 1) := by decide +kernel
theorem dX6_reading_18 : decode cX6_reading 18 = .ok (.invokestatic 141, 3) := by decide +kernel
theorem dX6_reading_21 : decode cX6_reading 21 = .ok (.ifCond .ne 12, 3) := by decide +kernel
theorem dX6_reading_24 : decode cX6_reading 24 = .ok (.iload_n 3, 1) := by decide +kernel
theorem dX6_reading_25 : decode cX6_reading 25 = .ok (.bipush (-9), 2) := by decide +kernel
theorem dX6_reading_27 : decode cX6_reading 27 = .ok (.if_icmp .eq 6, 3) := by decide +kernel
theorem dX6_reading_30 : decode cX6_reading 30 = .ok (.bipush (-2), 2) := by decide +kernel
theorem dX6_reading_32 : decode cX6_reading 32 = .ok (.ireturn, 1) := by decide +kernel
theorem dX6_reading_33 : decode cX6_reading 33 = .ok (.aload_n 0, 1) := by decide +kernel
theorem dX6_reading_34 : decode cX6_reading 34 = .ok (.getfield 56, 3) := by decide +kernel
theorem dX6_reading_37 : decode cX6_reading 37 = .ok (.ifCond .ne 6, 3) := by decide +kernel
theorem dX6_reading_40 : decode cX6_reading 40 = .ok (.bipush (-3), 2) := by decide +kernel
theorem dX6_reading_42 : decode cX6_reading 42 = .ok (.ireturn, 1) := by decide +kernel
theorem dX6_reading_43 : decode cX6_reading 43 = .ok (.aload_n 0, 1) := by decide +kernel
theorem dX6_reading_44 : decode cX6_reading 44 = .ok (.getfield 98, 3) := by decide +kernel
theorem dX6_reading_47 : decode cX6_reading 47 = .ok (.bipush 8, 2) := by decide +kernel
theorem dX6_reading_49 : decode cX6_reading 49 = .ok (.if_icmp .ne 6, 3) := by decide +kernel
theorem dX6_reading_52 : decode cX6_reading 52 = .ok (.bipush (-4), 2) := by decide +kernel
theorem dX6_reading_54 : decode cX6_reading 54 = .ok (.ireturn, 1) := by decide +kernel
theorem dX6_reading_55 : decode cX6_reading 55 = .ok (.aload_n 0, 1) := by decide +kernel
theorem dX6_reading_56 : decode cX6_reading 56 = .ok (.getfield 37, 3) := by decide +kernel
theorem dX6_reading_59 : decode cX6_reading 59 = .ok (.aload_n 0, 1) := by decide +kernel
theorem dX6_reading_60 : decode cX6_reading 60 = .ok (.getfield 98, 3) := by decide +kernel
theorem dX6_reading_63 : decode cX6_reading 63 = .ok (.iload_n 1, 1) := by decide +kernel
theorem dX6_reading_64 : decode cX6_reading 64 = .ok (.iastore, 1) := by decide +kernel
theorem dX6_reading_65 : decode cX6_reading 65 = .ok (.aload_n 0, 1) := by decide +kernel
theorem dX6_reading_66 : decode cX6_reading 66 = .ok (.getfield 40, 3) := by decide +kernel
theorem dX6_reading_69 : decode cX6_reading 69 = .ok (.aload_n 0, 1) := by decide +kernel
theorem dX6_reading_70 : decode cX6_reading 70 = .ok (.getfield 98, 3) := by decide +kernel
theorem dX6_reading_73 : decode cX6_reading 73 = .ok (.iload_n 2, 1) := by decide +kernel
theorem dX6_reading_74 : decode cX6_reading 74 = .ok (.iastore, 1) := by decide +kernel
theorem dX6_reading_75 : decode cX6_reading 75 = .ok (.aload_n 0, 1) := by decide +kernel
theorem dX6_reading_76 : decode cX6_reading 76 = .ok (.getfield 43, 3) := by decide +kernel
theorem dX6_reading_79 : decode cX6_reading 79 = .ok (.aload_n 0, 1) := by decide +kernel
theorem dX6_reading_80 : decode cX6_reading 80 = .ok (.getfield 98, 3) := by decide +kernel
theorem dX6_reading_83 : decode cX6_reading 83 = .ok (.iload_n 3, 1) := by decide +kernel
theorem dX6_reading_84 : decode cX6_reading 84 = .ok (.iastore, 1) := by decide +kernel
theorem dX6_reading_85 : decode cX6_reading 85 = .ok (.aload_n 0, 1) := by decide +kernel
theorem dX6_reading_86 : decode cX6_reading 86 = .ok (.dup, 1) := by decide +kernel
theorem dX6_reading_87 : decode cX6_reading 87 = .ok (.getfield 98, 3) := by decide +kernel
theorem dX6_reading_90 : decode cX6_reading 90 = .ok (.iconst 1, 1) := by decide +kernel
theorem dX6_reading_91 : decode cX6_reading 91 = .ok (.iadd, 1) := by decide +kernel
theorem dX6_reading_92 : decode cX6_reading 92 = .ok (.putfield 98, 3) := by decide +kernel
theorem dX6_reading_95 : decode cX6_reading 95 = .ok (.aload_n 0, 1) := by decide +kernel
theorem dX6_reading_96 : decode cX6_reading 96 = .ok (.getfield 98, 3) := by decide +kernel
theorem dX6_reading_99 : decode cX6_reading 99 = .ok (.iconst 1, 1) := by decide +kernel
theorem dX6_reading_100 : decode cX6_reading 100 = .ok (.isub, 1) := by decide +kernel
theorem dX6_reading_101 : decode cX6_reading 101 = .ok (.ireturn, 1) := by decide +kernel
set_option maxRecDepth 20000 in
theorem ggX6_back_X6_within : GoodIn wsX6_back wsX6_within := goodIn_r _ [5] (by decide +kernel) (by decide +kernel)
set_option maxRecDepth 20000 in
theorem gX6_back_X6_within : GoodIn wsX6_back (va_wsS RX6 52 yX6_within wsX6_within) := goodIn_app (goodIn_of _ (by decide +kernel)) ggX6_back_X6_within
theorem dX6_back_0 : decode cX6_back 0 = .ok (.iload_n 1, 1) := by decide +kernel
theorem dX6_back_1 : decode cX6_back 1 = .ok (.iconst 0, 1) := by decide +kernel
theorem dX6_back_2 : decode cX6_back 2 = .ok (.aload_n 0, 1) := by decide +kernel
theorem dX6_back_3 : decode cX6_back 3 = .ok (.getfield 98, 3) := by decide +kernel
theorem dX6_back_6 : decode cX6_back 6 = .ok (.invokestatic 52, 3) := by decide +kernel
theorem dX6_back_9 : decode cX6_back 9 = .ok (.ifCond .ne 6, 3) := by decide +kernel
theorem dX6_back_12 : decode cX6_back 12 = .ok (.bipush (-2), 2) := by decide +kernel
theorem dX6_back_14 : decode cX6_back 14 = .ok (.ireturn, 1) := by decide +kernel
theorem dX6_back_15 : decode cX6_back 15 = .ok (.aload_n 0, 1) := by decide +kernel
theorem dX6_back_16 : decode cX6_back 16 = .ok (.dup, 1) := by decide +kernel
theorem dX6_back_17 : decode cX6_back 17 = .ok (.getfield 98, 3) := by decide +kernel
theorem dX6_back_20 : decode cX6_back 20 = .ok (.iload_n 1, 1) := by decide +kernel
theorem dX6_back_21 : decode cX6_back 21 = .ok (.isub, 1) := by decide +kernel
theorem dX6_back_22 : decode cX6_back 22 = .ok (.putfield 98, 3) := by decide +kernel
theorem dX6_back_25 : decode cX6_back 25 = .ok (.aload_n 0, 1) := by decide +kernel
theorem dX6_back_26 : decode cX6_back 26 = .ok (.getfield 98, 3) := by decide +kernel
theorem dX6_back_29 : decode cX6_back 29 = .ok (.ireturn, 1) := by decide +kernel
set_option maxRecDepth 20000 in
theorem ggX6_areSo_X6_counselBy : GoodIn wsX6_areSo wsX6_counselBy := goodIn_r _ [9, 10, 11, 12, 13, 14, 15, 8, 16, 17, 18, 19, 20, 21, 22, 23, 24, 25, 26, 27, 28, 29, 30, 31, 32, 33, 34, 35, 36, 37, 38, 39, 40, 41, 42, 43, 44, 45, 46, 47, 48, 49, 50, 51, 52, 53, 54, 55, 56, 57, 58, 59] (by decide +kernel) (by decide +kernel)
set_option maxRecDepth 20000 in
theorem gX6_areSo_X6_counselBy : GoodIn wsX6_areSo (wsV RX6 144 RX6 yX6_counselBy wsX6_counselBy) := goodIn_app (goodIn_of _ (by decide +kernel)) ggX6_areSo_X6_counselBy
theorem dX6_areSo_0 : decode cX6_areSo 0 = .ok (.iconst 0, 1) := by decide +kernel
theorem dX6_areSo_1 : decode cX6_areSo 1 = .ok (.istore_n 1, 1) := by decide +kernel
theorem dX6_areSo_2 : decode cX6_areSo 2 = .ok (.iload_n 1, 1) := by decide +kernel
theorem dX6_areSo_3 : decode cX6_areSo 3 = .ok (.aload_n 0, 1) := by decide +kernel
theorem dX6_areSo_4 : decode cX6_areSo 4 = .ok (.getfield 98, 3) := by decide +kernel
theorem dX6_areSo_7 : decode cX6_areSo 7 = .ok (.if_icmp .ge 37, 3) := by decide +kernel
theorem dX6_areSo_10 : decode cX6_areSo 10 = .ok (.aload_n 0, 1) := by decide +kernel
theorem dX6_areSo_11 : decode cX6_areSo 11 = .ok (.aload_n 0, 1) := by decide +kernel
theorem dX6_areSo_12 : decode cX6_areSo 12 = .ok (.getfield 37, 3) := by decide +kernel
theorem dX6_areSo_15 : decode cX6_areSo 15 = .ok (.iload_n 1, 1) := by decide +kernel
theorem dX6_areSo_16 : decode cX6_areSo 16 = .ok (.iaload, 1) := by decide +kernel
theorem dX6_areSo_17 : decode cX6_areSo 17 = .ok (.aload_n 0, 1) := by decide +kernel
theorem dX6_areSo_18 : decode cX6_areSo 18 = .ok (.getfield 40, 3) := by decide +kernel
theorem dX6_areSo_21 : decode cX6_areSo 21 = .ok (.iload_n 1, 1) := by decide +kernel
theorem dX6_areSo_22 : decode cX6_areSo 22 = .ok (.iaload, 1) := by decide +kernel
theorem dX6_areSo_23 : decode cX6_areSo 23 = .ok (.iconst 0, 1) := by decide +kernel
theorem dX6_areSo_24 : decode cX6_areSo 24 = .ok (.invokevirtual 144, 3) := by decide +kernel
theorem dX6_areSo_27 : decode cX6_areSo 27 = .ok (.aload_n 0, 1) := by decide +kernel
theorem dX6_areSo_28 : decode cX6_areSo 28 = .ok (.getfield 43, 3) := by decide +kernel
theorem dX6_areSo_31 : decode cX6_areSo 31 = .ok (.iload_n 1, 1) := by decide +kernel
theorem dX6_areSo_32 : decode cX6_areSo 32 = .ok (.iaload, 1) := by decide +kernel
theorem dX6_areSo_33 : decode cX6_areSo 33 = .ok (.if_icmp .eq 5, 3) := by decide +kernel
theorem dX6_areSo_36 : decode cX6_areSo 36 = .ok (.iconst 0, 1) := by decide +kernel
theorem dX6_areSo_37 : decode cX6_areSo 37 = .ok (.ireturn, 1) := by decide +kernel
theorem dX6_areSo_38 : decode cX6_areSo 38 = .ok (.iinc 1 1, 3) := by decide +kernel
theorem dX6_areSo_41 : decode cX6_areSo 41 = .ok (.goto (-39), 3) := by decide +kernel
theorem dX6_areSo_44 : decode cX6_areSo 44 = .ok (.iconst 1, 1) := by decide +kernel
theorem dX6_areSo_45 : decode cX6_areSo 45 = .ok (.ireturn, 1) := by decide +kernel
theorem dX6_ordersOf_0 : decode cX6_ordersOf 0 = .ok (.iconst 1, 1) := by decide +kernel
theorem dX6_ordersOf_1 : decode cX6_ordersOf 1 = .ok (.istore_n 1, 1) := by decide +kernel
theorem dX6_ordersOf_2 : decode cX6_ordersOf 2 = .ok (.iconst 2, 1) := by decide +kernel
theorem dX6_ordersOf_3 : decode cX6_ordersOf 3 = .ok (.istore_n 2, 1) := by decide +kernel
theorem dX6_ordersOf_4 : decode cX6_ordersOf 4 = .ok (.iload_n 2, 1) := by decide +kernel
theorem dX6_ordersOf_5 : decode cX6_ordersOf 5 = .ok (.iload_n 0, 1) := by decide +kernel
theorem dX6_ordersOf_6 : decode cX6_ordersOf 6 = .ok (.if_icmp .gt 13, 3) := by decide +kernel
theorem dX6_ordersOf_9 : decode cX6_ordersOf 9 = .ok (.iload_n 1, 1) := by decide +kernel
theorem dX6_ordersOf_10 : decode cX6_ordersOf 10 = .ok (.iload_n 2, 1) := by decide +kernel
theorem dX6_ordersOf_11 : decode cX6_ordersOf 11 = .ok (.imul, 1) := by decide +kernel
theorem dX6_ordersOf_12 : decode cX6_ordersOf 12 = .ok (.istore_n 1, 1) := by decide +kernel
theorem dX6_ordersOf_13 : decode cX6_ordersOf 13 = .ok (.iinc 2 1, 3) := by decide +kernel
theorem dX6_ordersOf_16 : decode cX6_ordersOf 16 = .ok (.goto (-12), 3) := by decide +kernel
theorem dX6_ordersOf_19 : decode cX6_ordersOf 19 = .ok (.iload_n 1, 1) := by decide +kernel
theorem dX6_ordersOf_20 : decode cX6_ordersOf 20 = .ok (.ireturn, 1) := by decide +kernel
set_option maxRecDepth 20000 in
theorem ggX6_orderBy_X6_ordersOf : GoodIn wsX6_orderBy wsX6_ordersOf := goodIn_r _ [6] (by decide +kernel) (by decide +kernel)
set_option maxRecDepth 20000 in
theorem gX6_orderBy_X6_ordersOf : GoodIn wsX6_orderBy (va_wsS RX6 191 yX6_ordersOf wsX6_ordersOf) := goodIn_app (goodIn_of _ (by decide +kernel)) ggX6_orderBy_X6_ordersOf
set_option maxRecDepth 20000 in
theorem ggX6_orderBy_X6_isOf : GoodIn wsX6_orderBy wsX6_isOf := goodIn_r _ [9] (by decide +kernel) (by decide +kernel)
set_option maxRecDepth 20000 in
theorem gX6_orderBy_X6_isOf : GoodIn wsX6_orderBy (va_wsS RX6 111 yX6_isOf wsX6_isOf) := goodIn_app (goodIn_of _ (by decide +kernel)) ggX6_orderBy_X6_isOf
theorem dX6_orderBy_0 : decode cX6_orderBy 0 = .ok (.iload_n 1, 1) := by decide +kernel
theorem dX6_orderBy_1 : decode cX6_orderBy 1 = .ok (.istore_n 2, 1) := by decide +kernel
theorem dX6_orderBy_2 : decode cX6_orderBy 2 = .ok (.aload_n 0, 1) := by decide +kernel
theorem dX6_orderBy_3 : decode cX6_orderBy 3 = .ok (.getfield 56, 3) := by decide +kernel
theorem dX6_orderBy_6 : decode cX6_orderBy 6 = .ok (.iconst 1, 1) := by decide +kernel
theorem dX6_orderBy_7 : decode cX6_orderBy 7 = .ok (.isub, 1) := by decide +kernel
theorem dX6_orderBy_8 : decode cX6_orderBy 8 = .ok (.invokestatic 191, 3) := by decide +kernel
theorem dX6_orderBy_11 : decode cX6_orderBy 11 = .ok (.istore_n 3, 1) := by decide +kernel
theorem dX6_orderBy_12 : decode cX6_orderBy 12 = .ok (.iconst 0, 1) := by decide +kernel
theorem dX6_orderBy_13 : decode cX6_orderBy 13 = .ok (.istore 4, 2) := by decide +kernel
theorem dX6_orderBy_15 : decode cX6_orderBy 15 = .ok (.iconst 0, 1) := by decide +kernel
theorem dX6_orderBy_16 : decode cX6_orderBy 16 = .ok (.istore 5, 2) := by decide +kernel
theorem dX6_orderBy_18 : decode cX6_orderBy 18 = .ok (.iload 5, 2) := by decide +kernel
theorem dX6_orderBy_20 : decode cX6_orderBy 20 = .ok (.aload_n 0, 1) := by decide +kernel
theorem dX6_orderBy_21 : decode cX6_orderBy 21 = .ok (.getfield 56, 3) := by decide +kernel
theorem dX6_orderBy_24 : decode cX6_orderBy 24 = .ok (.if_icmp .ge 109, 3) := by decide +kernel
theorem dX6_orderBy_27 : decode cX6_orderBy 27 = .ok (.iload_n 2, 1) := by decide +kernel
theorem dX6_orderBy_28 : decode cX6_orderBy 28 = .ok (.iload_n 3, 1) := by decide +kernel
theorem dX6_orderBy_29 : decode cX6_orderBy 29 = .ok (.idiv, 1) := by decide +kernel
theorem dX6_orderBy_30 : decode cX6_orderBy 30 = .ok (.istore 6, 2) := by decide +kernel
theorem dX6_orderBy_32 : decode cX6_orderBy 32 = .ok (.iload_n 2, 1) := by decide +kernel
theorem dX6_orderBy_33 : decode cX6_orderBy 33 = .ok (.iload_n 3, 1) := by decide +kernel
theorem dX6_orderBy_34 : decode cX6_orderBy 34 = .ok (.irem, 1) := by decide +kernel
theorem dX6_orderBy_35 : decode cX6_orderBy 35 = .ok (.istore_n 2, 1) := by decide +kernel
theorem dX6_orderBy_36 : decode cX6_orderBy 36 = .ok (.iconst 0, 1) := by decide +kernel
theorem dX6_orderBy_37 : decode cX6_orderBy 37 = .ok (.istore 7, 2) := by decide +kernel
theorem dX6_orderBy_39 : decode cX6_orderBy 39 = .ok (.iload 4, 2) := by decide +kernel
theorem dX6_orderBy_41 : decode cX6_orderBy 41 = .ok (.iload 7, 2) := by decide +kernel
theorem dX6_orderBy_43 : decode cX6_orderBy 43 = .ok (.invokestatic 111, 3) := by decide +kernel
theorem dX6_orderBy_46 : decode cX6_orderBy 46 = .ok (.ifCond .ne 8, 3) := by decide +kernel
theorem dX6_orderBy_49 : decode cX6_orderBy 49 = .ok (.iload 6, 2) := by decide +kernel
theorem dX6_orderBy_51 : decode cX6_orderBy 51 = .ok (.ifCond .le 29, 3) := by decide +kernel
theorem dX6_orderBy_54 : decode cX6_orderBy 54 = .ok (.iload 6, 2) := by decide +kernel
theorem dX6_orderBy_56 : decode cX6_orderBy 56 = .ok (.iload 4, 2) := by decide +kernel
theorem dX6_orderBy_58 : decode cX6_orderBy 58 = .ok (.iload 7, 2) := by decide +kernel
theorem dX6_orderBy_60 : decode cX6_orderBy 60 = .ok (.invokestatic 111, 3) := by decide +kernel
theorem dX6_orderBy_63 : decode cX6_orderBy 63 = .ok (.ifCond .eq 7, 3) := by decide +kernel
theorem dX6_orderBy_66 : decode cX6_orderBy 66 = .ok (.iconst 0, 1) := by decide +kernel
theorem dX6_orderBy_67 : decode cX6_orderBy 67 = .ok (.goto 4, 3) := by decide +kernel
theorem dX6_orderBy_70 : decode cX6_orderBy 70 = .ok (.iconst 1, 1) := by decide +kernel
theorem dX6_orderBy_71 : decode cX6_orderBy 71 = .ok (.isub, 1) := by decide +kernel
theorem dX6_orderBy_72 : decode cX6_orderBy 72 = .ok (.istore 6, 2) := by decide +kernel
theorem dX6_orderBy_74 : decode cX6_orderBy 74 = .ok (.iinc 7 1, 3) := by decide +kernel
theorem dX6_orderBy_77 : decode cX6_orderBy 77 = .ok (.goto (-38), 3) := by decide +kernel
theorem dX6_orderBy_80 : decode cX6_orderBy 80 = .ok (.aload_n 0, 1) := by decide +kernel
theorem dX6_orderBy_81 : decode cX6_orderBy 81 = .ok (.getfield 31, 3) := by decide +kernel
theorem dX6_orderBy_84 : decode cX6_orderBy 84 = .ok (.iload 5, 2) := by decide +kernel
theorem dX6_orderBy_86 : decode cX6_orderBy 86 = .ok (.iload 7, 2) := by decide +kernel
theorem dX6_orderBy_88 : decode cX6_orderBy 88 = .ok (.iastore, 1) := by decide +kernel
theorem dX6_orderBy_89 : decode cX6_orderBy 89 = .ok (.iload 4, 2) := by decide +kernel
theorem dX6_orderBy_91 : decode cX6_orderBy 91 = .ok (.iconst 1, 1) := by decide +kernel
theorem dX6_orderBy_92 : decode cX6_orderBy 92 = .ok (.iload 7, 2) := by decide +kernel
theorem dX6_orderBy_94 : decode cX6_orderBy 94 = .ok (.ishl, 1) := by decide +kernel
theorem dX6_orderBy_95 : decode cX6_orderBy 95 = .ok (.ior, 1) := by decide +kernel
theorem dX6_orderBy_96 : decode cX6_orderBy 96 = .ok (.istore 4, 2) := by decide +kernel
theorem dX6_orderBy_98 : decode cX6_orderBy 98 = .ok (.aload_n 0, 1) := by decide +kernel
theorem dX6_orderBy_99 : decode cX6_orderBy 99 = .ok (.getfield 56, 3) := by decide +kernel
theorem dX6_orderBy_102 : decode cX6_orderBy 102 = .ok (.iload 5, 2) := by decide +kernel
theorem dX6_orderBy_104 : decode cX6_orderBy 104 = .ok (.isub, 1) := by decide +kernel
theorem dX6_orderBy_105 : decode cX6_orderBy 105 = .ok (.iconst 1, 1) := by decide +kernel
theorem dX6_orderBy_106 : decode cX6_orderBy 106 = .ok (.isub, 1) := by decide +kernel
theorem dX6_orderBy_107 : decode cX6_orderBy 107 = .ok (.iconst 1, 1) := by decide +kernel
theorem dX6_orderBy_108 : decode cX6_orderBy 108 = .ok (.if_icmp .le 17, 3) := by decide +kernel
theorem dX6_orderBy_111 : decode cX6_orderBy 111 = .ok (.iload_n 3, 1) := by decide +kernel
theorem dX6_orderBy_112 : decode cX6_orderBy 112 = .ok (.aload_n 0, 1) := by decide +kernel
theorem dX6_orderBy_113 : decode cX6_orderBy 113 = .ok (.getfield 56, 3) := by decide +kernel
theorem dX6_orderBy_116 : decode cX6_orderBy 116 = .ok (.iload 5, 2) := by decide +kernel
theorem dX6_orderBy_118 : decode cX6_orderBy 118 = .ok (.isub, 1) := by decide +kernel
theorem dX6_orderBy_119 : decode cX6_orderBy 119 = .ok (.iconst 1, 1) := by decide +kernel
theorem dX6_orderBy_120 : decode cX6_orderBy 120 = .ok (.isub, 1) := by decide +kernel
theorem dX6_orderBy_121 : decode cX6_orderBy 121 = .ok (.idiv, 1) := by decide +kernel
theorem dX6_orderBy_122 : decode cX6_orderBy 122 = .ok (.goto 4, 3) := by decide +kernel
theorem dX6_orderBy_125 : decode cX6_orderBy 125 = .ok (.iconst 1, 1) := by decide +kernel
theorem dX6_orderBy_126 : decode cX6_orderBy 126 = .ok (.istore_n 3, 1) := by decide +kernel
theorem dX6_orderBy_127 : decode cX6_orderBy 127 = .ok (.iinc 5 1, 3) := by decide +kernel
theorem dX6_orderBy_130 : decode cX6_orderBy 130 = .ok (.goto (-112), 3) := by decide +kernel
theorem dX6_orderBy_133 : decode cX6_orderBy 133 = .ok (.return_, 1) := by decide +kernel
set_option maxRecDepth 20000 in
theorem ggX6_orders_X6_within : GoodIn wsX6_orders wsX6_within := goodIn_r _ [6] (by decide +kernel) (by decide +kernel)
set_option maxRecDepth 20000 in
theorem gX6_orders_X6_within : GoodIn wsX6_orders (va_wsS RX6 52 yX6_within wsX6_within) := goodIn_app (goodIn_of _ (by decide +kernel)) ggX6_orders_X6_within
set_option maxRecDepth 20000 in
theorem ggX6_orders_X6_ordersOf : GoodIn wsX6_orders wsX6_ordersOf := goodIn_r _ [9] (by decide +kernel) (by decide +kernel)
set_option maxRecDepth 20000 in
theorem gX6_orders_X6_ordersOf : GoodIn wsX6_orders (va_wsS RX6 191 yX6_ordersOf wsX6_ordersOf) := goodIn_app (goodIn_of _ (by decide +kernel)) ggX6_orders_X6_ordersOf
set_option maxRecDepth 20000 in
theorem ggX6_orders_X6_orderBy : GoodIn wsX6_orders wsX6_orderBy := goodIn_r _ [13, 1, 2, 7, 8, 5, 9, 14, 15, 16, 48, 49, 50, 51, 52, 53, 54, 55, 56, 57, 58, 59, 60, 61, 62, 63, 64, 65, 66, 67, 68, 69, 70, 71, 72, 73] (by decide +kernel) (by decide +kernel)
set_option maxRecDepth 20000 in
theorem gX6_orders_X6_orderBy : GoodIn wsX6_orders (wsV RX6 194 RX6 yX6_orderBy wsX6_orderBy) := goodIn_app (goodIn_of _ (by decide +kernel)) ggX6_orders_X6_orderBy
set_option maxRecDepth 20000 in
theorem ggX6_orders_X6_areSo : GoodIn wsX6_orders wsX6_areSo := goodIn_r _ [20, 21, 22, 23, 24, 25, 26, 27, 5, 28, 1, 2, 29, 30, 31, 32, 33, 34, 35, 36, 37, 38, 14, 15, 16, 39, 40, 41, 42, 43, 44, 45, 46, 47, 48, 49, 50, 51, 52, 53, 54, 55, 56, 57, 58, 59, 60, 61, 62, 63, 64, 65, 66, 67, 68, 69, 70, 71, 72, 73] (by decide +kernel) (by decide +kernel)
set_option maxRecDepth 20000 in
theorem gX6_orders_X6_areSo : GoodIn wsX6_orders (wsV RX6 198 RX6 yX6_areSo wsX6_areSo) := goodIn_app (goodIn_of _ (by decide +kernel)) ggX6_orders_X6_areSo
theorem dX6_orders_0 : decode cX6_orders 0 = .ok (.iload_n 1, 1) := by decide +kernel
theorem dX6_orders_1 : decode cX6_orders 1 = .ok (.iconst (-1), 1) := by decide +kernel
theorem dX6_orders_2 : decode cX6_orders 2 = .ok (.iconst 5, 1) := by decide +kernel
theorem dX6_orders_3 : decode cX6_orders 3 = .ok (.invokestatic 52, 3) := by decide +kernel
theorem dX6_orders_6 : decode cX6_orders 6 = .ok (.ifCond .ne 6, 3) := by decide +kernel
theorem dX6_orders_9 : decode cX6_orders 9 = .ok (.bipush (-2), 2) := by decide +kernel
theorem dX6_orders_11 : decode cX6_orders 11 = .ok (.ireturn, 1) := by decide +kernel
theorem dX6_orders_12 : decode cX6_orders 12 = .ok (.aload_n 0, 1) := by decide +kernel
theorem dX6_orders_13 : decode cX6_orders 13 = .ok (.getfield 56, 3) := by decide +kernel
theorem dX6_orders_16 : decode cX6_orders 16 = .ok (.ifCond .ne 6, 3) := by decide +kernel
theorem dX6_orders_19 : decode cX6_orders 19 = .ok (.bipush (-3), 2) := by decide +kernel
theorem dX6_orders_21 : decode cX6_orders 21 = .ok (.ireturn, 1) := by decide +kernel
theorem dX6_orders_22 : decode cX6_orders 22 = .ok (.iconst 0, 1) := by decide +kernel
theorem dX6_orders_23 : decode cX6_orders 23 = .ok (.istore_n 2, 1) := by decide +kernel
theorem dX6_orders_24 : decode cX6_orders 24 = .ok (.bipush (-9), 2) := by decide +kernel
theorem dX6_orders_26 : decode cX6_orders 26 = .ok (.istore_n 3, 1) := by decide +kernel
theorem dX6_orders_27 : decode cX6_orders 27 = .ok (.iconst 0, 1) := by decide +kernel
theorem dX6_orders_28 : decode cX6_orders 28 = .ok (.istore 4, 2) := by decide +kernel
theorem dX6_orders_30 : decode cX6_orders 30 = .ok (.iload 4, 2) := by decide +kernel
theorem dX6_orders_32 : decode cX6_orders 32 = .ok (.aload_n 0, 1) := by decide +kernel
theorem dX6_orders_33 : decode cX6_orders 33 = .ok (.getfield 56, 3) := by decide +kernel
theorem dX6_orders_36 : decode cX6_orders 36 = .ok (.invokestatic 191, 3) := by decide +kernel
theorem dX6_orders_39 : decode cX6_orders 39 = .ok (.if_icmp .ge 52, 3) := by decide +kernel
theorem dX6_orders_42 : decode cX6_orders 42 = .ok (.aload_n 0, 1) := by decide +kernel
theorem dX6_orders_43 : decode cX6_orders 43 = .ok (.iload 4, 2) := by decide +kernel
theorem dX6_orders_45 : decode cX6_orders 45 = .ok (.invokevirtual 194, 3) := by decide +kernel
theorem dX6_orders_48 : decode cX6_orders 48 = .ok (.aload_n 0, 1) := by decide +kernel
theorem dX6_orders_49 : decode cX6_orders 49 = .ok (.invokevirtual 198, 3) := by decide +kernel
theorem dX6_orders_52 : decode cX6_orders 52 = .ok (.ifCond .eq 33, 3) := by decide +kernel
theorem dX6_orders_55 : decode cX6_orders 55 = .ok (.iload_n 2, 1) := by decide +kernel
theorem dX6_orders_56 : decode cX6_orders 56 = .ok (.ifCond .ne 24, 3) := by decide +kernel
theorem dX6_orders_59 : decode cX6_orders 59 = .ok (.iload_n 1, 1) := by decide +kernel
theorem dX6_orders_60 : decode cX6_orders 60 = .ok (.ifCond .lt 20, 3) := by decide +kernel
theorem dX6_orders_63 : decode cX6_orders 63 = .ok (.iload_n 1, 1) := by decide +kernel
theorem dX6_orders_64 : decode cX6_orders 64 = .ok (.aload_n 0, 1) := by decide +kernel
theorem dX6_orders_65 : decode cX6_orders 65 = .ok (.getfield 56, 3) := by decide +kernel
theorem dX6_orders_68 : decode cX6_orders 68 = .ok (.if_icmp .ge 12, 3) := by decide +kernel
theorem dX6_orders_71 : decode cX6_orders 71 = .ok (.aload_n 0, 1) := by decide +kernel
theorem dX6_orders_72 : decode cX6_orders 72 = .ok (.getfield 31, 3) := by decide +kernel
theorem dX6_orders_75 : decode cX6_orders 75 = .ok (.iload_n 1, 1) := by decide +kernel
theorem dX6_orders_76 : decode cX6_orders 76 = .ok (.iaload, 1) := by decide +kernel
theorem dX6_orders_77 : decode cX6_orders 77 = .ok (.goto 4, 3) := by decide +kernel
theorem dX6_orders_80 : decode cX6_orders 80 = .ok (.iload_n 3, 1) := by decide +kernel
theorem dX6_orders_81 : decode cX6_orders 81 = .ok (.istore_n 3, 1) := by decide +kernel
theorem dX6_orders_82 : decode cX6_orders 82 = .ok (.iinc 2 1, 3) := by decide +kernel
theorem dX6_orders_85 : decode cX6_orders 85 = .ok (.iinc 4 1, 3) := by decide +kernel
theorem dX6_orders_88 : decode cX6_orders 88 = .ok (.goto (-58), 3) := by decide +kernel
theorem dX6_orders_91 : decode cX6_orders 91 = .ok (.iload_n 1, 1) := by decide +kernel
theorem dX6_orders_92 : decode cX6_orders 92 = .ok (.iconst (-1), 1) := by decide +kernel
theorem dX6_orders_93 : decode cX6_orders 93 = .ok (.if_icmp .ne 7, 3) := by decide +kernel
theorem dX6_orders_96 : decode cX6_orders 96 = .ok (.iload_n 2, 1) := by decide +kernel
theorem dX6_orders_97 : decode cX6_orders 97 = .ok (.goto 4, 3) := by decide +kernel
theorem dX6_orders_100 : decode cX6_orders 100 = .ok (.iload_n 3, 1) := by decide +kernel
theorem dX6_orders_101 : decode cX6_orders 101 = .ok (.ireturn, 1) := by decide +kernel
set_option maxRecDepth 20000 in
theorem ggX6_holds_X6_isLayer : GoodIn wsX6_holds wsX6_isLayer := goodIn_r _ [6, 7, 46, 47, 48, 49, 50, 51, 52, 53, 54, 55, 56, 57, 58, 59, 60, 61, 62, 63, 64, 65, 66, 67, 68, 69, 70, 71] (by decide +kernel) (by decide +kernel)
set_option maxRecDepth 20000 in
theorem gX6_holds_X6_isLayer : GoodIn wsX6_holds (wsV RX6 131 RX6 yX6_isLayer wsX6_isLayer) := goodIn_app (goodIn_of _ (by decide +kernel)) ggX6_holds_X6_isLayer
set_option maxRecDepth 20000 in
theorem ggX6_holds_X6_orderAsIs : GoodIn wsX6_holds wsX6_orderAsIs := goodIn_r _ [11, 7, 12, 46, 47, 48, 49, 50, 51, 52, 53, 54, 55, 56, 57, 58, 59, 60, 61, 62, 63, 64, 65, 66, 67, 68, 69, 70, 71] (by decide +kernel) (by decide +kernel)
set_option maxRecDepth 20000 in
theorem gX6_holds_X6_orderAsIs : GoodIn wsX6_holds (wsV RX6 128 RX6 yX6_orderAsIs wsX6_orderAsIs) := goodIn_app (goodIn_of _ (by decide +kernel)) ggX6_holds_X6_orderAsIs
set_option maxRecDepth 20000 in
theorem ggX6_holds_X6_areSo : GoodIn wsX6_holds wsX6_areSo := goodIn_r _ [16, 17, 18, 19, 20, 21, 22, 23, 5, 24, 7, 12, 25, 26, 27, 28, 29, 30, 31, 32, 33, 34, 35, 36, 37, 38, 39, 40, 41, 1, 42, 43, 44, 45, 46, 47, 48, 49, 50, 51, 52, 53, 54, 55, 56, 57, 58, 59, 60, 61, 62, 63, 64, 65, 66, 67, 68, 69, 70, 71] (by decide +kernel) (by decide +kernel)
set_option maxRecDepth 20000 in
theorem gX6_holds_X6_areSo : GoodIn wsX6_holds (wsV RX6 198 RX6 yX6_areSo wsX6_areSo) := goodIn_app (goodIn_of _ (by decide +kernel)) ggX6_holds_X6_areSo
theorem dX6_holds_0 : decode cX6_holds 0 = .ok (.aload_n 0, 1) := by decide +kernel
theorem dX6_holds_1 : decode cX6_holds 1 = .ok (.iload_n 1, 1) := by decide +kernel
theorem dX6_holds_2 : decode cX6_holds 2 = .ok (.invokevirtual 131, 3) := by decide +kernel
theorem dX6_holds_5 : decode cX6_holds 5 = .ok (.ifCond .ne 5, 3) := by decide +kernel
theorem dX6_holds_8 : decode cX6_holds 8 = .ok (.iconst (-1), 1) := by decide +kernel
theorem dX6_holds_9 : decode cX6_holds 9 = .ok (.ireturn, 1) := by decide +kernel
theorem dX6_holds_10 : decode cX6_holds 10 = .ok (.aload_n 0, 1) := by decide +kernel
theorem dX6_holds_11 : decode cX6_holds 11 = .ok (.invokevirtual 128, 3) := by decide +kernel
theorem dX6_holds_14 : decode cX6_holds 14 = .ok (.aload_n 0, 1) := by decide +kernel
theorem dX6_holds_15 : decode cX6_holds 15 = .ok (.getfield 22, 3) := by decide +kernel
theorem dX6_holds_18 : decode cX6_holds 18 = .ok (.iload_n 1, 1) := by decide +kernel
theorem dX6_holds_19 : decode cX6_holds 19 = .ok (.iaload, 1) := by decide +kernel
theorem dX6_holds_20 : decode cX6_holds 20 = .ok (.istore_n 2, 1) := by decide +kernel
theorem dX6_holds_21 : decode cX6_holds 21 = .ok (.iconst 0, 1) := by decide +kernel
theorem dX6_holds_22 : decode cX6_holds 22 = .ok (.istore_n 3, 1) := by decide +kernel
theorem dX6_holds_23 : decode cX6_holds 23 = .ok (.iconst 0, 1) := by decide +kernel
theorem dX6_holds_24 : decode cX6_holds 24 = .ok (.istore 4, 2) := by decide +kernel
theorem dX6_holds_26 : decode cX6_holds 26 = .ok (.iload 4, 2) := by decide +kernel
theorem dX6_holds_28 : decode cX6_holds 28 = .ok (.bipush 9, 2) := by decide +kernel
theorem dX6_holds_30 : decode cX6_holds 30 = .ok (.if_icmp .gt 35, 3) := by decide +kernel
theorem dX6_holds_33 : decode cX6_holds 33 = .ok (.aload_n 0, 1) := by decide +kernel
theorem dX6_holds_34 : decode cX6_holds 34 = .ok (.getfield 22, 3) := by decide +kernel
theorem dX6_holds_37 : decode cX6_holds 37 = .ok (.iload_n 1, 1) := by decide +kernel
theorem dX6_holds_38 : decode cX6_holds 38 = .ok (.iload 4, 2) := by decide +kernel
theorem dX6_holds_40 : decode cX6_holds 40 = .ok (.iastore, 1) := by decide +kernel
theorem dX6_holds_41 : decode cX6_holds 41 = .ok (.iload_n 3, 1) := by decide +kernel
theorem dX6_holds_42 : decode cX6_holds 42 = .ok (.aload_n 0, 1) := by decide +kernel
theorem dX6_holds_43 : decode cX6_holds 43 = .ok (.invokevirtual 198, 3) := by decide +kernel
theorem dX6_holds_46 : decode cX6_holds 46 = .ok (.ifCond .eq 10, 3) := by decide +kernel
theorem dX6_holds_49 : decode cX6_holds 49 = .ok (.iconst 1, 1) := by decide +kernel
theorem dX6_holds_50 : decode cX6_holds 50 = .ok (.iload 4, 2) := by decide +kernel
theorem dX6_holds_52 : decode cX6_holds 52 = .ok (.ishl, 1) := by decide +kernel
theorem dX6_holds_53 : decode cX6_holds 53 = .ok (.goto 4, 3) := by decide +kernel
theorem dX6_holds_56 : decode cX6_holds 56 = .ok (.iconst 0, 1) := by decide +kernel
theorem dX6_holds_57 : decode cX6_holds 57 = .ok (.ior, 1) := by decide +kernel
theorem dX6_holds_58 : decode cX6_holds 58 = .ok (.istore_n 3, 1) := by decide +kernel
theorem dX6_holds_59 : decode cX6_holds 59 = .ok (.iinc 4 1, 3) := by decide +kernel
theorem dX6_holds_62 : decode cX6_holds 62 = .ok (.goto (-36), 3) := by decide +kernel
theorem dX6_holds_65 : decode cX6_holds 65 = .ok (.aload_n 0, 1) := by decide +kernel
theorem dX6_holds_66 : decode cX6_holds 66 = .ok (.getfield 22, 3) := by decide +kernel
theorem dX6_holds_69 : decode cX6_holds 69 = .ok (.iload_n 1, 1) := by decide +kernel
theorem dX6_holds_70 : decode cX6_holds 70 = .ok (.iload_n 2, 1) := by decide +kernel
theorem dX6_holds_71 : decode cX6_holds 71 = .ok (.iastore, 1) := by decide +kernel
theorem dX6_holds_72 : decode cX6_holds 72 = .ok (.iload_n 3, 1) := by decide +kernel
theorem dX6_holds_73 : decode cX6_holds 73 = .ok (.ireturn, 1) := by decide +kernel
set_option maxRecDepth 20000 in
theorem ggX6_advices_X6_isLayer : GoodIn wsX6_advices wsX6_isLayer := goodIn_r _ [6, 7, 46, 47, 48, 49, 50, 51, 52, 53, 54, 55, 56, 57, 58, 59, 60, 61, 62, 63, 64, 65, 66, 67, 68, 69, 70, 71] (by decide +kernel) (by decide +kernel)
set_option maxRecDepth 20000 in
theorem gX6_advices_X6_isLayer : GoodIn wsX6_advices (wsV RX6 131 RX6 yX6_isLayer wsX6_isLayer) := goodIn_app (goodIn_of _ (by decide +kernel)) ggX6_advices_X6_isLayer
set_option maxRecDepth 20000 in
theorem ggX6_advices_X6_orderAsIs : GoodIn wsX6_advices wsX6_orderAsIs := goodIn_r _ [11, 7, 12, 46, 47, 48, 49, 50, 51, 52, 53, 54, 55, 56, 57, 58, 59, 60, 61, 62, 63, 64, 65, 66, 67, 68, 69, 70, 71] (by decide +kernel) (by decide +kernel)
set_option maxRecDepth 20000 in
theorem gX6_advices_X6_orderAsIs : GoodIn wsX6_advices (wsV RX6 128 RX6 yX6_orderAsIs wsX6_orderAsIs) := goodIn_app (goodIn_of _ (by decide +kernel)) ggX6_advices_X6_orderAsIs
set_option maxRecDepth 20000 in
theorem ggX6_advices_X6_areSo : GoodIn wsX6_advices wsX6_areSo := goodIn_r _ [16, 17, 18, 19, 20, 21, 22, 23, 5, 24, 7, 12, 1, 25, 26, 27, 28, 29, 30, 31, 32, 33, 34, 35, 36, 37, 38, 39, 40, 41, 42, 43, 44, 45, 46, 47, 48, 49, 50, 51, 52, 53, 54, 55, 56, 57, 58, 59, 60, 61, 62, 63, 64, 65, 66, 67, 68, 69, 70, 71] (by decide +kernel) (by decide +kernel)
set_option maxRecDepth 20000 in
theorem gX6_advices_X6_areSo : GoodIn wsX6_advices (wsV RX6 198 RX6 yX6_areSo wsX6_areSo) := goodIn_app (goodIn_of _ (by decide +kernel)) ggX6_advices_X6_areSo
theorem dX6_advices_0 : decode cX6_advices 0 = .ok (.aload_n 0, 1) := by decide +kernel
theorem dX6_advices_1 : decode cX6_advices 1 = .ok (.iload_n 1, 1) := by decide +kernel
theorem dX6_advices_2 : decode cX6_advices 2 = .ok (.invokevirtual 131, 3) := by decide +kernel
theorem dX6_advices_5 : decode cX6_advices 5 = .ok (.ifCond .ne 5, 3) := by decide +kernel
theorem dX6_advices_8 : decode cX6_advices 8 = .ok (.iconst (-1), 1) := by decide +kernel
theorem dX6_advices_9 : decode cX6_advices 9 = .ok (.ireturn, 1) := by decide +kernel
theorem dX6_advices_10 : decode cX6_advices 10 = .ok (.aload_n 0, 1) := by decide +kernel
theorem dX6_advices_11 : decode cX6_advices 11 = .ok (.invokevirtual 128, 3) := by decide +kernel
theorem dX6_advices_14 : decode cX6_advices 14 = .ok (.aload_n 0, 1) := by decide +kernel
theorem dX6_advices_15 : decode cX6_advices 15 = .ok (.getfield 25, 3) := by decide +kernel
theorem dX6_advices_18 : decode cX6_advices 18 = .ok (.iload_n 1, 1) := by decide +kernel
theorem dX6_advices_19 : decode cX6_advices 19 = .ok (.iaload, 1) := by decide +kernel
theorem dX6_advices_20 : decode cX6_advices 20 = .ok (.istore_n 2, 1) := by decide +kernel
theorem dX6_advices_21 : decode cX6_advices 21 = .ok (.iconst 0, 1) := by decide +kernel
theorem dX6_advices_22 : decode cX6_advices 22 = .ok (.istore_n 3, 1) := by decide +kernel
theorem dX6_advices_23 : decode cX6_advices 23 = .ok (.iconst 0, 1) := by decide +kernel
theorem dX6_advices_24 : decode cX6_advices 24 = .ok (.istore 4, 2) := by decide +kernel
theorem dX6_advices_26 : decode cX6_advices 26 = .ok (.iload 4, 2) := by decide +kernel
theorem dX6_advices_28 : decode cX6_advices 28 = .ok (.bipush 9, 2) := by decide +kernel
theorem dX6_advices_30 : decode cX6_advices 30 = .ok (.if_icmp .gt 35, 3) := by decide +kernel
theorem dX6_advices_33 : decode cX6_advices 33 = .ok (.aload_n 0, 1) := by decide +kernel
theorem dX6_advices_34 : decode cX6_advices 34 = .ok (.getfield 25, 3) := by decide +kernel
theorem dX6_advices_37 : decode cX6_advices 37 = .ok (.iload_n 1, 1) := by decide +kernel
theorem dX6_advices_38 : decode cX6_advices 38 = .ok (.iload 4, 2) := by decide +kernel
theorem dX6_advices_40 : decode cX6_advices 40 = .ok (.iastore, 1) := by decide +kernel
theorem dX6_advices_41 : decode cX6_advices 41 = .ok (.iload_n 3, 1) := by decide +kernel
theorem dX6_advices_42 : decode cX6_advices 42 = .ok (.aload_n 0, 1) := by decide +kernel
theorem dX6_advices_43 : decode cX6_advices 43 = .ok (.invokevirtual 198, 3) := by decide +kernel
theorem dX6_advices_46 : decode cX6_advices 46 = .ok (.ifCond .eq 10, 3) := by decide +kernel
theorem dX6_advices_49 : decode cX6_advices 49 = .ok (.iconst 1, 1) := by decide +kernel
theorem dX6_advices_50 : decode cX6_advices 50 = .ok (.iload 4, 2) := by decide +kernel
theorem dX6_advices_52 : decode cX6_advices 52 = .ok (.ishl, 1) := by decide +kernel
theorem dX6_advices_53 : decode cX6_advices 53 = .ok (.goto 4, 3) := by decide +kernel
theorem dX6_advices_56 : decode cX6_advices 56 = .ok (.iconst 0, 1) := by decide +kernel
theorem dX6_advices_57 : decode cX6_advices 57 = .ok (.ior, 1) := by decide +kernel
theorem dX6_advices_58 : decode cX6_advices 58 = .ok (.istore_n 3, 1) := by decide +kernel
theorem dX6_advices_59 : decode cX6_advices 59 = .ok (.iinc 4 1, 3) := by decide +kernel
theorem dX6_advices_62 : decode cX6_advices 62 = .ok (.goto (-36), 3) := by decide +kernel
theorem dX6_advices_65 : decode cX6_advices 65 = .ok (.aload_n 0, 1) := by decide +kernel
theorem dX6_advices_66 : decode cX6_advices 66 = .ok (.getfield 25, 3) := by decide +kernel
theorem dX6_advices_69 : decode cX6_advices 69 = .ok (.iload_n 1, 1) := by decide +kernel
theorem dX6_advices_70 : decode cX6_advices 70 = .ok (.iload_n 2, 1) := by decide +kernel
theorem dX6_advices_71 : decode cX6_advices 71 = .ok (.iastore, 1) := by decide +kernel
theorem dX6_advices_72 : decode cX6_advices 72 = .ok (.iload_n 3, 1) := by decide +kernel
theorem dX6_advices_73 : decode cX6_advices 73 = .ok (.ireturn, 1) := by decide +kernel
set_option maxRecDepth 20000 in
theorem ggX6_kinds_X6_isLayer : GoodIn wsX6_kinds wsX6_isLayer := goodIn_r _ [6, 7, 46, 47, 48, 49, 50, 51, 52, 53, 54, 55, 56, 57, 58, 59, 60, 61, 62, 63, 64, 65, 66, 67, 68, 69, 70, 71] (by decide +kernel) (by decide +kernel)
set_option maxRecDepth 20000 in
theorem gX6_kinds_X6_isLayer : GoodIn wsX6_kinds (wsV RX6 131 RX6 yX6_isLayer wsX6_isLayer) := goodIn_app (goodIn_of _ (by decide +kernel)) ggX6_kinds_X6_isLayer
set_option maxRecDepth 20000 in
theorem ggX6_kinds_X6_orderAsIs : GoodIn wsX6_kinds wsX6_orderAsIs := goodIn_r _ [11, 7, 12, 46, 47, 48, 49, 50, 51, 52, 53, 54, 55, 56, 57, 58, 59, 60, 61, 62, 63, 64, 65, 66, 67, 68, 69, 70, 71] (by decide +kernel) (by decide +kernel)
set_option maxRecDepth 20000 in
theorem gX6_kinds_X6_orderAsIs : GoodIn wsX6_kinds (wsV RX6 128 RX6 yX6_orderAsIs wsX6_orderAsIs) := goodIn_app (goodIn_of _ (by decide +kernel)) ggX6_kinds_X6_orderAsIs
set_option maxRecDepth 20000 in
theorem ggX6_kinds_X6_areSo : GoodIn wsX6_kinds wsX6_areSo := goodIn_r _ [16, 17, 18, 19, 20, 21, 22, 23, 5, 24, 7, 12, 25, 26, 27, 28, 29, 1, 30, 31, 32, 33, 34, 35, 36, 37, 38, 39, 40, 41, 42, 43, 44, 45, 46, 47, 48, 49, 50, 51, 52, 53, 54, 55, 56, 57, 58, 59, 60, 61, 62, 63, 64, 65, 66, 67, 68, 69, 70, 71] (by decide +kernel) (by decide +kernel)
set_option maxRecDepth 20000 in
theorem gX6_kinds_X6_areSo : GoodIn wsX6_kinds (wsV RX6 198 RX6 yX6_areSo wsX6_areSo) := goodIn_app (goodIn_of _ (by decide +kernel)) ggX6_kinds_X6_areSo
theorem dX6_kinds_0 : decode cX6_kinds 0 = .ok (.aload_n 0, 1) := by decide +kernel
theorem dX6_kinds_1 : decode cX6_kinds 1 = .ok (.iload_n 1, 1) := by decide +kernel
theorem dX6_kinds_2 : decode cX6_kinds 2 = .ok (.invokevirtual 131, 3) := by decide +kernel
theorem dX6_kinds_5 : decode cX6_kinds 5 = .ok (.ifCond .ne 5, 3) := by decide +kernel
theorem dX6_kinds_8 : decode cX6_kinds 8 = .ok (.iconst (-1), 1) := by decide +kernel
theorem dX6_kinds_9 : decode cX6_kinds 9 = .ok (.ireturn, 1) := by decide +kernel
theorem dX6_kinds_10 : decode cX6_kinds 10 = .ok (.aload_n 0, 1) := by decide +kernel
theorem dX6_kinds_11 : decode cX6_kinds 11 = .ok (.invokevirtual 128, 3) := by decide +kernel
theorem dX6_kinds_14 : decode cX6_kinds 14 = .ok (.aload_n 0, 1) := by decide +kernel
theorem dX6_kinds_15 : decode cX6_kinds 15 = .ok (.getfield 19, 3) := by decide +kernel
theorem dX6_kinds_18 : decode cX6_kinds 18 = .ok (.iload_n 1, 1) := by decide +kernel
theorem dX6_kinds_19 : decode cX6_kinds 19 = .ok (.iaload, 1) := by decide +kernel
theorem dX6_kinds_20 : decode cX6_kinds 20 = .ok (.istore_n 2, 1) := by decide +kernel
theorem dX6_kinds_21 : decode cX6_kinds 21 = .ok (.iconst 0, 1) := by decide +kernel
theorem dX6_kinds_22 : decode cX6_kinds 22 = .ok (.istore_n 3, 1) := by decide +kernel
theorem dX6_kinds_23 : decode cX6_kinds 23 = .ok (.iconst 0, 1) := by decide +kernel
theorem dX6_kinds_24 : decode cX6_kinds 24 = .ok (.istore 4, 2) := by decide +kernel
theorem dX6_kinds_26 : decode cX6_kinds 26 = .ok (.iload 4, 2) := by decide +kernel
theorem dX6_kinds_28 : decode cX6_kinds 28 = .ok (.iconst 3, 1) := by decide +kernel
theorem dX6_kinds_29 : decode cX6_kinds 29 = .ok (.if_icmp .ge 35, 3) := by decide +kernel
theorem dX6_kinds_32 : decode cX6_kinds 32 = .ok (.aload_n 0, 1) := by decide +kernel
theorem dX6_kinds_33 : decode cX6_kinds 33 = .ok (.getfield 19, 3) := by decide +kernel
theorem dX6_kinds_36 : decode cX6_kinds 36 = .ok (.iload_n 1, 1) := by decide +kernel
theorem dX6_kinds_37 : decode cX6_kinds 37 = .ok (.iload 4, 2) := by decide +kernel
theorem dX6_kinds_39 : decode cX6_kinds 39 = .ok (.iastore, 1) := by decide +kernel
theorem dX6_kinds_40 : decode cX6_kinds 40 = .ok (.iload_n 3, 1) := by decide +kernel
theorem dX6_kinds_41 : decode cX6_kinds 41 = .ok (.aload_n 0, 1) := by decide +kernel
theorem dX6_kinds_42 : decode cX6_kinds 42 = .ok (.invokevirtual 198, 3) := by decide +kernel
theorem dX6_kinds_45 : decode cX6_kinds 45 = .ok (.ifCond .eq 10, 3) := by decide +kernel
theorem dX6_kinds_48 : decode cX6_kinds 48 = .ok (.iconst 1, 1) := by decide +kernel
theorem dX6_kinds_49 : decode cX6_kinds 49 = .ok (.iload 4, 2) := by decide +kernel
theorem dX6_kinds_51 : decode cX6_kinds 51 = .ok (.ishl, 1) := by decide +kernel
theorem dX6_kinds_52 : decode cX6_kinds 52 = .ok (.goto 4, 3) := by decide +kernel
theorem dX6_kinds_55 : decode cX6_kinds 55 = .ok (.iconst 0, 1) := by decide +kernel
theorem dX6_kinds_56 : decode cX6_kinds 56 = .ok (.ior, 1) := by decide +kernel
theorem dX6_kinds_57 : decode cX6_kinds 57 = .ok (.istore_n 3, 1) := by decide +kernel
theorem dX6_kinds_58 : decode cX6_kinds 58 = .ok (.iinc 4 1, 3) := by decide +kernel
theorem dX6_kinds_61 : decode cX6_kinds 61 = .ok (.goto (-35), 3) := by decide +kernel
theorem dX6_kinds_64 : decode cX6_kinds 64 = .ok (.aload_n 0, 1) := by decide +kernel
theorem dX6_kinds_65 : decode cX6_kinds 65 = .ok (.getfield 19, 3) := by decide +kernel
theorem dX6_kinds_68 : decode cX6_kinds 68 = .ok (.iload_n 1, 1) := by decide +kernel
theorem dX6_kinds_69 : decode cX6_kinds 69 = .ok (.iload_n 2, 1) := by decide +kernel
theorem dX6_kinds_70 : decode cX6_kinds 70 = .ok (.iastore, 1) := by decide +kernel
theorem dX6_kinds_71 : decode cX6_kinds 71 = .ok (.iload_n 3, 1) := by decide +kernel
theorem dX6_kinds_72 : decode cX6_kinds 72 = .ok (.ireturn, 1) := by decide +kernel
theorem dX6_inLeastTerms_0 : decode cX6_inLeastTerms 0 = .ok (.lload_n 0, 1) := by decide +kernel
theorem dX6_inLeastTerms_1 : decode cX6_inLeastTerms 1 = .ok (.lstore 5, 2) := by decide +kernel
theorem dX6_inLeastTerms_3 : decode cX6_inLeastTerms 3 = .ok (.lload_n 2, 1) := by decide +kernel
theorem dX6_inLeastTerms_4 : decode cX6_inLeastTerms 4 = .ok (.lstore 7, 2) := by decide +kernel
theorem dX6_inLeastTerms_6 : decode cX6_inLeastTerms 6 = .ok (.lload 7, 2) := by decide +kernel
theorem dX6_inLeastTerms_8 : decode cX6_inLeastTerms 8 = .ok (.lconst 0, 1) := by decide +kernel
theorem dX6_inLeastTerms_9 : decode cX6_inLeastTerms 9 = .ok (.lcmp, 1) := by decide +kernel
theorem dX6_inLeastTerms_10 : decode cX6_inLeastTerms 10 = .ok (.ifCond .eq 21, 3) := by decide +kernel
theorem dX6_inLeastTerms_13 : decode cX6_inLeastTerms 13 = .ok (.lload 5, 2) := by decide +kernel
theorem dX6_inLeastTerms_15 : decode cX6_inLeastTerms 15 = .ok (.lload 7, 2) := by decide +kernel
theorem dX6_inLeastTerms_17 : decode cX6_inLeastTerms 17 = .ok (.lrem, 1) := by decide +kernel
theorem dX6_inLeastTerms_18 : decode cX6_inLeastTerms 18 = .ok (.lstore 9, 2) := by decide +kernel
theorem dX6_inLeastTerms_20 : decode cX6_inLeastTerms 20 = .ok (.lload 7, 2) := by decide +kernel
theorem dX6_inLeastTerms_22 : decode cX6_inLeastTerms 22 = .ok (.lstore 5, 2) := by decide +kernel
theorem dX6_inLeastTerms_24 : decode cX6_inLeastTerms 24 = .ok (.lload 9, 2) := by decide +kernel
theorem dX6_inLeastTerms_26 : decode cX6_inLeastTerms 26 = .ok (.lstore 7, 2) := by decide +kernel
theorem dX6_inLeastTerms_28 : decode cX6_inLeastTerms 28 = .ok (.goto (-22), 3) := by decide +kernel
theorem dX6_inLeastTerms_31 : decode cX6_inLeastTerms 31 = .ok (.iload 4, 2) := by decide +kernel
theorem dX6_inLeastTerms_33 : decode cX6_inLeastTerms 33 = .ok (.ifCond .ne 10, 3) := by decide +kernel
theorem dX6_inLeastTerms_36 : decode cX6_inLeastTerms 36 = .ok (.lload_n 0, 1) := by decide +kernel
theorem dX6_inLeastTerms_37 : decode cX6_inLeastTerms 37 = .ok (.lload 5, 2) := by decide +kernel
theorem dX6_inLeastTerms_39 : decode cX6_inLeastTerms 39 = .ok (.ldiv, 1) := by decide +kernel
theorem dX6_inLeastTerms_40 : decode cX6_inLeastTerms 40 = .ok (.goto 7, 3) := by decide +kernel
theorem dX6_inLeastTerms_43 : decode cX6_inLeastTerms 43 = .ok (.lload_n 2, 1) := by decide +kernel
theorem dX6_inLeastTerms_44 : decode cX6_inLeastTerms 44 = .ok (.lload 5, 2) := by decide +kernel
theorem dX6_inLeastTerms_46 : decode cX6_inLeastTerms 46 = .ok (.ldiv, 1) := by decide +kernel
theorem dX6_inLeastTerms_47 : decode cX6_inLeastTerms 47 = .ok (.lreturn, 1) := by decide +kernel
set_option maxRecDepth 20000 in
theorem ggX6_odds_X6_isLayer : GoodIn wsX6_odds wsX6_isLayer := goodIn_r _ [8, 9, 38, 39, 40, 41, 42, 43, 44, 45, 46, 47, 48, 49, 50, 51, 52, 53, 54, 55, 56, 57, 58, 59, 60, 61, 62, 63] (by decide +kernel) (by decide +kernel)
set_option maxRecDepth 20000 in
theorem gX6_odds_X6_isLayer : GoodIn wsX6_odds (wsV RX6 131 RX6 yX6_isLayer wsX6_isLayer) := goodIn_app (goodIn_of _ (by decide +kernel)) ggX6_odds_X6_isLayer
set_option maxRecDepth 20000 in
theorem ggX6_odds_X6_within : GoodIn wsX6_odds wsX6_within := goodIn_r _ [12] (by decide +kernel) (by decide +kernel)
set_option maxRecDepth 20000 in
theorem gX6_odds_X6_within : GoodIn wsX6_odds (va_wsS RX6 52 yX6_within wsX6_within) := goodIn_app (goodIn_of _ (by decide +kernel)) ggX6_odds_X6_within
set_option maxRecDepth 20000 in
theorem ggX6_odds_X6_orderAsIs : GoodIn wsX6_odds wsX6_orderAsIs := goodIn_r _ [16, 9, 17, 38, 39, 40, 41, 42, 43, 44, 45, 46, 47, 48, 49, 50, 51, 52, 53, 54, 55, 56, 57, 58, 59, 60, 61, 62, 63] (by decide +kernel) (by decide +kernel)
set_option maxRecDepth 20000 in
theorem gX6_odds_X6_orderAsIs : GoodIn wsX6_odds (wsV RX6 128 RX6 yX6_orderAsIs wsX6_orderAsIs) := goodIn_app (goodIn_of _ (by decide +kernel)) ggX6_odds_X6_orderAsIs
set_option maxRecDepth 20000 in
theorem ggX6_odds_X6_heardBy : GoodIn wsX6_odds wsX6_heardBy := goodIn_r _ [21, 9, 17, 22, 23, 24, 25, 7, 26, 27, 28, 29, 30, 31, 32, 33, 34, 38, 39, 40, 41, 42, 43, 44, 45, 46, 47, 48, 49, 50, 51, 52, 53, 54, 55, 56, 57, 58, 59, 60, 61, 62, 63] (by decide +kernel) (by decide +kernel)
set_option maxRecDepth 20000 in
theorem gX6_odds_X6_heardBy : GoodIn wsX6_odds (wsV RX6 121 RX6 yX6_heardBy wsX6_heardBy) := goodIn_app (goodIn_of _ (by decide +kernel)) ggX6_odds_X6_heardBy
set_option maxRecDepth 20000 in
theorem ggX6_odds_X6_inLeastTerms : GoodIn wsX6_odds wsX6_inLeastTerms := goodIn_r _ [37] (by decide +kernel) (by decide +kernel)
set_option maxRecDepth 20000 in
theorem gX6_odds_X6_inLeastTerms : GoodIn wsX6_odds (va_wsS RX6 203 yX6_inLeastTerms wsX6_inLeastTerms) := goodIn_app (goodIn_of _ (by decide +kernel)) ggX6_odds_X6_inLeastTerms
theorem dX6_odds_0 : decode cX6_odds 0 = .ok (.aload_n 0, 1) := by decide +kernel
theorem dX6_odds_1 : decode cX6_odds 1 = .ok (.iload_n 1, 1) := by decide +kernel
theorem dX6_odds_2 : decode cX6_odds 2 = .ok (.invokevirtual 131, 3) := by decide +kernel
theorem dX6_odds_5 : decode cX6_odds 5 = .ok (.ifCond .eq 12, 3) := by decide +kernel
theorem dX6_odds_8 : decode cX6_odds 8 = .ok (.iload_n 2, 1) := by decide +kernel
theorem dX6_odds_9 : decode cX6_odds 9 = .ok (.iconst 0, 1) := by decide +kernel
theorem dX6_odds_10 : decode cX6_odds 10 = .ok (.iconst 1, 1) := by decide +kernel
theorem dX6_odds_11 : decode cX6_odds 11 = .ok (.invokestatic 52, 3) := by decide +kernel
theorem dX6_odds_14 : decode cX6_odds 14 = .ok (.ifCond .ne 7, 3) := by decide +kernel
theorem dX6_odds_17 : decode cX6_odds 17 = .ok (.ldc2_w 50, 3) := by decide +kernel
theorem dX6_odds_20 : decode cX6_odds 20 = .ok (.lreturn, 1) := by decide +kernel
theorem dX6_odds_21 : decode cX6_odds 21 = .ok (.aload_n 0, 1) := by decide +kernel
theorem dX6_odds_22 : decode cX6_odds 22 = .ok (.invokevirtual 128, 3) := by decide +kernel
theorem dX6_odds_25 : decode cX6_odds 25 = .ok (.iconst 0, 1) := by decide +kernel
theorem dX6_odds_26 : decode cX6_odds 26 = .ok (.istore_n 3, 1) := by decide +kernel
theorem dX6_odds_27 : decode cX6_odds 27 = .ok (.iconst 0, 1) := by decide +kernel
theorem dX6_odds_28 : decode cX6_odds 28 = .ok (.istore 4, 2) := by decide +kernel
theorem dX6_odds_30 : decode cX6_odds 30 = .ok (.iload 4, 2) := by decide +kernel
theorem dX6_odds_32 : decode cX6_odds 32 = .ok (.bipush 20, 2) := by decide +kernel
theorem dX6_odds_34 : decode cX6_odds 34 = .ok (.if_icmp .gt 27, 3) := by decide +kernel
theorem dX6_odds_37 : decode cX6_odds 37 = .ok (.iload_n 3, 1) := by decide +kernel
theorem dX6_odds_38 : decode cX6_odds 38 = .ok (.aload_n 0, 1) := by decide +kernel
theorem dX6_odds_39 : decode cX6_odds 39 = .ok (.iload 4, 2) := by decide +kernel
theorem dX6_odds_41 : decode cX6_odds 41 = .ok (.aload_n 0, 1) := by decide +kernel
theorem dX6_odds_42 : decode cX6_odds 42 = .ok (.getfield 92, 3) := by decide +kernel
theorem dX6_odds_45 : decode cX6_odds 45 = .ok (.iconst 0, 1) := by decide +kernel
theorem dX6_odds_46 : decode cX6_odds 46 = .ok (.invokevirtual 121, 3) := by decide +kernel
theorem dX6_odds_49 : decode cX6_odds 49 = .ok (.iload_n 1, 1) := by decide +kernel
theorem dX6_odds_50 : decode cX6_odds 50 = .ok (.ishr, 1) := by decide +kernel
theorem dX6_odds_51 : decode cX6_odds 51 = .ok (.iconst 1, 1) := by decide +kernel
theorem dX6_odds_52 : decode cX6_odds 52 = .ok (.iand, 1) := by decide +kernel
theorem dX6_odds_53 : decode cX6_odds 53 = .ok (.iadd, 1) := by decide +kernel
theorem dX6_odds_54 : decode cX6_odds 54 = .ok (.istore_n 3, 1) := by decide +kernel
theorem dX6_odds_55 : decode cX6_odds 55 = .ok (.iinc 4 1, 3) := by decide +kernel
theorem dX6_odds_58 : decode cX6_odds 58 = .ok (.goto (-28), 3) := by decide +kernel
theorem dX6_odds_61 : decode cX6_odds 61 = .ok (.iload_n 3, 1) := by decide +kernel
theorem dX6_odds_62 : decode cX6_odds 62 = .ok (.i2l, 1) := by decide +kernel
theorem dX6_odds_63 : decode cX6_odds 63 = .ok (.ldc2_w 201, 3) := by decide +kernel
theorem dX6_odds_66 : decode cX6_odds 66 = .ok (.iload_n 2, 1) := by decide +kernel
theorem dX6_odds_67 : decode cX6_odds 67 = .ok (.invokestatic 203, 3) := by decide +kernel
theorem dX6_odds_70 : decode cX6_odds 70 = .ok (.lreturn, 1) := by decide +kernel
set_option maxRecDepth 20000 in
theorem ggX6_sheet_X6_isSheet : GoodIn wsX6_sheet wsX6_isSheet := goodIn_r _ [8, 9, 10, 7, 11] (by decide +kernel) (by decide +kernel)
set_option maxRecDepth 20000 in
theorem gX6_sheet_X6_isSheet : GoodIn wsX6_sheet (va_wsS RX6 62 yX6_isSheet wsX6_isSheet) := goodIn_app (goodIn_of _ (by decide +kernel)) ggX6_sheet_X6_isSheet
set_option maxRecDepth 20000 in
theorem ggX6_sheet_X6_isSort : GoodIn wsX6_sheet wsX6_isSort := goodIn_r _ [14, 9, 10, 7, 11] (by decide +kernel) (by decide +kernel)
set_option maxRecDepth 20000 in
theorem gX6_sheet_X6_isSort : GoodIn wsX6_sheet (va_wsS RX6 66 yX6_isSort wsX6_isSort) := goodIn_app (goodIn_of _ (by decide +kernel)) ggX6_sheet_X6_isSort
set_option maxRecDepth 20000 in
theorem ggX6_sheet_X6_fails : GoodIn wsX6_sheet wsX6_fails := goodIn_r _ [18, 1, 19, 20, 21, 22, 23, 24, 25, 26, 27, 28, 29, 30, 31, 32, 33, 34, 35, 36, 37, 38, 39, 40, 41, 42, 43, 44] (by decide +kernel) (by decide +kernel)
set_option maxRecDepth 20000 in
theorem gX6_sheet_X6_fails : GoodIn wsX6_sheet (wsV RX6 73 RX6 yX6_fails wsX6_fails) := goodIn_app (goodIn_of _ (by decide +kernel)) ggX6_sheet_X6_fails
theorem dX6_sheet_0 : decode cX6_sheet 0 = .ok (.aload_n 0, 1) := by decide +kernel
theorem dX6_sheet_1 : decode cX6_sheet 1 = .ok (.iconst 0, 1) := by decide +kernel
theorem dX6_sheet_2 : decode cX6_sheet 2 = .ok (.putfield 46, 3) := by decide +kernel
theorem dX6_sheet_5 : decode cX6_sheet 5 = .ok (.iload_n 1, 1) := by decide +kernel
theorem dX6_sheet_6 : decode cX6_sheet 6 = .ok (.invokestatic 62, 3) := by decide +kernel
theorem dX6_sheet_9 : decode cX6_sheet 9 = .ok (.ifCond .ne 5, 3) := by decide +kernel
theorem dX6_sheet_12 : decode cX6_sheet 12 = .ok (.iconst (-1), 1) := by decide +kernel
theorem dX6_sheet_13 : decode cX6_sheet 13 = .ok (.ireturn, 1) := by decide +kernel
theorem dX6_sheet_14 : decode cX6_sheet 14 = .ok (.iload_n 2, 1) := by decide +kernel
theorem dX6_sheet_15 : decode cX6_sheet 15 = .ok (.invokestatic 66, 3) := by decide +kernel
theorem dX6_sheet_18 : decode cX6_sheet 18 = .ok (.ifCond .eq 9, 3) := by decide +kernel
theorem dX6_sheet_21 : decode cX6_sheet 21 = .ok (.iload_n 3, 1) := by decide +kernel
theorem dX6_sheet_22 : decode cX6_sheet 22 = .ok (.bipush 60, 2) := by decide +kernel
theorem dX6_sheet_24 : decode cX6_sheet 24 = .ok (.if_icmp .le 6, 3) := by decide +kernel
theorem dX6_sheet_27 : decode cX6_sheet 27 = .ok (.bipush (-2), 2) := by decide +kernel
theorem dX6_sheet_29 : decode cX6_sheet 29 = .ok (.ireturn, 1) := by decide +kernel
theorem dX6_sheet_30 : decode cX6_sheet 30 = .ok (.iload_n 3, 1) := by decide +kernel
theorem dX6_sheet_31 : decode cX6_sheet 31 = .ok (.ifCond .ge 9, 3) := by decide +kernel
theorem dX6_sheet_34 : decode cX6_sheet 34 = .ok (.aload_n 0, 1) := by decide +kernel
theorem dX6_sheet_35 : decode cX6_sheet 35 = .ok (.iconst 4, 1) := by decide +kernel
theorem dX6_sheet_36 : decode cX6_sheet 36 = .ok (.invokevirtual 73, 3) := by decide +kernel
theorem dX6_sheet_39 : decode cX6_sheet 39 = .ok (.ireturn, 1) := by decide +kernel
theorem dX6_sheet_40 : decode cX6_sheet 40 = .ok (.aload_n 0, 1) := by decide +kernel
theorem dX6_sheet_41 : decode cX6_sheet 41 = .ok (.getfield 9, 3) := by decide +kernel
theorem dX6_sheet_44 : decode cX6_sheet 44 = .ok (.iload_n 1, 1) := by decide +kernel
theorem dX6_sheet_45 : decode cX6_sheet 45 = .ok (.iload_n 2, 1) := by decide +kernel
theorem dX6_sheet_46 : decode cX6_sheet 46 = .ok (.iastore, 1) := by decide +kernel
theorem dX6_sheet_47 : decode cX6_sheet 47 = .ok (.aload_n 0, 1) := by decide +kernel
theorem dX6_sheet_48 : decode cX6_sheet 48 = .ok (.getfield 13, 3) := by decide +kernel
theorem dX6_sheet_51 : decode cX6_sheet 51 = .ok (.iload_n 1, 1) := by decide +kernel
theorem dX6_sheet_52 : decode cX6_sheet 52 = .ok (.iload_n 3, 1) := by decide +kernel
theorem dX6_sheet_53 : decode cX6_sheet 53 = .ok (.iastore, 1) := by decide +kernel
theorem dX6_sheet_54 : decode cX6_sheet 54 = .ok (.iconst 0, 1) := by decide +kernel
theorem dX6_sheet_55 : decode cX6_sheet 55 = .ok (.istore 4, 2) := by decide +kernel
theorem dX6_sheet_57 : decode cX6_sheet 57 = .ok (.iload 4, 2) := by decide +kernel
theorem dX6_sheet_59 : decode cX6_sheet 59 = .ok (.bipush 60, 2) := by decide +kernel
theorem dX6_sheet_61 : decode cX6_sheet 61 = .ok (.if_icmp .ge 22, 3) := by decide +kernel
theorem dX6_sheet_64 : decode cX6_sheet 64 = .ok (.aload_n 0, 1) := by decide +kernel
theorem dX6_sheet_65 : decode cX6_sheet 65 = .ok (.getfield 16, 3) := by decide +kernel
theorem dX6_sheet_68 : decode cX6_sheet 68 = .ok (.bipush 60, 2) := by decide +kernel
theorem dX6_sheet_70 : decode cX6_sheet 70 = .ok (.iload_n 1, 1) := by decide +kernel
theorem dX6_sheet_71 : decode cX6_sheet 71 = .ok (.imul, 1) := by decide +kernel
theorem dX6_sheet_72 : decode cX6_sheet 72 = .ok (.iload 4, 2) := by decide +kernel
theorem dX6_sheet_74 : decode cX6_sheet 74 = .ok (.iadd, 1) := by decide +kernel
theorem dX6_sheet_75 : decode cX6_sheet 75 = .ok (.iconst 0, 1) := by decide +kernel
theorem dX6_sheet_76 : decode cX6_sheet 76 = .ok (.iastore, 1) := by decide +kernel
theorem dX6_sheet_77 : decode cX6_sheet 77 = .ok (.iinc 4 1, 3) := by decide +kernel
theorem dX6_sheet_80 : decode cX6_sheet 80 = .ok (.goto (-23), 3) := by decide +kernel
theorem dX6_sheet_83 : decode cX6_sheet 83 = .ok (.iconst 1, 1) := by decide +kernel
theorem dX6_sheet_84 : decode cX6_sheet 84 = .ok (.ireturn, 1) := by decide +kernel
set_option maxRecDepth 20000 in
theorem ggX6_lose_X6_isSheet : GoodIn wsX6_lose wsX6_isSheet := goodIn_r _ [5, 6, 7, 4, 8] (by decide +kernel) (by decide +kernel)
set_option maxRecDepth 20000 in
theorem gX6_lose_X6_isSheet : GoodIn wsX6_lose (va_wsS RX6 62 yX6_isSheet wsX6_isSheet) := goodIn_app (goodIn_of _ (by decide +kernel)) ggX6_lose_X6_isSheet
theorem dX6_lose_0 : decode cX6_lose 0 = .ok (.iload_n 1, 1) := by decide +kernel
theorem dX6_lose_1 : decode cX6_lose 1 = .ok (.invokestatic 62, 3) := by decide +kernel
theorem dX6_lose_4 : decode cX6_lose 4 = .ok (.ifCond .ne 5, 3) := by decide +kernel
theorem dX6_lose_7 : decode cX6_lose 7 = .ok (.iconst (-1), 1) := by decide +kernel
theorem dX6_lose_8 : decode cX6_lose 8 = .ok (.ireturn, 1) := by decide +kernel
theorem dX6_lose_9 : decode cX6_lose 9 = .ok (.aload_n 0, 1) := by decide +kernel
theorem dX6_lose_10 : decode cX6_lose 10 = .ok (.getfield 9, 3) := by decide +kernel
theorem dX6_lose_13 : decode cX6_lose 13 = .ok (.iload_n 1, 1) := by decide +kernel
theorem dX6_lose_14 : decode cX6_lose 14 = .ok (.iaload, 1) := by decide +kernel
theorem dX6_lose_15 : decode cX6_lose 15 = .ok (.bipush (-9), 2) := by decide +kernel
theorem dX6_lose_17 : decode cX6_lose 17 = .ok (.if_icmp .ne 7, 3) := by decide +kernel
theorem dX6_lose_20 : decode cX6_lose 20 = .ok (.iconst 0, 1) := by decide +kernel
theorem dX6_lose_21 : decode cX6_lose 21 = .ok (.goto 4, 3) := by decide +kernel
theorem dX6_lose_24 : decode cX6_lose 24 = .ok (.iconst 1, 1) := by decide +kernel
theorem dX6_lose_25 : decode cX6_lose 25 = .ok (.istore_n 2, 1) := by decide +kernel
theorem dX6_lose_26 : decode cX6_lose 26 = .ok (.aload_n 0, 1) := by decide +kernel
theorem dX6_lose_27 : decode cX6_lose 27 = .ok (.getfield 9, 3) := by decide +kernel
theorem dX6_lose_30 : decode cX6_lose 30 = .ok (.iload_n 1, 1) := by decide +kernel
theorem dX6_lose_31 : decode cX6_lose 31 = .ok (.bipush (-9), 2) := by decide +kernel
theorem dX6_lose_33 : decode cX6_lose 33 = .ok (.iastore, 1) := by decide +kernel
theorem dX6_lose_34 : decode cX6_lose 34 = .ok (.iload_n 2, 1) := by decide +kernel
theorem dX6_lose_35 : decode cX6_lose 35 = .ok (.ireturn, 1) := by decide +kernel
set_option maxRecDepth 20000 in
theorem ggX6_put_X6_isSheet : GoodIn wsX6_put wsX6_isSheet := goodIn_r _ [8, 9, 10, 7, 11] (by decide +kernel) (by decide +kernel)
set_option maxRecDepth 20000 in
theorem gX6_put_X6_isSheet : GoodIn wsX6_put (va_wsS RX6 62 yX6_isSheet wsX6_isSheet) := goodIn_app (goodIn_of _ (by decide +kernel)) ggX6_put_X6_isSheet
set_option maxRecDepth 20000 in
theorem ggX6_put_X6_fails : GoodIn wsX6_put wsX6_fails := goodIn_r _ [15, 1, 16, 17, 18, 19, 20, 21, 22, 23, 24, 25, 26, 27, 28, 29, 30, 31, 32, 33, 34, 35, 36, 37, 38, 39, 40, 41] (by decide +kernel) (by decide +kernel)
set_option maxRecDepth 20000 in
theorem gX6_put_X6_fails : GoodIn wsX6_put (wsV RX6 73 RX6 yX6_fails wsX6_fails) := goodIn_app (goodIn_of _ (by decide +kernel)) ggX6_put_X6_fails
set_option maxRecDepth 20000 in
theorem ggX6_put_X6_within : GoodIn wsX6_put wsX6_within := goodIn_r _ [11] (by decide +kernel) (by decide +kernel)
set_option maxRecDepth 20000 in
theorem gX6_put_X6_within : GoodIn wsX6_put (va_wsS RX6 52 yX6_within wsX6_within) := goodIn_app (goodIn_of _ (by decide +kernel)) ggX6_put_X6_within
theorem dX6_put_0 : decode cX6_put 0 = .ok (.aload_n 0, 1) := by decide +kernel
theorem dX6_put_1 : decode cX6_put 1 = .ok (.iconst 0, 1) := by decide +kernel
theorem dX6_put_2 : decode cX6_put 2 = .ok (.putfield 46, 3) := by decide +kernel
theorem dX6_put_5 : decode cX6_put 5 = .ok (.iload_n 1, 1) := by decide +kernel
theorem dX6_put_6 : decode cX6_put 6 = .ok (.invokestatic 62, 3) := by decide +kernel
theorem dX6_put_9 : decode cX6_put 9 = .ok (.ifCond .ne 5, 3) := by decide +kernel
theorem dX6_put_12 : decode cX6_put 12 = .ok (.iconst (-1), 1) := by decide +kernel
theorem dX6_put_13 : decode cX6_put 13 = .ok (.ireturn, 1) := by decide +kernel
theorem dX6_put_14 : decode cX6_put 14 = .ok (.aload_n 0, 1) := by decide +kernel
theorem dX6_put_15 : decode cX6_put 15 = .ok (.getfield 9, 3) := by decide +kernel
theorem dX6_put_18 : decode cX6_put 18 = .ok (.iload_n 1, 1) := by decide +kernel
theorem dX6_put_19 : decode cX6_put 19 = .ok (.iaload, 1) := by decide +kernel
theorem dX6_put_20 : decode cX6_put 20 = .ok (.bipush (-9), 2) := by decide +kernel
theorem dX6_put_22 : decode cX6_put 22 = .ok (.if_icmp .ne 9, 3) := by decide +kernel
theorem dX6_put_25 : decode cX6_put 25 = .ok (.aload_n 0, 1) := by decide +kernel
theorem dX6_put_26 : decode cX6_put 26 = .ok (.iconst 1, 1) := by decide +kernel
theorem dX6_put_27 : decode cX6_put 27 = .ok (.invokevirtual 73, 3) := by decide +kernel
theorem dX6_put_30 : decode cX6_put 30 = .ok (.ireturn, 1) := by decide +kernel
theorem dX6_put_31 : decode cX6_put 31 = .ok (.iload_n 2, 1) := by decide +kernel
theorem dX6_put_32 : decode cX6_put 32 = .ok (.iconst 0, 1) := by decide +kernel
theorem dX6_put_33 : decode cX6_put 33 = .ok (.aload_n 0, 1) := by decide +kernel
theorem dX6_put_34 : decode cX6_put 34 = .ok (.getfield 13, 3) := by decide +kernel
theorem dX6_put_37 : decode cX6_put 37 = .ok (.iload_n 1, 1) := by decide +kernel
theorem dX6_put_38 : decode cX6_put 38 = .ok (.iaload, 1) := by decide +kernel
theorem dX6_put_39 : decode cX6_put 39 = .ok (.iconst 1, 1) := by decide +kernel
theorem dX6_put_40 : decode cX6_put 40 = .ok (.isub, 1) := by decide +kernel
theorem dX6_put_41 : decode cX6_put 41 = .ok (.invokestatic 52, 3) := by decide +kernel
theorem dX6_put_44 : decode cX6_put 44 = .ok (.ifCond .ne 9, 3) := by decide +kernel
theorem dX6_put_47 : decode cX6_put 47 = .ok (.aload_n 0, 1) := by decide +kernel
theorem dX6_put_48 : decode cX6_put 48 = .ok (.iconst 3, 1) := by decide +kernel
theorem dX6_put_49 : decode cX6_put 49 = .ok (.invokevirtual 73, 3) := by decide +kernel
theorem dX6_put_52 : decode cX6_put 52 = .ok (.ireturn, 1) := by decide +kernel
theorem dX6_put_53 : decode cX6_put 53 = .ok (.aload_n 0, 1) := by decide +kernel
theorem dX6_put_54 : decode cX6_put 54 = .ok (.getfield 16, 3) := by decide +kernel
theorem dX6_put_57 : decode cX6_put 57 = .ok (.bipush 60, 2) := by decide +kernel
theorem dX6_put_59 : decode cX6_put 59 = .ok (.iload_n 1, 1) := by decide +kernel
theorem dX6_put_60 : decode cX6_put 60 = .ok (.imul, 1) := by decide +kernel
theorem dX6_put_61 : decode cX6_put 61 = .ok (.iload_n 2, 1) := by decide +kernel
theorem dX6_put_62 : decode cX6_put 62 = .ok (.iadd, 1) := by decide +kernel
theorem dX6_put_63 : decode cX6_put 63 = .ok (.aload_n 0, 1) := by decide +kernel
theorem dX6_put_64 : decode cX6_put 64 = .ok (.getfield 9, 3) := by decide +kernel
theorem dX6_put_67 : decode cX6_put 67 = .ok (.iload_n 1, 1) := by decide +kernel
theorem dX6_put_68 : decode cX6_put 68 = .ok (.iaload, 1) := by decide +kernel
theorem dX6_put_69 : decode cX6_put 69 = .ok (.ifCond .ne 8, 3) := by decide +kernel
theorem dX6_put_72 : decode cX6_put 72 = .ok (.iload_n 3, 1) := by decide +kernel
theorem dX6_put_73 : decode cX6_put 73 = .ok (.i2b, 1) := by decide +kernel
theorem dX6_put_74 : decode cX6_put 74 = .ok (.goto 19, 3) := by decide +kernel
theorem dX6_put_77 : decode cX6_put 77 = .ok (.aload_n 0, 1) := by decide +kernel
theorem dX6_put_78 : decode cX6_put 78 = .ok (.getfield 9, 3) := by decide +kernel
theorem dX6_put_81 : decode cX6_put 81 = .ok (.iload_n 1, 1) := by decide +kernel
theorem dX6_put_82 : decode cX6_put 82 = .ok (.iaload, 1) := by decide +kernel
theorem dX6_put_83 : decode cX6_put 83 = .ok (.iconst 1, 1) := by decide +kernel
theorem dX6_put_84 : decode cX6_put 84 = .ok (.if_icmp .ne 8, 3) := by decide +kernel
theorem dX6_put_87 : decode cX6_put 87 = .ok (.iload_n 3, 1) := by decide +kernel
theorem dX6_put_88 : decode cX6_put 88 = .ok (.i2s, 1) := by decide +kernel
theorem dX6_put_89 : decode cX6_put 89 = .ok (.goto 4, 3) := by decide +kernel
theorem dX6_put_92 : decode cX6_put 92 = .ok (.iload_n 3, 1) := by decide +kernel
theorem dX6_put_93 : decode cX6_put 93 = .ok (.iastore, 1) := by decide +kernel
theorem dX6_put_94 : decode cX6_put 94 = .ok (.iconst 1, 1) := by decide +kernel
theorem dX6_put_95 : decode cX6_put 95 = .ok (.ireturn, 1) := by decide +kernel
set_option maxRecDepth 20000 in
theorem ggX6_cell_X6_isSheet : GoodIn wsX6_cell wsX6_isSheet := goodIn_r _ [9, 10, 11, 8, 12] (by decide +kernel) (by decide +kernel)
set_option maxRecDepth 20000 in
theorem gX6_cell_X6_isSheet : GoodIn wsX6_cell (va_wsS RX6 62 yX6_isSheet wsX6_isSheet) := goodIn_app (goodIn_of _ (by decide +kernel)) ggX6_cell_X6_isSheet
set_option maxRecDepth 20000 in
theorem ggX6_cell_X6_isSort : GoodIn wsX6_cell wsX6_isSort := goodIn_r _ [15, 10, 11, 8, 12] (by decide +kernel) (by decide +kernel)
set_option maxRecDepth 20000 in
theorem gX6_cell_X6_isSort : GoodIn wsX6_cell (va_wsS RX6 66 yX6_isSort wsX6_isSort) := goodIn_app (goodIn_of _ (by decide +kernel)) ggX6_cell_X6_isSort
set_option maxRecDepth 20000 in
theorem ggX6_cell_X6_lost : GoodIn wsX6_cell wsX6_lost := goodIn_r _ [19, 1, 2, 20, 21, 22, 23, 24, 25, 26, 27, 28, 29, 30, 31, 32, 33, 34, 35, 36, 37, 38, 39, 40, 41, 42, 43, 44, 45] (by decide +kernel) (by decide +kernel)
set_option maxRecDepth 20000 in
theorem gX6_cell_X6_lost : GoodIn wsX6_cell (wsV RX6 207 RX6 yX6_lost wsX6_lost) := goodIn_app (goodIn_of _ (by decide +kernel)) ggX6_cell_X6_lost
set_option maxRecDepth 20000 in
theorem ggX6_cell_X6_within : GoodIn wsX6_cell wsX6_within := goodIn_r _ [12] (by decide +kernel) (by decide +kernel)
set_option maxRecDepth 20000 in
theorem gX6_cell_X6_within : GoodIn wsX6_cell (va_wsS RX6 52 yX6_within wsX6_within) := goodIn_app (goodIn_of _ (by decide +kernel)) ggX6_cell_X6_within
theorem dX6_cell_0 : decode cX6_cell 0 = .ok (.aload_n 0, 1) := by decide +kernel
theorem dX6_cell_1 : decode cX6_cell 1 = .ok (.iconst 0, 1) := by decide +kernel
theorem dX6_cell_2 : decode cX6_cell 2 = .ok (.putfield 46, 3) := by decide +kernel
theorem dX6_cell_5 : decode cX6_cell 5 = .ok (.iload_n 1, 1) := by decide +kernel
theorem dX6_cell_6 : decode cX6_cell 6 = .ok (.invokestatic 62, 3) := by decide +kernel
theorem dX6_cell_9 : decode cX6_cell 9 = .ok (.ifCond .eq 10, 3) := by decide +kernel
theorem dX6_cell_12 : decode cX6_cell 12 = .ok (.iload_n 3, 1) := by decide +kernel
theorem dX6_cell_13 : decode cX6_cell 13 = .ok (.invokestatic 66, 3) := by decide +kernel
theorem dX6_cell_16 : decode cX6_cell 16 = .ok (.ifCond .ne 7, 3) := by decide +kernel
theorem dX6_cell_19 : decode cX6_cell 19 = .ok (.ldc2_w 50, 3) := by decide +kernel
theorem dX6_cell_22 : decode cX6_cell 22 = .ok (.lreturn, 1) := by decide +kernel
theorem dX6_cell_23 : decode cX6_cell 23 = .ok (.aload_n 0, 1) := by decide +kernel
theorem dX6_cell_24 : decode cX6_cell 24 = .ok (.getfield 9, 3) := by decide +kernel
theorem dX6_cell_27 : decode cX6_cell 27 = .ok (.iload_n 1, 1) := by decide +kernel
theorem dX6_cell_28 : decode cX6_cell 28 = .ok (.iaload, 1) := by decide +kernel
theorem dX6_cell_29 : decode cX6_cell 29 = .ok (.bipush (-9), 2) := by decide +kernel
theorem dX6_cell_31 : decode cX6_cell 31 = .ok (.if_icmp .eq 19, 3) := by decide +kernel
theorem dX6_cell_34 : decode cX6_cell 34 = .ok (.aload_n 0, 1) := by decide +kernel
theorem dX6_cell_35 : decode cX6_cell 35 = .ok (.getfield 9, 3) := by decide +kernel
theorem dX6_cell_38 : decode cX6_cell 38 = .ok (.iload_n 1, 1) := by decide +kernel
theorem dX6_cell_39 : decode cX6_cell 39 = .ok (.iaload, 1) := by decide +kernel
theorem dX6_cell_40 : decode cX6_cell 40 = .ok (.iload_n 3, 1) := by decide +kernel
theorem dX6_cell_41 : decode cX6_cell 41 = .ok (.if_icmp .eq 9, 3) := by decide +kernel
theorem dX6_cell_44 : decode cX6_cell 44 = .ok (.aload_n 0, 1) := by decide +kernel
theorem dX6_cell_45 : decode cX6_cell 45 = .ok (.iconst 2, 1) := by decide +kernel
theorem dX6_cell_46 : decode cX6_cell 46 = .ok (.invokevirtual 207, 3) := by decide +kernel
theorem dX6_cell_49 : decode cX6_cell 49 = .ok (.lreturn, 1) := by decide +kernel
theorem dX6_cell_50 : decode cX6_cell 50 = .ok (.aload_n 0, 1) := by decide +kernel
theorem dX6_cell_51 : decode cX6_cell 51 = .ok (.getfield 9, 3) := by decide +kernel
theorem dX6_cell_54 : decode cX6_cell 54 = .ok (.iload_n 1, 1) := by decide +kernel
theorem dX6_cell_55 : decode cX6_cell 55 = .ok (.iaload, 1) := by decide +kernel
theorem dX6_cell_56 : decode cX6_cell 56 = .ok (.bipush (-9), 2) := by decide +kernel
theorem dX6_cell_58 : decode cX6_cell 58 = .ok (.if_icmp .ne 9, 3) := by decide +kernel
theorem dX6_cell_61 : decode cX6_cell 61 = .ok (.aload_n 0, 1) := by decide +kernel
theorem dX6_cell_62 : decode cX6_cell 62 = .ok (.iconst 1, 1) := by decide +kernel
theorem dX6_cell_63 : decode cX6_cell 63 = .ok (.invokevirtual 207, 3) := by decide +kernel
theorem dX6_cell_66 : decode cX6_cell 66 = .ok (.lreturn, 1) := by decide +kernel
theorem dX6_cell_67 : decode cX6_cell 67 = .ok (.iload_n 2, 1) := by decide +kernel
theorem dX6_cell_68 : decode cX6_cell 68 = .ok (.iconst 0, 1) := by decide +kernel
theorem dX6_cell_69 : decode cX6_cell 69 = .ok (.aload_n 0, 1) := by decide +kernel
theorem dX6_cell_70 : decode cX6_cell 70 = .ok (.getfield 13, 3) := by decide +kernel
theorem dX6_cell_73 : decode cX6_cell 73 = .ok (.iload_n 1, 1) := by decide +kernel
theorem dX6_cell_74 : decode cX6_cell 74 = .ok (.iaload, 1) := by decide +kernel
theorem dX6_cell_75 : decode cX6_cell 75 = .ok (.iconst 1, 1) := by decide +kernel
theorem dX6_cell_76 : decode cX6_cell 76 = .ok (.isub, 1) := by decide +kernel
theorem dX6_cell_77 : decode cX6_cell 77 = .ok (.invokestatic 52, 3) := by decide +kernel
theorem dX6_cell_80 : decode cX6_cell 80 = .ok (.ifCond .ne 9, 3) := by decide +kernel
theorem dX6_cell_83 : decode cX6_cell 83 = .ok (.aload_n 0, 1) := by decide +kernel
theorem dX6_cell_84 : decode cX6_cell 84 = .ok (.iconst 3, 1) := by decide +kernel
theorem dX6_cell_85 : decode cX6_cell 85 = .ok (.invokevirtual 207, 3) := by decide +kernel
theorem dX6_cell_88 : decode cX6_cell 88 = .ok (.lreturn, 1) := by decide +kernel
theorem dX6_cell_89 : decode cX6_cell 89 = .ok (.aload_n 0, 1) := by decide +kernel
theorem dX6_cell_90 : decode cX6_cell 90 = .ok (.getfield 16, 3) := by decide +kernel
theorem dX6_cell_93 : decode cX6_cell 93 = .ok (.bipush 60, 2) := by decide +kernel
theorem dX6_cell_95 : decode cX6_cell 95 = .ok (.iload_n 1, 1) := by decide +kernel
theorem dX6_cell_96 : decode cX6_cell 96 = .ok (.imul, 1) := by decide +kernel
theorem dX6_cell_97 : decode cX6_cell 97 = .ok (.iload_n 2, 1) := by decide +kernel
theorem dX6_cell_98 : decode cX6_cell 98 = .ok (.iadd, 1) := by decide +kernel
theorem dX6_cell_99 : decode cX6_cell 99 = .ok (.iaload, 1) := by decide +kernel
theorem dX6_cell_100 : decode cX6_cell 100 = .ok (.i2l, 1) := by decide +kernel
theorem dX6_cell_101 : decode cX6_cell 101 = .ok (.lreturn, 1) := by decide +kernel
set_option maxRecDepth 20000 in
theorem ggX6_copy_X6_isSheet : GoodIn wsX6_copy wsX6_isSheet := goodIn_r _ [8, 9, 10, 7, 11] (by decide +kernel) (by decide +kernel)
set_option maxRecDepth 20000 in
theorem gX6_copy_X6_isSheet : GoodIn wsX6_copy (va_wsS RX6 62 yX6_isSheet wsX6_isSheet) := goodIn_app (goodIn_of _ (by decide +kernel)) ggX6_copy_X6_isSheet
set_option maxRecDepth 20000 in
theorem ggX6_copy_X6_fails : GoodIn wsX6_copy wsX6_fails := goodIn_r _ [15, 1, 16, 17, 18, 19, 20, 21, 22, 23, 24, 25, 26, 27, 28, 29, 30, 31, 32, 33, 34, 35, 36, 37, 38, 39, 40, 41] (by decide +kernel) (by decide +kernel)
set_option maxRecDepth 20000 in
theorem gX6_copy_X6_fails : GoodIn wsX6_copy (wsV RX6 73 RX6 yX6_fails wsX6_fails) := goodIn_app (goodIn_of _ (by decide +kernel)) ggX6_copy_X6_fails
theorem dX6_copy_0 : decode cX6_copy 0 = .ok (.aload_n 0, 1) := by decide +kernel
theorem dX6_copy_1 : decode cX6_copy 1 = .ok (.iconst 0, 1) := by decide +kernel
theorem dX6_copy_2 : decode cX6_copy 2 = .ok (.putfield 46, 3) := by decide +kernel
theorem dX6_copy_5 : decode cX6_copy 5 = .ok (.iload_n 1, 1) := by decide +kernel
theorem dX6_copy_6 : decode cX6_copy 6 = .ok (.invokestatic 62, 3) := by decide +kernel
theorem dX6_copy_9 : decode cX6_copy 9 = .ok (.ifCond .eq 10, 3) := by decide +kernel
theorem dX6_copy_12 : decode cX6_copy 12 = .ok (.iload_n 3, 1) := by decide +kernel
theorem dX6_copy_13 : decode cX6_copy 13 = .ok (.invokestatic 62, 3) := by decide +kernel
theorem dX6_copy_16 : decode cX6_copy 16 = .ok (.ifCond .ne 5, 3) := by decide +kernel
theorem dX6_copy_19 : decode cX6_copy 19 = .ok (.iconst (-1), 1) := by decide +kernel
theorem dX6_copy_20 : decode cX6_copy 20 = .ok (.ireturn, 1) := by decide +kernel
theorem dX6_copy_21 : decode cX6_copy 21 = .ok (.aload_n 0, 1) := by decide +kernel
theorem dX6_copy_22 : decode cX6_copy 22 = .ok (.getfield 9, 3) := by decide +kernel
theorem dX6_copy_25 : decode cX6_copy 25 = .ok (.iload_n 1, 1) := by decide +kernel
theorem dX6_copy_26 : decode cX6_copy 26 = .ok (.iaload, 1) := by decide +kernel
theorem dX6_copy_27 : decode cX6_copy 27 = .ok (.bipush (-9), 2) := by decide +kernel
theorem dX6_copy_29 : decode cX6_copy 29 = .ok (.if_icmp .eq 14, 3) := by decide +kernel
theorem dX6_copy_32 : decode cX6_copy 32 = .ok (.aload_n 0, 1) := by decide +kernel
theorem dX6_copy_33 : decode cX6_copy 33 = .ok (.getfield 9, 3) := by decide +kernel
theorem dX6_copy_36 : decode cX6_copy 36 = .ok (.iload_n 3, 1) := by decide +kernel
theorem dX6_copy_37 : decode cX6_copy 37 = .ok (.iaload, 1) := by decide +kernel
theorem dX6_copy_38 : decode cX6_copy 38 = .ok (.bipush (-9), 2) := by decide +kernel
theorem dX6_copy_40 : decode cX6_copy 40 = .ok (.if_icmp .ne 9, 3) := by decide +kernel
theorem dX6_copy_43 : decode cX6_copy 43 = .ok (.aload_n 0, 1) := by decide +kernel
theorem dX6_copy_44 : decode cX6_copy 44 = .ok (.iconst 1, 1) := by decide +kernel
theorem dX6_copy_45 : decode cX6_copy 45 = .ok (.invokevirtual 73, 3) := by decide +kernel
theorem dX6_copy_48 : decode cX6_copy 48 = .ok (.ireturn, 1) := by decide +kernel
theorem dX6_copy_49 : decode cX6_copy 49 = .ok (.aload_n 0, 1) := by decide +kernel
theorem dX6_copy_50 : decode cX6_copy 50 = .ok (.getfield 9, 3) := by decide +kernel
theorem dX6_copy_53 : decode cX6_copy 53 = .ok (.iload_n 1, 1) := by decide +kernel
theorem dX6_copy_54 : decode cX6_copy 54 = .ok (.iaload, 1) := by decide +kernel
theorem dX6_copy_55 : decode cX6_copy 55 = .ok (.aload_n 0, 1) := by decide +kernel
theorem dX6_copy_56 : decode cX6_copy 56 = .ok (.getfield 9, 3) := by decide +kernel
theorem dX6_copy_59 : decode cX6_copy 59 = .ok (.iload_n 3, 1) := by decide +kernel
theorem dX6_copy_60 : decode cX6_copy 60 = .ok (.iaload, 1) := by decide +kernel
theorem dX6_copy_61 : decode cX6_copy 61 = .ok (.if_icmp .eq 9, 3) := by decide +kernel
theorem dX6_copy_64 : decode cX6_copy 64 = .ok (.aload_n 0, 1) := by decide +kernel
theorem dX6_copy_65 : decode cX6_copy 65 = .ok (.iconst 2, 1) := by decide +kernel
theorem dX6_copy_66 : decode cX6_copy 66 = .ok (.invokevirtual 73, 3) := by decide +kernel
theorem dX6_copy_69 : decode cX6_copy 69 = .ok (.ireturn, 1) := by decide +kernel
theorem dX6_copy_70 : decode cX6_copy 70 = .ok (.iload_n 2, 1) := by decide +kernel
theorem dX6_copy_71 : decode cX6_copy 71 = .ok (.ifCond .lt 38, 3) := by decide +kernel
theorem dX6_copy_74 : decode cX6_copy 74 = .ok (.iload 4, 2) := by decide +kernel
theorem dX6_copy_76 : decode cX6_copy 76 = .ok (.ifCond .lt 33, 3) := by decide +kernel
theorem dX6_copy_79 : decode cX6_copy 79 = .ok (.iload 5, 2) := by decide +kernel
theorem dX6_copy_81 : decode cX6_copy 81 = .ok (.ifCond .lt 28, 3) := by decide +kernel
theorem dX6_copy_84 : decode cX6_copy 84 = .ok (.iload_n 2, 1) := by decide +kernel
theorem dX6_copy_85 : decode cX6_copy 85 = .ok (.aload_n 0, 1) := by decide +kernel
theorem dX6_copy_86 : decode cX6_copy 86 = .ok (.getfield 13, 3) := by decide +kernel
theorem dX6_copy_89 : decode cX6_copy 89 = .ok (.iload_n 1, 1) := by decide +kernel
theorem dX6_copy_90 : decode cX6_copy 90 = .ok (.iaload, 1) := by decide +kernel
theorem dX6_copy_91 : decode cX6_copy 91 = .ok (.if_icmp .gt 18, 3) := by decide +kernel
theorem dX6_copy_94 : decode cX6_copy 94 = .ok (.iload 4, 2) := by decide +kernel
theorem dX6_copy_96 : decode cX6_copy 96 = .ok (.aload_n 0, 1) := by decide +kernel
theorem dX6_copy_97 : decode cX6_copy 97 = .ok (.getfield 13, 3) := by decide +kernel
theorem dX6_copy_100 : decode cX6_copy 100 = .ok (.iload_n 3, 1) := by decide +kernel
theorem dX6_copy_101 : decode cX6_copy 101 = .ok (.iaload, 1) := by decide +kernel
theorem dX6_copy_102 : decode cX6_copy 102 = .ok (.if_icmp .gt 7, 3) := by decide +kernel
theorem dX6_copy_105 : decode cX6_copy 105 = .ok (.iconst 1, 1) := by decide +kernel
theorem dX6_copy_106 : decode cX6_copy 106 = .ok (.goto 4, 3) := by decide +kernel
theorem dX6_copy_109 : decode cX6_copy 109 = .ok (.iconst 0, 1) := by decide +kernel
theorem dX6_copy_110 : decode cX6_copy 110 = .ok (.istore 6, 2) := by decide +kernel
theorem dX6_copy_112 : decode cX6_copy 112 = .ok (.iload 6, 2) := by decide +kernel
theorem dX6_copy_114 : decode cX6_copy 114 = .ok (.ifCond .eq 30, 3) := by decide +kernel
theorem dX6_copy_117 : decode cX6_copy 117 = .ok (.iload 5, 2) := by decide +kernel
theorem dX6_copy_119 : decode cX6_copy 119 = .ok (.aload_n 0, 1) := by decide +kernel
theorem dX6_copy_120 : decode cX6_copy 120 = .ok (.getfield 13, 3) := by decide +kernel
theorem dX6_copy_123 : decode cX6_copy 123 = .ok (.iload_n 1, 1) := by decide +kernel
theorem dX6_copy_124 : decode cX6_copy 124 = .ok (.iaload, 1) := by decide +kernel
theorem dX6_copy_125 : decode cX6_copy 125 = .ok (.iload_n 2, 1) := by decide +kernel
theorem dX6_copy_126 : decode cX6_copy 126 = .ok (.isub, 1) := by decide +kernel
theorem dX6_copy_127 : decode cX6_copy 127 = .ok (.if_icmp .gt 17, 3) := by decide +kernel
theorem dX6_copy_130 : decode cX6_copy 130 = .ok (.iload 5, 2) := by decide +kernel
theorem dX6_copy_132 : decode cX6_copy 132 = .ok (.aload_n 0, 1) := by decide +kernel
theorem dX6_copy_133 : decode cX6_copy 133 = .ok (.getfield 13, 3) := by decide +kernel
theorem dX6_copy_136 : decode cX6_copy 136 = .ok (.iload_n 3, 1) := by decide +kernel
theorem dX6_copy_137 : decode cX6_copy 137 = .ok (.iaload, 1) := by decide +kernel
theorem dX6_copy_138 : decode cX6_copy 138 = .ok (.iload 4, 2) := by decide +kernel
theorem dX6_copy_140 : decode cX6_copy 140 = .ok (.isub, 1) := by decide +kernel
theorem dX6_copy_141 : decode cX6_copy 141 = .ok (.if_icmp .le 9, 3) := by decide +kernel
theorem dX6_copy_144 : decode cX6_copy 144 = .ok (.aload_n 0, 1) := by decide +kernel
theorem dX6_copy_145 : decode cX6_copy 145 = .ok (.iconst 3, 1) := by decide +kernel
theorem dX6_copy_146 : decode cX6_copy 146 = .ok (.invokevirtual 73, 3) := by decide +kernel
theorem dX6_copy_149 : decode cX6_copy 149 = .ok (.ireturn, 1) := by decide +kernel
theorem dX6_copy_150 : decode cX6_copy 150 = .ok (.iload_n 2, 1) := by decide +kernel
theorem dX6_copy_151 : decode cX6_copy 151 = .ok (.iload 4, 2) := by decide +kernel
theorem dX6_copy_153 : decode cX6_copy 153 = .ok (.if_icmp .ge 7, 3) := by decide +kernel
theorem dX6_copy_156 : decode cX6_copy 156 = .ok (.iconst 1, 1) := by decide +kernel
theorem dX6_copy_157 : decode cX6_copy 157 = .ok (.goto 4, 3) := by decide +kernel
theorem dX6_copy_160 : decode cX6_copy 160 = .ok (.iconst 0, 1) := by decide +kernel
theorem dX6_copy_161 : decode cX6_copy 161 = .ok (.istore 7, 2) := by decide +kernel
theorem dX6_copy_163 : decode cX6_copy 163 = .ok (.iconst 0, 1) := by decide +kernel
theorem dX6_copy_164 : decode cX6_copy 164 = .ok (.istore 8, 2) := by decide +kernel
theorem dX6_copy_166 : decode cX6_copy 166 = .ok (.iload 8, 2) := by decide +kernel
theorem dX6_copy_168 : decode cX6_copy 168 = .ok (.iload 5, 2) := by decide +kernel
theorem dX6_copy_170 : decode cX6_copy 170 = .ok (.if_icmp .ge 57, 3) := by decide +kernel
theorem dX6_copy_173 : decode cX6_copy 173 = .ok (.iload 7, 2) := by decide +kernel
theorem dX6_copy_175 : decode cX6_copy 175 = .ok (.ifCond .eq 13, 3) := by decide +kernel
theorem dX6_copy_178 : decode cX6_copy 178 = .ok (.iload 5, 2) := by decide +kernel
theorem dX6_copy_180 : decode cX6_copy 180 = .ok (.iconst 1, 1) := by decide +kernel
theorem dX6_copy_181 : decode cX6_copy 181 = .ok (.isub, 1) := by decide +kernel
theorem dX6_copy_182 : decode cX6_copy 182 = .ok (.iload 8, 2) := by decide +kernel
theorem dX6_copy_184 : decode cX6_copy 184 = .ok (.isub, 1) := by decide +kernel
theorem dX6_copy_185 : decode cX6_copy 185 = .ok (.goto 5, 3) := by decide +kernel
theorem dX6_copy_188 : decode cX6_copy 188 = .ok (.iload 8, 2) := by decide +kernel
theorem dX6_copy_190 : decode cX6_copy 190 = .ok (.istore 9, 2) := by decide +kernel
theorem dX6_copy_192 : decode cX6_copy 192 = .ok (.aload_n 0, 1) := by decide +kernel
theorem dX6_copy_193 : decode cX6_copy 193 = .ok (.getfield 16, 3) := by decide +kernel
theorem dX6_copy_196 : decode cX6_copy 196 = .ok (.bipush 60, 2) := by decide +kernel
theorem dX6_copy_198 : decode cX6_copy 198 = .ok (.iload_n 3, 1) := by decide +kernel
theorem dX6_copy_199 : decode cX6_copy 199 = .ok (.imul, 1) := by decide +kernel
theorem dX6_copy_200 : decode cX6_copy 200 = .ok (.iload 4, 2) := by decide +kernel
theorem dX6_copy_202 : decode cX6_copy 202 = .ok (.iadd, 1) := by decide +kernel
theorem dX6_copy_203 : decode cX6_copy 203 = .ok (.iload 9, 2) := by decide +kernel
theorem dX6_copy_205 : decode cX6_copy 205 = .ok (.iadd, 1) := by decide +kernel
theorem dX6_copy_206 : decode cX6_copy 206 = .ok (.aload_n 0, 1) := by decide +kernel
theorem dX6_copy_207 : decode cX6_copy 207 = .ok (.getfield 16, 3) := by decide +kernel
theorem dX6_copy_210 : decode cX6_copy 210 = .ok (.bipush 60, 2) := by decide +kernel
theorem dX6_copy_212 : decode cX6_copy 212 = .ok (.iload_n 1, 1) := by decide +kernel
theorem dX6_copy_213 : decode cX6_copy 213 = .ok (.imul, 1) := by decide +kernel
theorem dX6_copy_214 : decode cX6_copy 214 = .ok (.iload_n 2, 1) := by decide +kernel
theorem dX6_copy_215 : decode cX6_copy 215 = .ok (.iadd, 1) := by decide +kernel
theorem dX6_copy_216 : decode cX6_copy 216 = .ok (.iload 9, 2) := by decide +kernel
theorem dX6_copy_218 : decode cX6_copy 218 = .ok (.iadd, 1) := by decide +kernel
theorem dX6_copy_219 : decode cX6_copy 219 = .ok (.iaload, 1) := by decide +kernel
theorem dX6_copy_220 : decode cX6_copy 220 = .ok (.iastore, 1) := by decide +kernel
theorem dX6_copy_221 : decode cX6_copy 221 = .ok (.iinc 8 1, 3) := by decide +kernel
theorem dX6_copy_224 : decode cX6_copy 224 = .ok (.goto (-58), 3) := by decide +kernel
theorem dX6_copy_227 : decode cX6_copy 227 = .ok (.iload 5, 2) := by decide +kernel
theorem dX6_copy_229 : decode cX6_copy 229 = .ok (.ireturn, 1) := by decide +kernel
theorem dX6_begins_0 : decode cX6_begins 0 = .ok (.aload_n 0, 1) := by decide +kernel
theorem dX6_begins_1 : decode cX6_begins 1 = .ok (.bipush 31, 2) := by decide +kernel
theorem dX6_begins_3 : decode cX6_begins 3 = .ok (.aload_n 0, 1) := by decide +kernel
theorem dX6_begins_4 : decode cX6_begins 4 = .ok (.getfield 211, 3) := by decide +kernel
theorem dX6_begins_7 : decode cX6_begins 7 = .ok (.imul, 1) := by decide +kernel
theorem dX6_begins_8 : decode cX6_begins 8 = .ok (.iload_n 1, 1) := by decide +kernel
theorem dX6_begins_9 : decode cX6_begins 9 = .ok (.iadd, 1) := by decide +kernel
theorem dX6_begins_10 : decode cX6_begins 10 = .ok (.putfield 211, 3) := by decide +kernel
theorem dX6_begins_13 : decode cX6_begins 13 = .ok (.return_, 1) := by decide +kernel
set_option maxRecDepth 20000 in
theorem ggX6_tell_X6_isLayer : GoodIn wsX6_tell wsX6_isLayer := goodIn_r _ [7, 8, 14, 15, 16, 17, 18, 19, 20, 21, 22, 23, 24, 25, 26, 27, 28, 29, 30, 31, 32, 33, 34, 35, 36, 37, 38, 39] (by decide +kernel) (by decide +kernel)
set_option maxRecDepth 20000 in
theorem gX6_tell_X6_isLayer : GoodIn wsX6_tell (wsV RX6 131 RX6 yX6_isLayer wsX6_isLayer) := goodIn_app (goodIn_of _ (by decide +kernel)) ggX6_tell_X6_isLayer
set_option maxRecDepth 20000 in
theorem ggX6_tell_X6_begins : GoodIn wsX6_tell wsX6_begins := goodIn_r _ [12, 13, 14, 15, 16, 17, 18, 19, 20, 21, 22, 23, 24, 25, 26, 27, 28, 29, 30, 31, 32, 33, 34, 35, 36, 37, 38, 39] (by decide +kernel) (by decide +kernel)
set_option maxRecDepth 20000 in
theorem gX6_tell_X6_begins : GoodIn wsX6_tell (wsV RX6 214 RX6 yX6_begins wsX6_begins) := goodIn_app (goodIn_of _ (by decide +kernel)) ggX6_tell_X6_begins
theorem dX6_tell_0 : decode cX6_tell 0 = .ok (.aload_n 0, 1) := by decide +kernel
theorem dX6_tell_1 : decode cX6_tell 1 = .ok (.iload_n 1, 1) := by decide +kernel
theorem dX6_tell_2 : decode cX6_tell 2 = .ok (.invokevirtual 131, 3) := by decide +kernel
theorem dX6_tell_5 : decode cX6_tell 5 = .ok (.ifCond .ne 5, 3) := by decide +kernel
theorem dX6_tell_8 : decode cX6_tell 8 = .ok (.iconst (-1), 1) := by decide +kernel
theorem dX6_tell_9 : decode cX6_tell 9 = .ok (.ireturn, 1) := by decide +kernel
theorem dX6_tell_10 : decode cX6_tell 10 = .ok (.aload_n 0, 1) := by decide +kernel
theorem dX6_tell_11 : decode cX6_tell 11 = .ok (.getfield 22, 3) := by decide +kernel
theorem dX6_tell_14 : decode cX6_tell 14 = .ok (.iload_n 1, 1) := by decide +kernel
theorem dX6_tell_15 : decode cX6_tell 15 = .ok (.iaload, 1) := by decide +kernel
theorem dX6_tell_16 : decode cX6_tell 16 = .ok (.istore_n 2, 1) := by decide +kernel
theorem dX6_tell_17 : decode cX6_tell 17 = .ok (.aload_n 0, 1) := by decide +kernel
theorem dX6_tell_18 : decode cX6_tell 18 = .ok (.getfield 19, 3) := by decide +kernel
theorem dX6_tell_21 : decode cX6_tell 21 = .ok (.iload_n 1, 1) := by decide +kernel
theorem dX6_tell_22 : decode cX6_tell 22 = .ok (.iaload, 1) := by decide +kernel
theorem dX6_tell_23 : decode cX6_tell 23 = .ok (.lookupswitch 67 #[(1, 25), (2, 40)], 25) := by decide +kernel
theorem dX6_tell_48 : decode cX6_tell 48 = .ok (.aload_n 0, 1) := by decide +kernel
theorem dX6_tell_49 : decode cX6_tell 49 = .ok (.iconst 2, 1) := by decide +kernel
theorem dX6_tell_50 : decode cX6_tell 50 = .ok (.invokevirtual 214, 3) := by decide +kernel
theorem dX6_tell_53 : decode cX6_tell 53 = .ok (.aload_n 0, 1) := by decide +kernel
theorem dX6_tell_54 : decode cX6_tell 54 = .ok (.iconst 1, 1) := by decide +kernel
theorem dX6_tell_55 : decode cX6_tell 55 = .ok (.invokevirtual 214, 3) := by decide +kernel
theorem dX6_tell_58 : decode cX6_tell 58 = .ok (.iload_n 2, 1) := by decide +kernel
theorem dX6_tell_59 : decode cX6_tell 59 = .ok (.bipush 100, 2) := by decide +kernel
theorem dX6_tell_61 : decode cX6_tell 61 = .ok (.iadd, 1) := by decide +kernel
theorem dX6_tell_62 : decode cX6_tell 62 = .ok (.ireturn, 1) := by decide +kernel
theorem dX6_tell_63 : decode cX6_tell 63 = .ok (.aload_n 0, 1) := by decide +kernel
theorem dX6_tell_64 : decode cX6_tell 64 = .ok (.iconst 3, 1) := by decide +kernel
theorem dX6_tell_65 : decode cX6_tell 65 = .ok (.invokevirtual 214, 3) := by decide +kernel
theorem dX6_tell_68 : decode cX6_tell 68 = .ok (.aload_n 0, 1) := by decide +kernel
theorem dX6_tell_69 : decode cX6_tell 69 = .ok (.iconst 2, 1) := by decide +kernel
theorem dX6_tell_70 : decode cX6_tell 70 = .ok (.invokevirtual 214, 3) := by decide +kernel
theorem dX6_tell_73 : decode cX6_tell 73 = .ok (.aload_n 0, 1) := by decide +kernel
theorem dX6_tell_74 : decode cX6_tell 74 = .ok (.iconst 1, 1) := by decide +kernel
theorem dX6_tell_75 : decode cX6_tell 75 = .ok (.invokevirtual 214, 3) := by decide +kernel
theorem dX6_tell_78 : decode cX6_tell 78 = .ok (.aload_n 0, 1) := by decide +kernel
theorem dX6_tell_79 : decode cX6_tell 79 = .ok (.iconst 1, 1) := by decide +kernel
theorem dX6_tell_80 : decode cX6_tell 80 = .ok (.invokevirtual 214, 3) := by decide +kernel
theorem dX6_tell_83 : decode cX6_tell 83 = .ok (.iconst 2, 1) := by decide +kernel
theorem dX6_tell_84 : decode cX6_tell 84 = .ok (.iload_n 2, 1) := by decide +kernel
theorem dX6_tell_85 : decode cX6_tell 85 = .ok (.imul, 1) := by decide +kernel
theorem dX6_tell_86 : decode cX6_tell 86 = .ok (.bipush 100, 2) := by decide +kernel
theorem dX6_tell_88 : decode cX6_tell 88 = .ok (.iadd, 1) := by decide +kernel
theorem dX6_tell_89 : decode cX6_tell 89 = .ok (.ireturn, 1) := by decide +kernel
theorem dX6_tell_90 : decode cX6_tell 90 = .ok (.aload_n 0, 1) := by decide +kernel
theorem dX6_tell_91 : decode cX6_tell 91 = .ok (.iconst 1, 1) := by decide +kernel
theorem dX6_tell_92 : decode cX6_tell 92 = .ok (.invokevirtual 214, 3) := by decide +kernel
theorem dX6_tell_95 : decode cX6_tell 95 = .ok (.iload_n 2, 1) := by decide +kernel
theorem dX6_tell_96 : decode cX6_tell 96 = .ok (.ireturn, 1) := by decide +kernel
set_option maxRecDepth 20000 in
theorem ggX6_stroke_X6_isLayer : GoodIn wsX6_stroke wsX6_isLayer := goodIn_r _ [7, 8, 14, 15, 16, 17, 18, 19, 20, 21, 22, 23, 24, 25, 26, 27, 28, 29, 30, 31, 32, 33, 34, 35, 36, 37, 38, 39] (by decide +kernel) (by decide +kernel)
set_option maxRecDepth 20000 in
theorem gX6_stroke_X6_isLayer : GoodIn wsX6_stroke (wsV RX6 131 RX6 yX6_isLayer wsX6_isLayer) := goodIn_app (goodIn_of _ (by decide +kernel)) ggX6_stroke_X6_isLayer
set_option maxRecDepth 20000 in
theorem ggX6_stroke_X6_begins : GoodIn wsX6_stroke wsX6_begins := goodIn_r _ [12, 13, 14, 15, 16, 17, 18, 19, 20, 21, 22, 23, 24, 25, 26, 27, 28, 29, 30, 31, 32, 33, 34, 35, 36, 37, 38, 39] (by decide +kernel) (by decide +kernel)
set_option maxRecDepth 20000 in
theorem gX6_stroke_X6_begins : GoodIn wsX6_stroke (wsV RX6 214 RX6 yX6_begins wsX6_begins) := goodIn_app (goodIn_of _ (by decide +kernel)) ggX6_stroke_X6_begins
theorem dX6_stroke_0 : decode cX6_stroke 0 = .ok (.aload_n 0, 1) := by decide +kernel
theorem dX6_stroke_1 : decode cX6_stroke 1 = .ok (.iload_n 1, 1) := by decide +kernel
theorem dX6_stroke_2 : decode cX6_stroke 2 = .ok (.invokevirtual 131, 3) := by decide +kernel
theorem dX6_stroke_5 : decode cX6_stroke 5 = .ok (.ifCond .ne 5, 3) := by decide +kernel
theorem dX6_stroke_8 : decode cX6_stroke 8 = .ok (.iconst (-1), 1) := by decide +kernel
theorem dX6_stroke_9 : decode cX6_stroke 9 = .ok (.ireturn, 1) := by decide +kernel
theorem dX6_stroke_10 : decode cX6_stroke 10 = .ok (.aload_n 0, 1) := by decide +kernel
theorem dX6_stroke_11 : decode cX6_stroke 11 = .ok (.aload_n 0, 1) := by decide +kernel
theorem dX6_stroke_12 : decode cX6_stroke 12 = .ok (.getfield 19, 3) := by decide +kernel
theorem dX6_stroke_15 : decode cX6_stroke 15 = .ok (.iload_n 1, 1) := by decide +kernel
theorem dX6_stroke_16 : decode cX6_stroke 16 = .ok (.iaload, 1) := by decide +kernel
theorem dX6_stroke_17 : decode cX6_stroke 17 = .ok (.iconst 2, 1) := by decide +kernel
theorem dX6_stroke_18 : decode cX6_stroke 18 = .ok (.if_icmp .ne 7, 3) := by decide +kernel
theorem dX6_stroke_21 : decode cX6_stroke 21 = .ok (.iconst 5, 1) := by decide +kernel
theorem dX6_stroke_22 : decode cX6_stroke 22 = .ok (.goto 4, 3) := by decide +kernel
theorem dX6_stroke_25 : decode cX6_stroke 25 = .ok (.iconst 4, 1) := by decide +kernel
theorem dX6_stroke_26 : decode cX6_stroke 26 = .ok (.invokevirtual 214, 3) := by decide +kernel
theorem dX6_stroke_29 : decode cX6_stroke 29 = .ok (.aload_n 0, 1) := by decide +kernel
theorem dX6_stroke_30 : decode cX6_stroke 30 = .ok (.getfield 19, 3) := by decide +kernel
theorem dX6_stroke_33 : decode cX6_stroke 33 = .ok (.iload_n 1, 1) := by decide +kernel
theorem dX6_stroke_34 : decode cX6_stroke 34 = .ok (.iaload, 1) := by decide +kernel
theorem dX6_stroke_35 : decode cX6_stroke 35 = .ok (.iconst 2, 1) := by decide +kernel
theorem dX6_stroke_36 : decode cX6_stroke 36 = .ok (.if_icmp .ne 8, 3) := by decide +kernel
theorem dX6_stroke_39 : decode cX6_stroke 39 = .ok (.bipush 10, 2) := by decide +kernel
theorem dX6_stroke_41 : decode cX6_stroke 41 = .ok (.goto 9, 3) := by decide +kernel
theorem dX6_stroke_44 : decode cX6_stroke 44 = .ok (.aload_n 0, 1) := by decide +kernel
theorem dX6_stroke_45 : decode cX6_stroke 45 = .ok (.getfield 25, 3) := by decide +kernel
theorem dX6_stroke_48 : decode cX6_stroke 48 = .ok (.iload_n 1, 1) := by decide +kernel
theorem dX6_stroke_49 : decode cX6_stroke 49 = .ok (.iaload, 1) := by decide +kernel
theorem dX6_stroke_50 : decode cX6_stroke 50 = .ok (.ireturn, 1) := by decide +kernel
set_option maxRecDepth 20000 in
theorem ggX6_as_X6_isLayer : GoodIn wsX6_as wsX6_isLayer := goodIn_r _ [7, 8, 16, 17, 18, 19, 20, 21, 22, 23, 24, 25, 26, 27, 28, 29, 30, 31, 32, 33, 34, 35, 36, 37, 38, 39, 40, 41] (by decide +kernel) (by decide +kernel)
set_option maxRecDepth 20000 in
theorem gX6_as_X6_isLayer : GoodIn wsX6_as (wsV RX6 131 RX6 yX6_isLayer wsX6_isLayer) := goodIn_app (goodIn_of _ (by decide +kernel)) ggX6_as_X6_isLayer
set_option maxRecDepth 20000 in
theorem ggX6_as_X6_within : GoodIn wsX6_as wsX6_within := goodIn_r _ [11] (by decide +kernel) (by decide +kernel)
set_option maxRecDepth 20000 in
theorem gX6_as_X6_within : GoodIn wsX6_as (va_wsS RX6 52 yX6_within wsX6_within) := goodIn_app (goodIn_of _ (by decide +kernel)) ggX6_as_X6_within
set_option maxRecDepth 20000 in
theorem ggX6_as_X6_fails : GoodIn wsX6_as wsX6_fails := goodIn_r _ [15, 1, 16, 17, 18, 19, 20, 21, 22, 23, 24, 25, 26, 27, 28, 29, 30, 31, 32, 33, 34, 35, 36, 37, 38, 39, 40, 41] (by decide +kernel) (by decide +kernel)
set_option maxRecDepth 20000 in
theorem gX6_as_X6_fails : GoodIn wsX6_as (wsV RX6 73 RX6 yX6_fails wsX6_fails) := goodIn_app (goodIn_of _ (by decide +kernel)) ggX6_as_X6_fails
theorem dX6_as_0 : decode cX6_as 0 = .ok (.aload_n 0, 1) := by decide +kernel
theorem dX6_as_1 : decode cX6_as 1 = .ok (.iconst 0, 1) := by decide +kernel
theorem dX6_as_2 : decode cX6_as 2 = .ok (.putfield 46, 3) := by decide +kernel
theorem dX6_as_5 : decode cX6_as 5 = .ok (.aload_n 0, 1) := by decide +kernel
theorem dX6_as_6 : decode cX6_as 6 = .ok (.iload_n 1, 1) := by decide +kernel
theorem dX6_as_7 : decode cX6_as 7 = .ok (.invokevirtual 131, 3) := by decide +kernel
theorem dX6_as_10 : decode cX6_as 10 = .ok (.ifCond .ne 5, 3) := by decide +kernel
theorem dX6_as_13 : decode cX6_as 13 = .ok (.iconst (-1), 1) := by decide +kernel
theorem dX6_as_14 : decode cX6_as 14 = .ok (.ireturn, 1) := by decide +kernel
theorem dX6_as_15 : decode cX6_as 15 = .ok (.iload_n 2, 1) := by decide +kernel
theorem dX6_as_16 : decode cX6_as 16 = .ok (.iconst 0, 1) := by decide +kernel
theorem dX6_as_17 : decode cX6_as 17 = .ok (.iconst 2, 1) := by decide +kernel
theorem dX6_as_18 : decode cX6_as 18 = .ok (.invokestatic 52, 3) := by decide +kernel
theorem dX6_as_21 : decode cX6_as 21 = .ok (.ifCond .ne 6, 3) := by decide +kernel
theorem dX6_as_24 : decode cX6_as 24 = .ok (.bipush (-2), 2) := by decide +kernel
theorem dX6_as_26 : decode cX6_as 26 = .ok (.ireturn, 1) := by decide +kernel
theorem dX6_as_27 : decode cX6_as 27 = .ok (.aload_n 0, 1) := by decide +kernel
theorem dX6_as_28 : decode cX6_as 28 = .ok (.getfield 19, 3) := by decide +kernel
theorem dX6_as_31 : decode cX6_as 31 = .ok (.iload_n 1, 1) := by decide +kernel
theorem dX6_as_32 : decode cX6_as 32 = .ok (.iaload, 1) := by decide +kernel
theorem dX6_as_33 : decode cX6_as 33 = .ok (.iload_n 2, 1) := by decide +kernel
theorem dX6_as_34 : decode cX6_as 34 = .ok (.if_icmp .lt 7, 3) := by decide +kernel
theorem dX6_as_37 : decode cX6_as 37 = .ok (.iconst 1, 1) := by decide +kernel
theorem dX6_as_38 : decode cX6_as 38 = .ok (.goto 8, 3) := by decide +kernel
theorem dX6_as_41 : decode cX6_as 41 = .ok (.aload_n 0, 1) := by decide +kernel
theorem dX6_as_42 : decode cX6_as 42 = .ok (.iconst 2, 1) := by decide +kernel
theorem dX6_as_43 : decode cX6_as 43 = .ok (.invokevirtual 73, 3) := by decide +kernel
theorem dX6_as_46 : decode cX6_as 46 = .ok (.ireturn, 1) := by decide +kernel
theorem dX6_trace_0 : decode cX6_trace 0 = .ok (.aload_n 0, 1) := by decide +kernel
theorem dX6_trace_1 : decode cX6_trace 1 = .ok (.getfield 211, 3) := by decide +kernel
theorem dX6_trace_4 : decode cX6_trace 4 = .ok (.ireturn, 1) := by decide +kernel
theorem dX6_fault_0 : decode cX6_fault 0 = .ok (.aload_n 0, 1) := by decide +kernel
theorem dX6_fault_1 : decode cX6_fault 1 = .ok (.getfield 46, 3) := by decide +kernel
theorem dX6_fault_4 : decode cX6_fault 4 = .ok (.ireturn, 1) := by decide +kernel
set_option maxRecDepth 20000 in
theorem ggX6_many_X6_heardNow : GoodIn wsX6_many wsX6_heardNow := goodIn_r _ [9, 2, 3, 10, 11, 12, 8, 13, 1, 14, 15, 16, 17, 18, 19, 20, 21, 22, 23, 24, 25, 26, 27, 28, 29, 30, 31, 35, 36, 37, 38, 39, 40, 41, 42, 43, 44, 45, 46, 47, 48, 49, 50, 51, 52, 53, 54, 55, 56, 57, 58, 59, 60] (by decide +kernel) (by decide +kernel)
set_option maxRecDepth 20000 in
theorem gX6_many_X6_heardNow : GoodIn wsX6_many (wsV RX6 138 RX6 yX6_heardNow wsX6_heardNow) := goodIn_app (goodIn_of _ (by decide +kernel)) ggX6_many_X6_heardNow
set_option maxRecDepth 20000 in
theorem ggX6_many_X6_size : GoodIn wsX6_many wsX6_size := goodIn_r _ [34] (by decide +kernel) (by decide +kernel)
set_option maxRecDepth 20000 in
theorem gX6_many_X6_size : GoodIn wsX6_many (va_wsS RX6 147 yX6_size wsX6_size) := goodIn_app (goodIn_of _ (by decide +kernel)) ggX6_many_X6_size
theorem dX6_many_0 : decode cX6_many 0 = .ok (.iload_n 1, 1) := by decide +kernel
theorem dX6_many_1 : decode cX6_many 1 = .ok (.tableswitch 74 0 4 #[35, 40, 45, 50, 69], 35) := by decide +kernel
theorem dX6_many_36 : decode cX6_many 36 = .ok (.aload_n 0, 1) := by decide +kernel
theorem dX6_many_37 : decode cX6_many 37 = .ok (.getfield 56, 3) := by decide +kernel
theorem dX6_many_40 : decode cX6_many 40 = .ok (.ireturn, 1) := by decide +kernel
theorem dX6_many_41 : decode cX6_many 41 = .ok (.aload_n 0, 1) := by decide +kernel
theorem dX6_many_42 : decode cX6_many 42 = .ok (.getfield 86, 3) := by decide +kernel
theorem dX6_many_45 : decode cX6_many 45 = .ok (.ireturn, 1) := by decide +kernel
theorem dX6_many_46 : decode cX6_many 46 = .ok (.aload_n 0, 1) := by decide +kernel
theorem dX6_many_47 : decode cX6_many 47 = .ok (.getfield 92, 3) := by decide +kernel
theorem dX6_many_50 : decode cX6_many 50 = .ok (.ireturn, 1) := by decide +kernel
theorem dX6_many_51 : decode cX6_many 51 = .ok (.aload_n 0, 1) := by decide +kernel
theorem dX6_many_52 : decode cX6_many 52 = .ok (.getfield 56, 3) := by decide +kernel
theorem dX6_many_55 : decode cX6_many 55 = .ok (.ifCond .ne 7, 3) := by decide +kernel
theorem dX6_many_58 : decode cX6_many 58 = .ok (.iconst 0, 1) := by decide +kernel
theorem dX6_many_59 : decode cX6_many 59 = .ok (.goto 10, 3) := by decide +kernel
theorem dX6_many_62 : decode cX6_many 62 = .ok (.aload_n 0, 1) := by decide +kernel
theorem dX6_many_63 : decode cX6_many 63 = .ok (.invokevirtual 138, 3) := by decide +kernel
theorem dX6_many_66 : decode cX6_many 66 = .ok (.invokestatic 147, 3) := by decide +kernel
theorem dX6_many_69 : decode cX6_many 69 = .ok (.ireturn, 1) := by decide +kernel
theorem dX6_many_70 : decode cX6_many 70 = .ok (.aload_n 0, 1) := by decide +kernel
theorem dX6_many_71 : decode cX6_many 71 = .ok (.getfield 98, 3) := by decide +kernel
theorem dX6_many_74 : decode cX6_many 74 = .ok (.ireturn, 1) := by decide +kernel
theorem dX6_many_75 : decode cX6_many 75 = .ok (.bipush (-2), 2) := by decide +kernel
theorem dX6_many_77 : decode cX6_many 77 = .ok (.ireturn, 1) := by decide +kernel
theorem dJ6_bitCount_0f7a4_0 : decode cJ6_bitCount_0f7a4 0 = .ok (.iload_n 0, 1) := by decide +kernel
theorem dJ6_bitCount_0f7a4_1 : decode cJ6_bitCount_0f7a4 1 = .ok (.iload_n 0, 1) := by decide +kernel
theorem dJ6_bitCount_0f7a4_2 : decode cJ6_bitCount_0f7a4 2 = .ok (.iconst 1, 1) := by decide +kernel
theorem dJ6_bitCount_0f7a4_3 : decode cJ6_bitCount_0f7a4 3 = .ok (.iushr, 1) := by decide +kernel
theorem dJ6_bitCount_0f7a4_4 : decode cJ6_bitCount_0f7a4 4 = .ok (.ldc_w 265, 3) := by decide +kernel
theorem dJ6_bitCount_0f7a4_7 : decode cJ6_bitCount_0f7a4 7 = .ok (.iand, 1) := by decide +kernel
theorem dJ6_bitCount_0f7a4_8 : decode cJ6_bitCount_0f7a4 8 = .ok (.isub, 1) := by decide +kernel
theorem dJ6_bitCount_0f7a4_9 : decode cJ6_bitCount_0f7a4 9 = .ok (.istore_n 0, 1) := by decide +kernel
theorem dJ6_bitCount_0f7a4_10 : decode cJ6_bitCount_0f7a4 10 = .ok (.iload_n 0, 1) := by decide +kernel
theorem dJ6_bitCount_0f7a4_11 : decode cJ6_bitCount_0f7a4 11 = .ok (.ldc_w 266, 3) := by decide +kernel
theorem dJ6_bitCount_0f7a4_14 : decode cJ6_bitCount_0f7a4 14 = .ok (.iand, 1) := by decide +kernel
theorem dJ6_bitCount_0f7a4_15 : decode cJ6_bitCount_0f7a4 15 = .ok (.iload_n 0, 1) := by decide +kernel
theorem dJ6_bitCount_0f7a4_16 : decode cJ6_bitCount_0f7a4 16 = .ok (.iconst 2, 1) := by decide +kernel
theorem dJ6_bitCount_0f7a4_17 : decode cJ6_bitCount_0f7a4 17 = .ok (.iushr, 1) := by decide +kernel
theorem dJ6_bitCount_0f7a4_18 : decode cJ6_bitCount_0f7a4 18 = .ok (.ldc_w 266, 3) := by decide +kernel
theorem dJ6_bitCount_0f7a4_21 : decode cJ6_bitCount_0f7a4 21 = .ok (.iand, 1) := by decide +kernel
theorem dJ6_bitCount_0f7a4_22 : decode cJ6_bitCount_0f7a4 22 = .ok (.iadd, 1) := by decide +kernel
theorem dJ6_bitCount_0f7a4_23 : decode cJ6_bitCount_0f7a4 23 = .ok (.istore_n 0, 1) := by decide +kernel
theorem dJ6_bitCount_0f7a4_24 : decode cJ6_bitCount_0f7a4 24 = .ok (.iload_n 0, 1) := by decide +kernel
theorem dJ6_bitCount_0f7a4_25 : decode cJ6_bitCount_0f7a4 25 = .ok (.iload_n 0, 1) := by decide +kernel
theorem dJ6_bitCount_0f7a4_26 : decode cJ6_bitCount_0f7a4 26 = .ok (.iconst 4, 1) := by decide +kernel
theorem dJ6_bitCount_0f7a4_27 : decode cJ6_bitCount_0f7a4 27 = .ok (.iushr, 1) := by decide +kernel
theorem dJ6_bitCount_0f7a4_28 : decode cJ6_bitCount_0f7a4 28 = .ok (.iadd, 1) := by decide +kernel
theorem dJ6_bitCount_0f7a4_29 : decode cJ6_bitCount_0f7a4 29 = .ok (.ldc_w 267, 3) := by decide +kernel
theorem dJ6_bitCount_0f7a4_32 : decode cJ6_bitCount_0f7a4 32 = .ok (.iand, 1) := by decide +kernel
theorem dJ6_bitCount_0f7a4_33 : decode cJ6_bitCount_0f7a4 33 = .ok (.istore_n 0, 1) := by decide +kernel
theorem dJ6_bitCount_0f7a4_34 : decode cJ6_bitCount_0f7a4 34 = .ok (.iload_n 0, 1) := by decide +kernel
theorem dJ6_bitCount_0f7a4_35 : decode cJ6_bitCount_0f7a4 35 = .ok (.iload_n 0, 1) := by decide +kernel
theorem dJ6_bitCount_0f7a4_36 : decode cJ6_bitCount_0f7a4 36 = .ok (.bipush 8, 2) := by decide +kernel
theorem dJ6_bitCount_0f7a4_38 : decode cJ6_bitCount_0f7a4 38 = .ok (.iushr, 1) := by decide +kernel
theorem dJ6_bitCount_0f7a4_39 : decode cJ6_bitCount_0f7a4 39 = .ok (.iadd, 1) := by decide +kernel
theorem dJ6_bitCount_0f7a4_40 : decode cJ6_bitCount_0f7a4 40 = .ok (.istore_n 0, 1) := by decide +kernel
theorem dJ6_bitCount_0f7a4_41 : decode cJ6_bitCount_0f7a4 41 = .ok (.iload_n 0, 1) := by decide +kernel
theorem dJ6_bitCount_0f7a4_42 : decode cJ6_bitCount_0f7a4 42 = .ok (.iload_n 0, 1) := by decide +kernel
theorem dJ6_bitCount_0f7a4_43 : decode cJ6_bitCount_0f7a4 43 = .ok (.bipush 16, 2) := by decide +kernel
theorem dJ6_bitCount_0f7a4_45 : decode cJ6_bitCount_0f7a4 45 = .ok (.iushr, 1) := by decide +kernel
theorem dJ6_bitCount_0f7a4_46 : decode cJ6_bitCount_0f7a4 46 = .ok (.iadd, 1) := by decide +kernel
theorem dJ6_bitCount_0f7a4_47 : decode cJ6_bitCount_0f7a4 47 = .ok (.istore_n 0, 1) := by decide +kernel
theorem dJ6_bitCount_0f7a4_48 : decode cJ6_bitCount_0f7a4 48 = .ok (.iload_n 0, 1) := by decide +kernel
theorem dJ6_bitCount_0f7a4_49 : decode cJ6_bitCount_0f7a4 49 = .ok (.bipush 63, 2) := by decide +kernel
theorem dJ6_bitCount_0f7a4_51 : decode cJ6_bitCount_0f7a4 51 = .ok (.iand, 1) := by decide +kernel
theorem dJ6_bitCount_0f7a4_52 : decode cJ6_bitCount_0f7a4 52 = .ok (.ireturn, 1) := by decide +kernel
theorem dJ9_max_7cf53_0 : decode cJ9_max_7cf53 0 = .ok (.iload_n 0, 1) := by decide +kernel
theorem dJ9_max_7cf53_1 : decode cJ9_max_7cf53 1 = .ok (.iload_n 1, 1) := by decide +kernel
theorem dJ9_max_7cf53_2 : decode cJ9_max_7cf53 2 = .ok (.if_icmp .lt 7, 3) := by decide +kernel
theorem dJ9_max_7cf53_5 : decode cJ9_max_7cf53 5 = .ok (.iload_n 0, 1) := by decide +kernel
theorem dJ9_max_7cf53_6 : decode cJ9_max_7cf53 6 = .ok (.goto 4, 3) := by decide +kernel
theorem dJ9_max_7cf53_9 : decode cJ9_max_7cf53 9 = .ok (.iload_n 1, 1) := by decide +kernel
theorem dJ9_max_7cf53_10 : decode cJ9_max_7cf53 10 = .ok (.ireturn, 1) := by decide +kernel
theorem dJ9_min_7cf53_0 : decode cJ9_min_7cf53 0 = .ok (.iload_n 0, 1) := by decide +kernel
theorem dJ9_min_7cf53_1 : decode cJ9_min_7cf53 1 = .ok (.iload_n 1, 1) := by decide +kernel
theorem dJ9_min_7cf53_2 : decode cJ9_min_7cf53 2 = .ok (.if_icmp .gt 7, 3) := by decide +kernel
theorem dJ9_min_7cf53_5 : decode cJ9_min_7cf53 5 = .ok (.iload_n 0, 1) := by decide +kernel
theorem dJ9_min_7cf53_6 : decode cJ9_min_7cf53 6 = .ok (.goto 4, 3) := by decide +kernel
theorem dJ9_min_7cf53_9 : decode cJ9_min_7cf53 9 = .ok (.iload_n 1, 1) := by decide +kernel
theorem dJ9_min_7cf53_10 : decode cJ9_min_7cf53 10 = .ok (.ireturn, 1) := by decide +kernel
set_option maxRecDepth 20000 in
theorem ggL_law_X5_init : GoodIn wsL_law wsX5_init := goodIn_r _ [8, 9, 10, 11, 12, 13, 14, 15, 16, 17, 18, 19, 20, 21, 22, 23, 24, 25, 26, 27, 28, 29, 30, 31, 32, 33, 34, 35, 36, 37, 38, 39, 40, 41, 42, 43, 44, 45, 46, 47, 48, 49, 50, 51, 52, 53, 819, 820, 821, 822, 786, 787, 788, 789, 790, 791, 792, 823, 824, 825, 826, 827, 828, 829, 830, 831, 832, 833, 834] (by decide +kernel) (by decide +kernel)
set_option maxRecDepth 20000 in
theorem gL_law_X5_init : GoodIn wsL_law (wsX5_init) := ggL_law_X5_init
set_option maxRecDepth 20000 in
theorem ggL_law_X6_init : GoodIn wsL_law wsX6_init := goodIn_r _ [56, 57, 10, 11, 43, 58, 59, 60, 61, 62, 63, 64, 65, 66, 67, 68, 69, 793, 794, 795, 796, 797, 798, 799, 800, 801, 802, 803, 804, 805, 806, 807, 808, 809, 810, 811, 812, 813, 814, 815, 816, 817, 818] (by decide +kernel) (by decide +kernel)
set_option maxRecDepth 20000 in
theorem gL_law_X6_init : GoodIn wsL_law (wsX6_init) := ggL_law_X6_init
set_option maxRecDepth 20000 in
theorem ggL_law_X5_wall : GoodIn wsL_law wsX5_wall := goodIn_r _ [73, 74, 15, 20, 75, 76, 77, 78, 79, 2, 80, 26, 81, 82, 83, 84, 85, 86, 28, 87, 88, 89, 90, 91, 92, 93, 94, 95, 96, 97, 98, 99, 100, 101, 102, 103, 104, 105, 53, 106, 107, 108, 109, 110, 111, 112, 113, 114, 115, 116, 117, 14, 118, 119, 120, 121, 122, 123, 124, 125, 126, 127, 128, 129, 130, 131, 132, 133, 34, 134, 135, 136, 36, 137, 138, 139, 140, 786, 787, 788, 789, 790, 791, 792, 823, 824, 825, 819, 820, 821, 822, 828, 829, 830, 831, 832, 833, 834] (by decide +kernel) (by decide +kernel)
set_option maxRecDepth 20000 in
theorem gL_law_X5_wall : GoodIn wsL_law (wsV RL 13 RX5 yX5_wall wsX5_wall) := goodIn_app (goodIn_of _ (by decide +kernel)) ggL_law_X5_wall
set_option maxRecDepth 20000 in
theorem ggL_law_X6_wall : GoodIn wsL_law wsX6_wall := goodIn_r _ [144, 145, 146, 147, 148, 149, 5, 150, 151, 152, 153, 154, 155, 156, 157, 158, 159, 160, 58, 59, 161, 162, 163, 164, 165, 166, 167, 168, 169, 170, 171, 172, 173, 174, 175, 60, 176, 177, 178, 179, 180, 181, 182, 183, 64, 184, 185, 186, 187, 188, 189, 61, 62, 63, 190, 793, 794, 795, 796, 797, 798, 799, 800, 801, 802, 803, 804, 805, 806, 807, 808, 809, 810, 811, 812, 813, 814, 815, 816, 817, 818] (by decide +kernel) (by decide +kernel)
set_option maxRecDepth 20000 in
theorem gL_law_X6_wall : GoodIn wsL_law (wsV RL 17 RX6 yX6_wall wsX6_wall) := goodIn_app (goodIn_of _ (by decide +kernel)) ggL_law_X6_wall
set_option maxRecDepth 20000 in
theorem ggL_law_X5_ofLayer : GoodIn wsL_law wsX5_ofLayer := goodIn_r _ [194, 15, 195, 196, 197, 198, 199, 200, 14, 201, 127, 34, 202, 203, 204, 36, 205, 138, 139, 206, 207, 208, 209, 128, 129, 210, 211, 212, 213, 214, 215, 216, 217, 218, 219, 786, 787, 788, 789, 790, 791, 792, 832, 833, 834, 819, 820, 821, 822] (by decide +kernel) (by decide +kernel)
set_option maxRecDepth 20000 in
theorem gL_law_X5_ofLayer : GoodIn wsL_law (wsV RL 18 RX5 yX5_ofLayer wsX5_ofLayer) := goodIn_app (goodIn_of _ (by decide +kernel)) ggL_law_X5_ofLayer
set_option maxRecDepth 20000 in
theorem ggL_law_X6_ofLayer : GoodIn wsL_law wsX6_ofLayer := goodIn_r _ [223, 61, 62, 63, 224, 225, 226, 5, 227, 147, 228, 229, 230, 231, 232, 233, 234, 235, 188, 189, 236, 237, 238, 239, 65, 240, 241, 242, 243, 244, 245, 246, 247, 248, 249, 250, 251, 252, 253, 254, 793, 794, 795, 796, 797, 798, 799, 800, 801, 802, 803, 804, 805, 806, 807, 808, 809, 810, 811, 812, 813, 814, 815, 816, 817, 818] (by decide +kernel) (by decide +kernel)
set_option maxRecDepth 20000 in
theorem gL_law_X6_ofLayer : GoodIn wsL_law (wsV RL 22 RX6 yX6_ofLayer wsX6_ofLayer) := goodIn_app (goodIn_of _ (by decide +kernel)) ggL_law_X6_ofLayer
set_option maxRecDepth 20000 in
theorem ggL_law_X5_heat : GoodIn wsL_law wsX5_heat := goodIn_r _ [258, 15, 259, 81, 82, 2, 83, 260, 261, 262, 14, 263, 127, 786, 787, 788, 789, 790, 791, 792, 819, 820, 821, 822] (by decide +kernel) (by decide +kernel)
set_option maxRecDepth 20000 in
theorem gL_law_X5_heat : GoodIn wsL_law (wsV RL 23 RX5 yX5_heat wsX5_heat) := goodIn_app (goodIn_of _ (by decide +kernel)) ggL_law_X5_heat
set_option maxRecDepth 20000 in
theorem ggL_law_X6_heat : GoodIn wsL_law wsX6_heat := goodIn_r _ [267, 147, 188, 151, 152, 5, 153, 793, 794, 795, 796, 797, 798, 799, 800, 801, 802, 803, 804, 805, 806, 807, 808, 809, 810, 811, 812, 813, 814, 815, 816, 817, 818] (by decide +kernel) (by decide +kernel)
set_option maxRecDepth 20000 in
theorem gL_law_X6_heat : GoodIn wsL_law (wsV RL 27 RX6 yX6_heat wsX6_heat) := goodIn_app (goodIn_of _ (by decide +kernel)) ggL_law_X6_heat
set_option maxRecDepth 20000 in
theorem ggL_law_X5_wet : GoodIn wsL_law wsX5_wet := goodIn_r _ [271, 15, 272, 81, 82, 2, 83, 260, 261, 262, 14, 263, 127, 786, 787, 788, 789, 790, 791, 792, 819, 820, 821, 822] (by decide +kernel) (by decide +kernel)
set_option maxRecDepth 20000 in
theorem gL_law_X5_wet : GoodIn wsL_law (wsV RL 28 RX5 yX5_wet wsX5_wet) := goodIn_app (goodIn_of _ (by decide +kernel)) ggL_law_X5_wet
set_option maxRecDepth 20000 in
theorem ggL_law_X6_wet : GoodIn wsL_law wsX6_wet := goodIn_r _ [276, 147, 189, 277, 278, 5, 279, 151, 152, 153, 793, 794, 795, 796, 797, 798, 799, 800, 801, 802, 803, 804, 805, 806, 807, 808, 809, 810, 811, 812, 813, 814, 815, 816, 817, 818] (by decide +kernel) (by decide +kernel)
set_option maxRecDepth 20000 in
theorem gL_law_X6_wet : GoodIn wsL_law (wsV RL 31 RX6 yX6_wet wsX6_wet) := goodIn_app (goodIn_of _ (by decide +kernel)) ggL_law_X6_wet
set_option maxRecDepth 20000 in
theorem ggL_law_X5_paste : GoodIn wsL_law wsX5_paste := goodIn_r _ [283, 15, 196, 198, 199, 200, 14, 201, 127, 34, 81, 82, 2, 83, 786, 787, 788, 789, 790, 791, 792, 832, 833, 834, 819, 820, 821, 822] (by decide +kernel) (by decide +kernel)
set_option maxRecDepth 20000 in
theorem gL_law_X5_paste : GoodIn wsL_law (wsV RL 32 RX5 yX5_paste wsX5_paste) := goodIn_app (goodIn_of _ (by decide +kernel)) ggL_law_X5_paste
set_option maxRecDepth 20000 in
theorem ggL_law_X6_paste : GoodIn wsL_law wsX6_paste := goodIn_r _ [287, 62, 224, 225, 226, 5, 227, 147, 277, 278, 279, 151, 152, 153, 793, 794, 795, 796, 797, 798, 799, 800, 801, 802, 803, 804, 805, 806, 807, 808, 809, 810, 811, 812, 813, 814, 815, 816, 817, 818] (by decide +kernel) (by decide +kernel)
set_option maxRecDepth 20000 in
theorem gL_law_X6_paste : GoodIn wsL_law (wsV RL 35 RX6 yX6_paste wsX6_paste) := goodIn_app (goodIn_of _ (by decide +kernel)) ggL_law_X6_paste
set_option maxRecDepth 20000 in
theorem ggL_law_X5_heard : GoodIn wsL_law wsX5_heard := goodIn_r _ [291, 15, 260, 261, 262, 14, 263, 127, 206, 207, 208, 209, 128, 129, 215, 216, 217, 218, 34, 219, 214, 203, 204, 36, 205, 138, 139, 292, 293, 2, 294, 786, 787, 788, 789, 790, 791, 792, 819, 820, 821, 822, 832, 833, 834] (by decide +kernel) (by decide +kernel)
set_option maxRecDepth 20000 in
theorem gL_law_X5_heard : GoodIn wsL_law (wsV RL 36 RX5 yX5_heard wsX5_heard) := goodIn_app (goodIn_of _ (by decide +kernel)) ggL_law_X5_heard
set_option maxRecDepth 20000 in
theorem ggL_law_X6_heard : GoodIn wsL_law wsX6_heard := goodIn_r _ [298, 147, 247, 248, 249, 5, 250, 188, 189, 236, 237, 238, 239, 65, 251, 252, 253, 254, 61, 240, 241, 242, 243, 244, 245, 246, 228, 229, 230, 231, 62, 793, 794, 795, 796, 797, 798, 799, 800, 801, 802, 803, 804, 805, 806, 807, 808, 809, 810, 811, 812, 813, 814, 815, 816, 817, 818] (by decide +kernel) (by decide +kernel)
set_option maxRecDepth 20000 in
theorem gL_law_X6_heard : GoodIn wsL_law (wsV RL 40 RX6 yX6_heard wsX6_heard) := goodIn_app (goodIn_of _ (by decide +kernel)) ggL_law_X6_heard
set_option maxRecDepth 20000 in
theorem ggL_law_X5_counsel : GoodIn wsL_law wsX5_counsel := goodIn_r _ [302, 15, 81, 82, 2, 83, 260, 261, 262, 14, 263, 127, 303, 304, 305, 306, 34, 307, 308, 216, 217, 218, 219, 214, 203, 204, 36, 205, 138, 139, 309, 310, 311, 312, 313, 314, 315, 786, 787, 788, 789, 790, 791, 792, 819, 820, 821, 822, 832, 833, 834] (by decide +kernel) (by decide +kernel)
set_option maxRecDepth 20000 in
theorem gL_law_X5_counsel : GoodIn wsL_law (wsV RL 41 RX5 yX5_counsel wsX5_counsel) := goodIn_app (goodIn_of _ (by decide +kernel)) ggL_law_X5_counsel
set_option maxRecDepth 20000 in
theorem ggL_law_X6_counsel : GoodIn wsL_law wsX6_counsel := goodIn_r _ [319, 147, 151, 152, 5, 153, 277, 278, 279, 236, 237, 238, 239, 65, 320, 321, 322, 323, 63, 251, 252, 253, 254, 61, 240, 241, 242, 243, 244, 245, 246, 228, 229, 230, 231, 62, 324, 325, 326, 327, 793, 794, 795, 796, 797, 798, 799, 800, 801, 802, 803, 804, 805, 806, 807, 808, 809, 810, 811, 812, 813, 814, 815, 816, 817, 818] (by decide +kernel) (by decide +kernel)
set_option maxRecDepth 20000 in
theorem gL_law_X6_counsel : GoodIn wsL_law (wsV RL 44 RX6 yX6_counsel wsX6_counsel) := goodIn_app (goodIn_of _ (by decide +kernel)) ggL_law_X6_counsel
set_option maxRecDepth 20000 in
theorem ggL_law_X5_clash : GoodIn wsL_law wsX5_clash := goodIn_r _ [331, 15, 81, 82, 2, 83, 260, 261, 262, 14, 263, 127, 206, 207, 208, 209, 128, 129, 215, 216, 217, 218, 34, 219, 214, 203, 204, 36, 205, 138, 139, 332, 333, 334, 335, 307, 336, 337, 338, 339, 340, 341, 342, 343, 309, 310, 311, 312, 313, 314, 315, 786, 787, 788, 789, 790, 791, 792, 819, 820, 821, 822, 832, 833, 834] (by decide +kernel) (by decide +kernel)
set_option maxRecDepth 20000 in
theorem gL_law_X5_clash : GoodIn wsL_law (wsV RL 45 RX5 yX5_clash wsX5_clash) := goodIn_app (goodIn_of _ (by decide +kernel)) ggL_law_X5_clash
set_option maxRecDepth 20000 in
theorem ggL_law_X6_clash : GoodIn wsL_law wsX6_clash := goodIn_r _ [347, 147, 151, 152, 5, 153, 247, 248, 249, 250, 188, 189, 236, 237, 238, 239, 65, 251, 252, 253, 254, 61, 240, 241, 242, 243, 244, 245, 246, 228, 229, 230, 231, 62, 348, 349, 350, 324, 325, 326, 327, 63, 793, 794, 795, 796, 797, 798, 799, 800, 801, 802, 803, 804, 805, 806, 807, 808, 809, 810, 811, 812, 813, 814, 815, 816, 817, 818] (by decide +kernel) (by decide +kernel)
set_option maxRecDepth 20000 in
theorem gL_law_X6_clash : GoodIn wsL_law (wsV RL 48 RX6 yX6_clash wsX6_clash) := goodIn_app (goodIn_of _ (by decide +kernel)) ggL_law_X6_clash
set_option maxRecDepth 20000 in
theorem ggL_law_X5_putUp : GoodIn wsL_law wsX5_putUp := goodIn_r _ [354, 15, 76, 81, 82, 2, 83, 260, 261, 262, 14, 263, 127, 355, 356, 357, 358, 34, 359, 360, 361, 36, 362, 138, 139, 140, 363, 135, 136, 137, 134, 786, 787, 788, 789, 790, 791, 792, 819, 820, 821, 822, 832, 833, 834] (by decide +kernel) (by decide +kernel)
set_option maxRecDepth 20000 in
theorem gL_law_X5_putUp : GoodIn wsL_law (wsV RL 49 RX5 yX5_putUp wsX5_putUp) := goodIn_app (goodIn_of _ (by decide +kernel)) ggL_law_X5_putUp
set_option maxRecDepth 20000 in
theorem ggL_law_X6_putUp : GoodIn wsL_law wsX6_putUp := goodIn_r _ [367, 147, 151, 152, 5, 153, 277, 278, 279, 368, 369, 370, 371, 61, 62, 63, 793, 794, 795, 796, 797, 798, 799, 800, 801, 802, 803, 804, 805, 806, 807, 808, 809, 810, 811, 812, 813, 814, 815, 816, 817, 818] (by decide +kernel) (by decide +kernel)
set_option maxRecDepth 20000 in
theorem gL_law_X6_putUp : GoodIn wsL_law (wsV RL 53 RX6 yX6_putUp wsX6_putUp) := goodIn_app (goodIn_of _ (by decide +kernel)) ggL_law_X6_putUp
set_option maxRecDepth 20000 in
theorem ggL_law_X5_peel : GoodIn wsL_law wsX5_peel := goodIn_r _ [375, 15, 197, 198, 199, 200, 14, 201, 127, 34, 376, 377, 378, 379, 380, 207, 208, 209, 128, 129, 381, 211, 212, 213, 214, 203, 204, 36, 205, 138, 139, 359, 360, 361, 362, 140, 363, 135, 136, 137, 786, 787, 788, 789, 790, 791, 792, 832, 833, 834, 819, 820, 821, 822] (by decide +kernel) (by decide +kernel)
set_option maxRecDepth 20000 in
theorem gL_law_X5_peel : GoodIn wsL_law (wsV RL 54 RX5 yX5_peel wsX5_peel) := goodIn_app (goodIn_of _ (by decide +kernel)) ggL_law_X5_peel
set_option maxRecDepth 20000 in
theorem ggL_law_X6_peel : GoodIn wsL_law wsX6_peel := goodIn_r _ [385, 147, 386, 387, 388, 5, 389, 232, 233, 234, 235, 188, 189, 236, 237, 238, 239, 65, 240, 241, 242, 243, 244, 245, 246, 228, 229, 230, 231, 61, 62, 390, 391, 392, 393, 63, 793, 794, 795, 796, 797, 798, 799, 800, 801, 802, 803, 804, 805, 806, 807, 808, 809, 810, 811, 812, 813, 814, 815, 816, 817, 818] (by decide +kernel) (by decide +kernel)
set_option maxRecDepth 20000 in
theorem gL_law_X6_peel : GoodIn wsL_law (wsV RL 57 RX6 yX6_peel wsX6_peel) := goodIn_app (goodIn_of _ (by decide +kernel)) ggL_law_X6_peel
set_option maxRecDepth 20000 in
theorem ggL_law_X5_days : GoodIn wsL_law wsX5_days := goodIn_r _ [397, 74, 15, 77, 78, 79, 2, 80, 26, 81, 82, 83, 84, 85, 86, 28, 87, 88, 89, 90, 91, 92, 93, 94, 95, 96, 97, 98, 260, 261, 262, 14, 263, 127, 398, 399, 400, 102, 103, 104, 105, 53, 401, 402, 403, 404, 405, 406, 407, 16, 76, 408, 409, 410, 411, 412, 413, 414, 415, 128, 129, 123, 124, 125, 126, 416, 199, 200, 201, 34, 417, 418, 419, 420, 219, 421, 307, 130, 131, 132, 133, 134, 135, 136, 36, 137, 138, 139, 140, 422, 423, 424, 425, 426, 377, 378, 379, 380, 207, 208, 209, 381, 211, 212, 213, 214, 203, 204, 205, 359, 360, 361, 362, 363, 427, 356, 357, 358, 206, 215, 216, 217, 218, 303, 304, 305, 306, 308, 309, 310, 311, 312, 313, 314, 315, 292, 293, 294, 786, 787, 788, 789, 790, 791, 792, 828, 829, 830, 831, 819, 820, 821, 822, 832, 833, 834] (by decide +kernel) (by decide +kernel)
set_option maxRecDepth 20000 in
theorem gL_law_X5_days : GoodIn wsL_law (wsV RL 58 RX5 yX5_days wsX5_days) := goodIn_app (goodIn_of _ (by decide +kernel)) ggL_law_X5_days
set_option maxRecDepth 20000 in
theorem ggL_law_X6_days : GoodIn wsL_law wsX6_days := goodIn_r _ [431, 145, 147, 60, 148, 149, 5, 150, 151, 152, 153, 154, 155, 156, 157, 158, 159, 160, 58, 59, 161, 162, 163, 164, 432, 433, 434, 277, 278, 279, 435, 436, 437, 438, 439, 188, 440, 189, 441, 66, 61, 62, 63, 442, 443, 444, 445, 446, 447, 448, 449, 450, 386, 387, 388, 389, 232, 233, 234, 235, 236, 237, 238, 239, 65, 240, 241, 242, 243, 244, 245, 246, 228, 229, 230, 231, 390, 391, 392, 393, 368, 369, 370, 371, 247, 248, 249, 250, 251, 252, 253, 254, 451, 452, 453, 454, 320, 321, 322, 323, 324, 325, 326, 327, 455, 456, 457, 458, 793, 794, 795, 796, 797, 798, 799, 800, 801, 802, 803, 804, 805, 806, 807, 808, 809, 810, 811, 812, 813, 814, 815, 816, 817, 818] (by decide +kernel) (by decide +kernel)
set_option maxRecDepth 20000 in
theorem gL_law_X6_days : GoodIn wsL_law (wsV RL 62 RX6 yX6_days wsX6_days) := goodIn_app (goodIn_of _ (by decide +kernel)) ggL_law_X6_days
set_option maxRecDepth 20000 in
theorem ggL_law_X5_needs : GoodIn wsL_law wsX5_needs := goodIn_r _ [462, 15, 272, 198, 199, 200, 14, 201, 127, 34, 215, 216, 217, 218, 219, 214, 203, 204, 36, 205, 138, 139, 786, 787, 788, 789, 790, 791, 792, 819, 820, 821, 822, 832, 833, 834] (by decide +kernel) (by decide +kernel)
set_option maxRecDepth 20000 in
theorem gL_law_X5_needs : GoodIn wsL_law (wsV RL 63 RX5 yX5_needs wsX5_needs) := goodIn_app (goodIn_of _ (by decide +kernel)) ggL_law_X5_needs
set_option maxRecDepth 20000 in
theorem ggL_law_X6_needs : GoodIn wsL_law wsX6_needs := goodIn_r _ [466, 189, 224, 225, 226, 5, 227, 147, 236, 237, 238, 239, 65, 251, 252, 253, 254, 61, 240, 241, 242, 243, 244, 245, 246, 228, 229, 230, 231, 62, 793, 794, 795, 796, 797, 798, 799, 800, 801, 802, 803, 804, 805, 806, 807, 808, 809, 810, 811, 812, 813, 814, 815, 816, 817, 818] (by decide +kernel) (by decide +kernel)
set_option maxRecDepth 20000 in
theorem gL_law_X6_needs : GoodIn wsL_law (wsV RL 66 RX6 yX6_needs wsX6_needs) := goodIn_app (goodIn_of _ (by decide +kernel)) ggL_law_X6_needs
set_option maxRecDepth 20000 in
theorem ggL_law_X5_gets : GoodIn wsL_law wsX5_gets := goodIn_r _ [470, 15, 272, 81, 82, 2, 83, 260, 261, 262, 14, 263, 127, 303, 304, 305, 306, 34, 307, 308, 216, 217, 218, 219, 214, 203, 204, 36, 205, 138, 139, 309, 310, 311, 312, 313, 314, 315, 786, 787, 788, 789, 790, 791, 792, 819, 820, 821, 822, 832, 833, 834] (by decide +kernel) (by decide +kernel)
set_option maxRecDepth 20000 in
theorem gL_law_X5_gets : GoodIn wsL_law (wsV RL 67 RX5 yX5_gets wsX5_gets) := goodIn_app (goodIn_of _ (by decide +kernel)) ggL_law_X5_gets
set_option maxRecDepth 20000 in
theorem ggL_law_X6_gets : GoodIn wsL_law wsX6_gets := goodIn_r _ [474, 147, 189, 277, 278, 5, 279, 151, 152, 153, 236, 237, 238, 239, 65, 320, 321, 322, 323, 63, 251, 252, 253, 254, 61, 240, 241, 242, 243, 244, 245, 246, 228, 229, 230, 231, 62, 324, 325, 326, 327, 793, 794, 795, 796, 797, 798, 799, 800, 801, 802, 803, 804, 805, 806, 807, 808, 809, 810, 811, 812, 813, 814, 815, 816, 817, 818] (by decide +kernel) (by decide +kernel)
set_option maxRecDepth 20000 in
theorem gL_law_X6_gets : GoodIn wsL_law (wsV RL 70 RX6 yX6_gets wsX6_gets) := goodIn_app (goodIn_of _ (by decide +kernel)) ggL_law_X6_gets
set_option maxRecDepth 20000 in
theorem ggL_law_X5_without : GoodIn wsL_law wsX5_without := goodIn_r _ [478, 15, 76, 16, 81, 82, 2, 83, 260, 261, 262, 14, 263, 127, 479, 480, 481, 482, 483, 484, 485, 486, 413, 414, 415, 128, 129, 123, 124, 125, 126, 416, 199, 200, 201, 34, 417, 418, 419, 420, 219, 421, 307, 130, 131, 132, 133, 134, 135, 136, 36, 137, 138, 139, 140, 206, 207, 208, 209, 303, 304, 305, 306, 308, 216, 217, 218, 214, 203, 204, 205, 309, 310, 311, 312, 313, 314, 315, 786, 787, 788, 789, 790, 791, 792, 819, 820, 821, 822, 832, 833, 834] (by decide +kernel) (by decide +kernel)
set_option maxRecDepth 20000 in
theorem gL_law_X5_without : GoodIn wsL_law (wsV RL 71 RX5 yX5_without wsX5_without) := goodIn_app (goodIn_of _ (by decide +kernel)) ggL_law_X5_without
set_option maxRecDepth 20000 in
theorem ggL_law_X6_without : GoodIn wsL_law wsX6_without := goodIn_r _ [490, 147, 188, 189, 277, 278, 5, 279, 151, 152, 153, 236, 237, 238, 239, 65, 348, 349, 350, 320, 321, 322, 323, 63, 251, 252, 253, 254, 61, 240, 241, 242, 243, 244, 245, 246, 228, 229, 230, 231, 62, 324, 325, 326, 327, 793, 794, 795, 796, 797, 798, 799, 800, 801, 802, 803, 804, 805, 806, 807, 808, 809, 810, 811, 812, 813, 814, 815, 816, 817, 818] (by decide +kernel) (by decide +kernel)
set_option maxRecDepth 20000 in
theorem gL_law_X6_without : GoodIn wsL_law (wsV RL 74 RX6 yX6_without wsX6_without) := goodIn_app (goodIn_of _ (by decide +kernel)) ggL_law_X6_without
set_option maxRecDepth 20000 in
theorem ggL_law_X5_reading : GoodIn wsL_law wsX5_reading := goodIn_r _ [494, 15, 20, 75, 81, 82, 2, 83, 260, 261, 262, 14, 263, 127, 495, 496, 497, 19, 498, 499, 44, 45, 786, 787, 788, 789, 790, 791, 792, 823, 824, 825, 819, 820, 821, 822] (by decide +kernel) (by decide +kernel)
set_option maxRecDepth 20000 in
theorem gL_law_X5_reading : GoodIn wsL_law (wsV RL 75 RX5 yX5_reading wsX5_reading) := goodIn_app (goodIn_of _ (by decide +kernel)) ggL_law_X5_reading
set_option maxRecDepth 20000 in
theorem ggL_law_X6_reading : GoodIn wsL_law wsX6_reading := goodIn_r _ [503, 147, 190, 67, 68, 69, 151, 152, 5, 153, 277, 278, 279, 793, 794, 795, 796, 797, 798, 799, 800, 801, 802, 803, 804, 805, 806, 807, 808, 809, 810, 811, 812, 813, 814, 815, 816, 817, 818] (by decide +kernel) (by decide +kernel)
set_option maxRecDepth 20000 in
theorem gL_law_X6_reading : GoodIn wsL_law (wsV RL 78 RX6 yX6_reading wsX6_reading) := goodIn_app (goodIn_of _ (by decide +kernel)) ggL_law_X6_reading
set_option maxRecDepth 20000 in
theorem ggL_law_X5_back : GoodIn wsL_law wsX5_back := goodIn_r _ [507, 20, 75, 81, 82, 2, 83, 786, 787, 788, 789, 790, 791, 792, 823, 824, 825] (by decide +kernel) (by decide +kernel)
set_option maxRecDepth 20000 in
theorem gL_law_X5_back : GoodIn wsL_law (wsV RL 79 RX5 yX5_back wsX5_back) := goodIn_app (goodIn_of _ (by decide +kernel)) ggL_law_X5_back
set_option maxRecDepth 20000 in
theorem ggL_law_X6_back : GoodIn wsL_law wsX6_back := goodIn_r _ [511, 190, 151, 152, 5, 153, 793, 794, 795, 796, 797, 798, 799, 800, 801, 802, 803, 804, 805, 806, 807, 808, 809, 810, 811, 812, 813, 814, 815, 816, 817, 818] (by decide +kernel) (by decide +kernel)
set_option maxRecDepth 20000 in
theorem gL_law_X6_back : GoodIn wsL_law (wsV RL 82 RX6 yX6_back wsX6_back) := goodIn_app (goodIn_of _ (by decide +kernel)) ggL_law_X6_back
set_option maxRecDepth 20000 in
theorem ggL_law_X5_orders : GoodIn wsL_law wsX5_orders := goodIn_r _ [515, 15, 76, 24, 260, 261, 262, 14, 263, 127, 516, 517, 518, 2, 519, 520, 521, 522, 23, 523, 524, 341, 342, 343, 525, 526, 527, 528, 49, 529, 530, 531, 532, 16, 20, 533, 534, 535, 536, 128, 129, 123, 124, 125, 126, 537, 538, 539, 540, 416, 199, 200, 201, 34, 417, 418, 419, 420, 219, 421, 307, 130, 131, 132, 133, 134, 135, 136, 36, 137, 138, 139, 140, 541, 542, 543, 19, 544, 499, 44, 45, 545, 304, 305, 306, 308, 216, 217, 218, 214, 203, 204, 205, 309, 310, 311, 312, 313, 314, 315, 546, 547, 548, 549, 550, 551, 552, 553, 554, 555, 556, 557, 558, 559, 560, 561, 562, 563, 564, 565, 566, 786, 787, 788, 789, 790, 791, 792, 819, 820, 821, 822, 826, 827, 832, 833, 834, 823, 824, 825] (by decide +kernel) (by decide +kernel)
set_option maxRecDepth 20000 in
theorem gL_law_X5_orders : GoodIn wsL_law (wsV RL 83 RX5 yX5_orders wsX5_orders) := goodIn_app (goodIn_of _ (by decide +kernel)) ggL_law_X5_orders
set_option maxRecDepth 20000 in
theorem ggL_law_X6_orders : GoodIn wsL_law wsX6_orders := goodIn_r _ [570, 147, 65, 151, 152, 5, 153, 571, 572, 573, 574, 575, 576, 577, 244, 245, 246, 578, 579, 580, 581, 190, 67, 68, 69, 320, 321, 322, 323, 63, 251, 252, 253, 254, 61, 240, 241, 242, 243, 228, 229, 230, 231, 62, 324, 325, 326, 327, 793, 794, 795, 796, 797, 798, 799, 800, 801, 802, 803, 804, 805, 806, 807, 808, 809, 810, 811, 812, 813, 814, 815, 816, 817, 818] (by decide +kernel) (by decide +kernel)
set_option maxRecDepth 20000 in
theorem gL_law_X6_orders : GoodIn wsL_law (wsV RL 86 RX6 yX6_orders wsX6_orders) := goodIn_app (goodIn_of _ (by decide +kernel)) ggL_law_X6_orders
set_option maxRecDepth 20000 in
theorem ggL_law_X5_holds : GoodIn wsL_law wsX5_holds := goodIn_r _ [585, 15, 198, 199, 200, 14, 201, 127, 34, 586, 587, 588, 2, 589, 16, 20, 408, 409, 410, 411, 412, 413, 414, 415, 128, 129, 123, 124, 125, 126, 416, 417, 418, 419, 420, 219, 421, 307, 130, 131, 132, 133, 134, 135, 136, 36, 137, 138, 139, 140, 590, 591, 592, 593, 541, 542, 543, 19, 544, 499, 44, 45, 545, 304, 305, 306, 308, 216, 217, 218, 214, 203, 204, 205, 309, 310, 311, 312, 313, 314, 315, 786, 787, 788, 789, 790, 791, 792, 819, 820, 821, 822, 832, 833, 834, 823, 824, 825] (by decide +kernel) (by decide +kernel)
set_option maxRecDepth 20000 in
theorem gL_law_X5_holds : GoodIn wsL_law (wsV RL 87 RX5 yX5_holds wsX5_holds) := goodIn_app (goodIn_of _ (by decide +kernel)) ggL_law_X5_holds
set_option maxRecDepth 20000 in
theorem ggL_law_X6_holds : GoodIn wsL_law wsX6_holds := goodIn_r _ [597, 62, 224, 225, 226, 5, 227, 147, 236, 237, 238, 239, 65, 578, 579, 580, 581, 190, 67, 68, 69, 320, 321, 322, 323, 63, 251, 252, 253, 254, 61, 240, 241, 242, 243, 244, 245, 246, 228, 229, 230, 231, 324, 325, 326, 327, 793, 794, 795, 796, 797, 798, 799, 800, 801, 802, 803, 804, 805, 806, 807, 808, 809, 810, 811, 812, 813, 814, 815, 816, 817, 818] (by decide +kernel) (by decide +kernel)
set_option maxRecDepth 20000 in
theorem gL_law_X6_holds : GoodIn wsL_law (wsV RL 90 RX6 yX6_holds wsX6_holds) := goodIn_app (goodIn_of _ (by decide +kernel)) ggL_law_X6_holds
set_option maxRecDepth 20000 in
theorem ggL_law_X5_advices : GoodIn wsL_law wsX5_advices := goodIn_r _ [601, 15, 198, 199, 200, 14, 201, 127, 34, 586, 587, 588, 2, 589, 16, 20, 408, 409, 410, 411, 412, 413, 414, 415, 128, 129, 123, 124, 125, 126, 416, 417, 418, 419, 420, 219, 421, 307, 130, 131, 132, 133, 134, 135, 136, 36, 137, 138, 139, 140, 590, 591, 592, 593, 541, 542, 543, 19, 544, 499, 44, 45, 545, 304, 305, 306, 308, 216, 217, 218, 214, 203, 204, 205, 309, 310, 311, 312, 313, 314, 315, 786, 787, 788, 789, 790, 791, 792, 819, 820, 821, 822, 832, 833, 834, 823, 824, 825] (by decide +kernel) (by decide +kernel)
set_option maxRecDepth 20000 in
theorem gL_law_X5_advices : GoodIn wsL_law (wsV RL 91 RX5 yX5_advices wsX5_advices) := goodIn_app (goodIn_of _ (by decide +kernel)) ggL_law_X5_advices
set_option maxRecDepth 20000 in
theorem ggL_law_X6_advices : GoodIn wsL_law wsX6_advices := goodIn_r _ [605, 63, 224, 225, 226, 5, 227, 147, 236, 237, 238, 239, 65, 578, 579, 580, 581, 190, 67, 68, 69, 320, 321, 322, 323, 251, 252, 253, 254, 61, 240, 241, 242, 243, 244, 245, 246, 228, 229, 230, 231, 62, 324, 325, 326, 327, 793, 794, 795, 796, 797, 798, 799, 800, 801, 802, 803, 804, 805, 806, 807, 808, 809, 810, 811, 812, 813, 814, 815, 816, 817, 818] (by decide +kernel) (by decide +kernel)
set_option maxRecDepth 20000 in
theorem gL_law_X6_advices : GoodIn wsL_law (wsV RL 94 RX6 yX6_advices wsX6_advices) := goodIn_app (goodIn_of _ (by decide +kernel)) ggL_law_X6_advices
set_option maxRecDepth 20000 in
theorem ggL_law_X5_kinds : GoodIn wsL_law wsX5_kinds := goodIn_r _ [609, 15, 198, 199, 200, 14, 201, 127, 34, 586, 587, 588, 2, 589, 16, 20, 408, 409, 410, 411, 412, 413, 414, 415, 128, 129, 123, 124, 125, 126, 416, 417, 418, 419, 420, 219, 421, 307, 130, 131, 132, 133, 134, 135, 136, 36, 137, 138, 139, 140, 590, 591, 592, 593, 541, 542, 543, 19, 544, 499, 44, 45, 545, 304, 305, 306, 308, 216, 217, 218, 214, 203, 204, 205, 309, 310, 311, 312, 313, 314, 315, 786, 787, 788, 789, 790, 791, 792, 819, 820, 821, 822, 832, 833, 834, 823, 824, 825] (by decide +kernel) (by decide +kernel)
set_option maxRecDepth 20000 in
theorem gL_law_X5_kinds : GoodIn wsL_law (wsV RL 95 RX5 yX5_kinds wsX5_kinds) := goodIn_app (goodIn_of _ (by decide +kernel)) ggL_law_X5_kinds
set_option maxRecDepth 20000 in
theorem ggL_law_X6_kinds : GoodIn wsL_law wsX6_kinds := goodIn_r _ [613, 61, 224, 225, 226, 5, 227, 147, 236, 237, 238, 239, 65, 578, 579, 580, 581, 190, 67, 68, 69, 320, 321, 322, 323, 63, 251, 252, 253, 254, 240, 241, 242, 243, 244, 245, 246, 228, 229, 230, 231, 62, 324, 325, 326, 327, 793, 794, 795, 796, 797, 798, 799, 800, 801, 802, 803, 804, 805, 806, 807, 808, 809, 810, 811, 812, 813, 814, 815, 816, 817, 818] (by decide +kernel) (by decide +kernel)
set_option maxRecDepth 20000 in
theorem gL_law_X6_kinds : GoodIn wsL_law (wsV RL 98 RX6 yX6_kinds wsX6_kinds) := goodIn_app (goodIn_of _ (by decide +kernel)) ggL_law_X6_kinds
set_option maxRecDepth 20000 in
theorem ggL_law_X5_odds : GoodIn wsL_law wsX5_odds := goodIn_r _ [617, 15, 618, 272, 198, 199, 200, 14, 201, 127, 34, 81, 82, 2, 83, 215, 216, 217, 218, 219, 214, 203, 204, 36, 205, 138, 139, 619, 620, 621, 786, 787, 788, 789, 790, 791, 792, 819, 820, 821, 822, 832, 833, 834] (by decide +kernel) (by decide +kernel)
set_option maxRecDepth 20000 in
theorem gL_law_X5_odds : GoodIn wsL_law (wsV RL 99 RX5 yX5_odds wsX5_odds) := goodIn_app (goodIn_of _ (by decide +kernel)) ggL_law_X5_odds
set_option maxRecDepth 20000 in
theorem ggL_law_X6_odds : GoodIn wsL_law wsX6_odds := goodIn_r _ [625, 626, 189, 627, 224, 225, 226, 5, 227, 147, 151, 152, 153, 236, 237, 238, 239, 65, 251, 252, 253, 254, 61, 240, 241, 242, 243, 244, 245, 246, 228, 229, 230, 231, 62, 628, 629, 630, 793, 794, 795, 796, 797, 798, 799, 800, 801, 802, 803, 804, 805, 806, 807, 808, 809, 810, 811, 812, 813, 814, 815, 816, 817, 818] (by decide +kernel) (by decide +kernel)
set_option maxRecDepth 20000 in
theorem gL_law_X6_odds : GoodIn wsL_law (wsV RL 103 RX6 yX6_odds wsX6_odds) := goodIn_app (goodIn_of _ (by decide +kernel)) ggL_law_X6_odds
set_option maxRecDepth 20000 in
theorem ggL_law_X5_sheet : GoodIn wsL_law wsX5_sheet := goodIn_r _ [634, 74, 77, 78, 79, 2, 80, 26, 81, 82, 83, 95, 96, 97, 98, 635, 636, 637, 28, 638, 88, 89, 639, 341, 342, 343, 640, 526, 527, 94, 53, 786, 787, 788, 789, 790, 791, 792, 828, 829, 830, 831] (by decide +kernel) (by decide +kernel)
set_option maxRecDepth 20000 in
theorem gL_law_X5_sheet : GoodIn wsL_law (wsV RL 104 RX5 yX5_sheet wsX5_sheet) := goodIn_app (goodIn_of _ (by decide +kernel)) ggL_law_X5_sheet
set_option maxRecDepth 20000 in
theorem ggL_law_X6_sheet : GoodIn wsL_law wsX6_sheet := goodIn_r _ [644, 145, 58, 59, 60, 148, 149, 5, 150, 151, 152, 153, 154, 155, 156, 161, 162, 163, 164, 793, 794, 795, 796, 797, 798, 799, 800, 801, 802, 803, 804, 805, 806, 807, 808, 809, 810, 811, 812, 813, 814, 815, 816, 817, 818] (by decide +kernel) (by decide +kernel)
set_option maxRecDepth 20000 in
theorem gL_law_X6_sheet : GoodIn wsL_law (wsV RL 107 RX6 yX6_sheet wsX6_sheet) := goodIn_app (goodIn_of _ (by decide +kernel)) ggL_law_X6_sheet
set_option maxRecDepth 20000 in
theorem ggL_law_X5_lose : GoodIn wsL_law wsX5_lose := goodIn_r _ [648, 649, 77, 78, 79, 2, 80, 26, 81, 82, 83, 828, 829, 830, 831, 786, 787, 788, 789, 790, 791, 792] (by decide +kernel) (by decide +kernel)
set_option maxRecDepth 20000 in
theorem gL_law_X5_lose : GoodIn wsL_law (wsV RL 108 RX5 yX5_lose wsX5_lose) := goodIn_app (goodIn_of _ (by decide +kernel)) ggL_law_X5_lose
set_option maxRecDepth 20000 in
theorem ggL_law_X6_lose : GoodIn wsL_law wsX6_lose := goodIn_r _ [653, 58, 148, 149, 5, 150, 151, 152, 153, 793, 794, 795, 796, 797, 798, 799, 800, 801, 802, 803, 804, 805, 806, 807, 808, 809, 810, 811, 812, 813, 814, 815, 816, 817, 818] (by decide +kernel) (by decide +kernel)
set_option maxRecDepth 20000 in
theorem gL_law_X6_lose : GoodIn wsL_law (wsV RL 111 RX6 yX6_lose wsX6_lose) := goodIn_app (goodIn_of _ (by decide +kernel)) ggL_law_X6_lose
set_option maxRecDepth 20000 in
theorem ggL_law_X5_put : GoodIn wsL_law wsX5_put := goodIn_r _ [657, 74, 77, 78, 79, 2, 80, 26, 81, 82, 83, 658, 659, 660, 28, 661, 88, 94, 95, 96, 97, 98, 662, 663, 664, 665, 53, 666, 667, 668, 669, 89, 786, 787, 788, 789, 790, 791, 792, 828, 829, 830, 831] (by decide +kernel) (by decide +kernel)
set_option maxRecDepth 20000 in
theorem gL_law_X5_put : GoodIn wsL_law (wsV RL 112 RX5 yX5_put wsX5_put) := goodIn_app (goodIn_of _ (by decide +kernel)) ggL_law_X5_put
set_option maxRecDepth 20000 in
theorem ggL_law_X6_put : GoodIn wsL_law wsX6_put := goodIn_r _ [673, 145, 58, 59, 60, 148, 149, 5, 150, 151, 152, 153, 161, 162, 163, 164, 793, 794, 795, 796, 797, 798, 799, 800, 801, 802, 803, 804, 805, 806, 807, 808, 809, 810, 811, 812, 813, 814, 815, 816, 817, 818] (by decide +kernel) (by decide +kernel)
set_option maxRecDepth 20000 in
theorem gL_law_X6_put : GoodIn wsL_law (wsV RL 115 RX6 yX6_put wsX6_put) := goodIn_app (goodIn_of _ (by decide +kernel)) ggL_law_X6_put
set_option maxRecDepth 20000 in
theorem ggL_law_X5_cell : GoodIn wsL_law wsX5_cell := goodIn_r _ [677, 74, 618, 77, 78, 79, 2, 80, 26, 81, 82, 83, 84, 85, 86, 28, 87, 88, 89, 658, 659, 660, 661, 94, 102, 103, 104, 105, 53, 786, 787, 788, 789, 790, 791, 792, 828, 829, 830, 831] (by decide +kernel) (by decide +kernel)
set_option maxRecDepth 20000 in
theorem gL_law_X5_cell : GoodIn wsL_law (wsV RL 116 RX5 yX5_cell wsX5_cell) := goodIn_app (goodIn_of _ (by decide +kernel)) ggL_law_X5_cell
set_option maxRecDepth 20000 in
theorem ggL_law_X6_cell : GoodIn wsL_law wsX6_cell := goodIn_r _ [681, 145, 626, 58, 59, 60, 148, 149, 5, 150, 151, 152, 153, 154, 155, 156, 682, 683, 684, 685, 793, 794, 795, 796, 797, 798, 799, 800, 801, 802, 803, 804, 805, 806, 807, 808, 809, 810, 811, 812, 813, 814, 815, 816, 817, 818] (by decide +kernel) (by decide +kernel)
set_option maxRecDepth 20000 in
theorem gL_law_X6_cell : GoodIn wsL_law (wsV RL 120 RX6 yX6_cell wsX6_cell) := goodIn_app (goodIn_of _ (by decide +kernel)) ggL_law_X6_cell
set_option maxRecDepth 20000 in
theorem ggL_law_X5_copy : GoodIn wsL_law wsX5_copy := goodIn_r _ [689, 74, 690, 691, 692, 693, 694, 77, 78, 79, 2, 80, 26, 81, 82, 83, 695, 696, 697, 28, 698, 88, 89, 699, 91, 92, 93, 94, 95, 96, 97, 98, 786, 787, 788, 789, 790, 791, 792, 828, 829, 830, 831] (by decide +kernel) (by decide +kernel)
set_option maxRecDepth 20000 in
theorem gL_law_X5_copy : GoodIn wsL_law (wsV RL 121 RX5 yX5_copy wsX5_copy) := goodIn_app (goodIn_of _ (by decide +kernel)) ggL_law_X5_copy
set_option maxRecDepth 20000 in
theorem ggL_law_X6_copy : GoodIn wsL_law wsX6_copy := goodIn_r _ [703, 145, 58, 59, 60, 148, 149, 5, 150, 151, 152, 153, 161, 162, 163, 164, 793, 794, 795, 796, 797, 798, 799, 800, 801, 802, 803, 804, 805, 806, 807, 808, 809, 810, 811, 812, 813, 814, 815, 816, 817, 818] (by decide +kernel) (by decide +kernel)
set_option maxRecDepth 20000 in
theorem gL_law_X6_copy : GoodIn wsL_law (wsV RL 124 RX6 yX6_copy wsX6_copy) := goodIn_app (goodIn_of _ (by decide +kernel)) ggL_law_X6_copy
set_option maxRecDepth 20000 in
theorem ggL_law_X5_tell : GoodIn wsL_law wsX5_tell := goodIn_r _ [707, 15, 195, 198, 199, 200, 14, 201, 127, 34, 708, 709, 710, 2, 711, 712, 713, 714, 715, 716, 717, 718, 719, 720, 721, 722, 723, 724, 196, 786, 787, 788, 789, 790, 791, 792, 832, 833, 834, 819, 820, 821, 822] (by decide +kernel) (by decide +kernel)
set_option maxRecDepth 20000 in
theorem gL_law_X5_tell : GoodIn wsL_law (wsV RL 125 RX5 yX5_tell wsX5_tell) := goodIn_app (goodIn_of _ (by decide +kernel)) ggL_law_X5_tell
set_option maxRecDepth 20000 in
theorem ggL_law_X6_tell : GoodIn wsL_law wsX6_tell := goodIn_r _ [728, 62, 61, 224, 225, 226, 5, 227, 147, 729, 730, 731, 732, 733, 793, 794, 795, 796, 797, 798, 799, 800, 801, 802, 803, 804, 805, 806, 807, 808, 809, 810, 811, 812, 813, 814, 815, 816, 817, 818] (by decide +kernel) (by decide +kernel)
set_option maxRecDepth 20000 in
theorem gL_law_X6_tell : GoodIn wsL_law (wsV RL 128 RX6 yX6_tell wsX6_tell) := goodIn_app (goodIn_of _ (by decide +kernel)) ggL_law_X6_tell
set_option maxRecDepth 20000 in
theorem ggL_law_X5_stroke : GoodIn wsL_law wsX5_stroke := goodIn_r _ [737, 15, 195, 198, 199, 200, 14, 201, 127, 34, 738, 739, 740, 2, 741, 712, 713, 714, 715, 716, 742, 743, 744, 745, 197, 786, 787, 788, 789, 790, 791, 792, 832, 833, 834, 819, 820, 821, 822] (by decide +kernel) (by decide +kernel)
set_option maxRecDepth 20000 in
theorem gL_law_X5_stroke : GoodIn wsL_law (wsV RL 129 RX5 yX5_stroke wsX5_stroke) := goodIn_app (goodIn_of _ (by decide +kernel)) ggL_law_X5_stroke
set_option maxRecDepth 20000 in
theorem ggL_law_X6_stroke : GoodIn wsL_law wsX6_stroke := goodIn_r _ [749, 61, 63, 224, 225, 226, 5, 227, 147, 729, 730, 731, 732, 733, 793, 794, 795, 796, 797, 798, 799, 800, 801, 802, 803, 804, 805, 806, 807, 808, 809, 810, 811, 812, 813, 814, 815, 816, 817, 818] (by decide +kernel) (by decide +kernel)
set_option maxRecDepth 20000 in
theorem gL_law_X6_stroke : GoodIn wsL_law (wsV RL 132 RX6 yX6_stroke wsX6_stroke) := goodIn_app (goodIn_of _ (by decide +kernel)) ggL_law_X6_stroke
set_option maxRecDepth 20000 in
theorem ggL_law_X5_as : GoodIn wsL_law wsX5_as := goodIn_r _ [753, 74, 15, 198, 199, 200, 14, 201, 127, 34, 81, 82, 2, 83, 754, 755, 756, 36, 757, 138, 95, 96, 97, 98, 786, 787, 788, 789, 790, 791, 792, 819, 820, 821, 822, 832, 833, 834] (by decide +kernel) (by decide +kernel)
set_option maxRecDepth 20000 in
theorem gL_law_X5_as : GoodIn wsL_law (wsV RL 133 RX5 yX5_as wsX5_as) := goodIn_app (goodIn_of _ (by decide +kernel)) ggL_law_X5_as
set_option maxRecDepth 20000 in
theorem ggL_law_X6_as : GoodIn wsL_law wsX6_as := goodIn_r _ [761, 145, 61, 224, 225, 226, 5, 227, 147, 151, 152, 153, 161, 162, 163, 164, 793, 794, 795, 796, 797, 798, 799, 800, 801, 802, 803, 804, 805, 806, 807, 808, 809, 810, 811, 812, 813, 814, 815, 816, 817, 818] (by decide +kernel) (by decide +kernel)
set_option maxRecDepth 20000 in
theorem gL_law_X6_as : GoodIn wsL_law (wsV RL 136 RX6 yX6_as wsX6_as) := goodIn_app (goodIn_of _ (by decide +kernel)) ggL_law_X6_as
set_option maxRecDepth 20000 in
theorem ggL_law_X5_trace : GoodIn wsL_law wsX5_trace := goodIn_r _ [765, 716, 786, 787, 788, 789, 790, 791, 792] (by decide +kernel) (by decide +kernel)
set_option maxRecDepth 20000 in
theorem gL_law_X5_trace : GoodIn wsL_law (wsV RL 137 RX5 yX5_trace wsX5_trace) := goodIn_app (goodIn_of _ (by decide +kernel)) ggL_law_X5_trace
set_option maxRecDepth 20000 in
theorem ggL_law_X6_trace : GoodIn wsL_law wsX6_trace := goodIn_r _ [769, 733, 793, 794, 795, 796, 797, 798, 799, 800, 801, 802, 803, 804, 805, 806, 807, 808, 809, 810, 811, 812, 813, 814, 815, 816, 817, 818] (by decide +kernel) (by decide +kernel)
set_option maxRecDepth 20000 in
theorem gL_law_X6_trace : GoodIn wsL_law (wsV RL 140 RX6 yX6_trace wsX6_trace) := goodIn_app (goodIn_of _ (by decide +kernel)) ggL_law_X6_trace
set_option maxRecDepth 20000 in
theorem ggL_law_X5_fault : GoodIn wsL_law wsX5_fault := goodIn_r _ [773, 74, 786, 787, 788, 789, 790, 791, 792] (by decide +kernel) (by decide +kernel)
set_option maxRecDepth 20000 in
theorem gL_law_X5_fault : GoodIn wsL_law (wsV RL 141 RX5 yX5_fault wsX5_fault) := goodIn_app (goodIn_of _ (by decide +kernel)) ggL_law_X5_fault
set_option maxRecDepth 20000 in
theorem ggL_law_X6_fault : GoodIn wsL_law wsX6_fault := goodIn_r _ [777, 145, 793, 794, 795, 796, 797, 798, 799, 800, 801, 802, 803, 804, 805, 806, 807, 808, 809, 810, 811, 812, 813, 814, 815, 816, 817, 818] (by decide +kernel) (by decide +kernel)
set_option maxRecDepth 20000 in
theorem gL_law_X6_fault : GoodIn wsL_law (wsV RL 144 RX6 yX6_fault wsX6_fault) := goodIn_app (goodIn_of _ (by decide +kernel)) ggL_law_X6_fault
set_option maxRecDepth 20000 in
theorem ggL_law_X5_many : GoodIn wsL_law wsX5_many := goodIn_r _ [781, 15, 76, 259, 272, 20, 75, 206, 207, 208, 14, 209, 128, 129, 215, 216, 217, 218, 127, 34, 219, 214, 203, 204, 36, 205, 138, 139, 786, 787, 788, 789, 790, 791, 792, 819, 820, 821, 822, 823, 824, 825, 832, 833, 834] (by decide +kernel) (by decide +kernel)
set_option maxRecDepth 20000 in
theorem gL_law_X5_many : GoodIn wsL_law (wsV RL 145 RX5 yX5_many wsX5_many) := goodIn_app (goodIn_of _ (by decide +kernel)) ggL_law_X5_many
set_option maxRecDepth 20000 in
theorem ggL_law_X6_many : GoodIn wsL_law wsX6_many := goodIn_r _ [785, 147, 188, 189, 190, 247, 248, 249, 5, 250, 236, 237, 238, 239, 65, 251, 252, 253, 254, 61, 240, 241, 242, 243, 244, 245, 246, 228, 229, 230, 231, 62, 348, 349, 350, 793, 794, 795, 796, 797, 798, 799, 800, 801, 802, 803, 804, 805, 806, 807, 808, 809, 810, 811, 812, 813, 814, 815, 816, 817, 818] (by decide +kernel) (by decide +kernel)
set_option maxRecDepth 20000 in
theorem gL_law_X6_many : GoodIn wsL_law (wsV RL 148 RX6 yX6_many wsX6_many) := goodIn_app (goodIn_of _ (by decide +kernel)) ggL_law_X6_many
end
section
theorem dL_law_0 : decode cL_law 0 = .ok (.new 7, 3) := by decide +kernel
theorem dL_law_3 : decode cL_law 3 = .ok (.dup, 1) := by decide +kernel
theorem dL_law_4 : decode cL_law 4 = .ok (.invokespecial 9, 3) := by decide +kernel
theorem dL_law_7 : decode cL_law 7 = .ok (.astore_n 1, 1) := by decide +kernel
theorem dL_law_8 : decode cL_law 8 = .ok (.new 10, 3) := by decide +kernel
theorem dL_law_11 : decode cL_law 11 = .ok (.dup, 1) := by decide +kernel
theorem dL_law_12 : decode cL_law 12 = .ok (.invokespecial 12, 3) := by decide +kernel
theorem dL_law_15 : decode cL_law 15 = .ok (.astore_n 2, 1) := by decide +kernel
theorem dL_law_16 : decode cL_law 16 = .ok (.iconst 0, 1) := by decide +kernel
theorem dL_law_17 : decode cL_law 17 = .ok (.istore_n 3, 1) := by decide +kernel
theorem dL_law_18 : decode cL_law 18 = .ok (.iload_n 3, 1) := by decide +kernel
theorem dL_law_19 : decode cL_law 19 = .ok (.aload_n 0, 1) := by decide +kernel
theorem dL_law_20 : decode cL_law 20 = .ok (.arraylength, 1) := by decide +kernel
theorem dL_law_21 : decode cL_law 21 = .ok (.bipush 6, 2) := by decide +kernel
theorem dL_law_23 : decode cL_law 23 = .ok (.isub, 1) := by decide +kernel
theorem dL_law_24 : decode cL_law 24 = .ok (.if_icmp .gt 1116, 3) := by decide +kernel
theorem dL_law_27 : decode cL_law 27 = .ok (.aload_n 0, 1) := by decide +kernel
theorem dL_law_28 : decode cL_law 28 = .ok (.iload_n 3, 1) := by decide +kernel
theorem dL_law_29 : decode cL_law 29 = .ok (.iaload, 1) := by decide +kernel
theorem dL_law_30 : decode cL_law 30 = .ok (.bipush 31, 2) := by decide +kernel
theorem dL_law_32 : decode cL_law 32 = .ok (.iand, 1) := by decide +kernel
theorem dL_law_33 : decode cL_law 33 = .ok (.tableswitch 1101 0 31 #[143, 196, 229, 252, 275, 308, 321, 354, 377, 420, 433, 496, 519, 542, 565, 608, 631, 654, 677, 700, 723, 757, 800, 823, 866, 910, 973, 996, 1019, 1052, 1065, 1078], 143) := by decide +kernel
theorem dL_law_176 : decode cL_law 176 = .ok (.aload_n 1, 1) := by decide +kernel
theorem dL_law_177 : decode cL_law 177 = .ok (.aload_n 0, 1) := by decide +kernel
theorem dL_law_178 : decode cL_law 178 = .ok (.iload_n 3, 1) := by decide +kernel
theorem dL_law_179 : decode cL_law 179 = .ok (.iconst 1, 1) := by decide +kernel
theorem dL_law_180 : decode cL_law 180 = .ok (.iadd, 1) := by decide +kernel
theorem dL_law_181 : decode cL_law 181 = .ok (.iaload, 1) := by decide +kernel
theorem dL_law_182 : decode cL_law 182 = .ok (.aload_n 0, 1) := by decide +kernel
theorem dL_law_183 : decode cL_law 183 = .ok (.iload_n 3, 1) := by decide +kernel
theorem dL_law_184 : decode cL_law 184 = .ok (.iconst 2, 1) := by decide +kernel
theorem dL_law_185 : decode cL_law 185 = .ok (.iadd, 1) := by decide +kernel
theorem dL_law_186 : decode cL_law 186 = .ok (.iaload, 1) := by decide +kernel
theorem dL_law_187 : decode cL_law 187 = .ok (.aload_n 0, 1) := by decide +kernel
theorem dL_law_188 : decode cL_law 188 = .ok (.iload_n 3, 1) := by decide +kernel
theorem dL_law_189 : decode cL_law 189 = .ok (.iconst 3, 1) := by decide +kernel
theorem dL_law_190 : decode cL_law 190 = .ok (.iadd, 1) := by decide +kernel
theorem dL_law_191 : decode cL_law 191 = .ok (.iaload, 1) := by decide +kernel
theorem dL_law_192 : decode cL_law 192 = .ok (.aload_n 0, 1) := by decide +kernel
theorem dL_law_193 : decode cL_law 193 = .ok (.iload_n 3, 1) := by decide +kernel
theorem dL_law_194 : decode cL_law 194 = .ok (.iconst 4, 1) := by decide +kernel
theorem dL_law_195 : decode cL_law 195 = .ok (.iadd, 1) := by decide +kernel
theorem dL_law_196 : decode cL_law 196 = .ok (.iaload, 1) := by decide +kernel
theorem dL_law_197 : decode cL_law 197 = .ok (.invokevirtual 13, 3) := by decide +kernel
theorem dL_law_200 : decode cL_law 200 = .ok (.aload_n 2, 1) := by decide +kernel
theorem dL_law_201 : decode cL_law 201 = .ok (.aload_n 0, 1) := by decide +kernel
theorem dL_law_202 : decode cL_law 202 = .ok (.iload_n 3, 1) := by decide +kernel
theorem dL_law_203 : decode cL_law 203 = .ok (.iconst 1, 1) := by decide +kernel
theorem dL_law_204 : decode cL_law 204 = .ok (.iadd, 1) := by decide +kernel
theorem dL_law_205 : decode cL_law 205 = .ok (.iaload, 1) := by decide +kernel
theorem dL_law_206 : decode cL_law 206 = .ok (.aload_n 0, 1) := by decide +kernel
theorem dL_law_207 : decode cL_law 207 = .ok (.iload_n 3, 1) := by decide +kernel
theorem dL_law_208 : decode cL_law 208 = .ok (.iconst 2, 1) := by decide +kernel
theorem dL_law_209 : decode cL_law 209 = .ok (.iadd, 1) := by decide +kernel
theorem dL_law_210 : decode cL_law 210 = .ok (.iaload, 1) := by decide +kernel
theorem dL_law_211 : decode cL_law 211 = .ok (.aload_n 0, 1) := by decide +kernel
theorem dL_law_212 : decode cL_law 212 = .ok (.iload_n 3, 1) := by decide +kernel
theorem dL_law_213 : decode cL_law 213 = .ok (.iconst 3, 1) := by decide +kernel
theorem dL_law_214 : decode cL_law 214 = .ok (.iadd, 1) := by decide +kernel
theorem dL_law_215 : decode cL_law 215 = .ok (.iaload, 1) := by decide +kernel
theorem dL_law_216 : decode cL_law 216 = .ok (.aload_n 0, 1) := by decide +kernel
theorem dL_law_217 : decode cL_law 217 = .ok (.iload_n 3, 1) := by decide +kernel
theorem dL_law_218 : decode cL_law 218 = .ok (.iconst 4, 1) := by decide +kernel
theorem dL_law_219 : decode cL_law 219 = .ok (.iadd, 1) := by decide +kernel
theorem dL_law_220 : decode cL_law 220 = .ok (.iaload, 1) := by decide +kernel
theorem dL_law_221 : decode cL_law 221 = .ok (.invokevirtual 17, 3) := by decide +kernel
theorem dL_law_224 : decode cL_law 224 = .ok (.if_icmp .eq 910, 3) := by decide +kernel
theorem dL_law_227 : decode cL_law 227 = .ok (.iconst 0, 1) := by decide +kernel
theorem dL_law_228 : decode cL_law 228 = .ok (.ireturn, 1) := by decide +kernel
theorem dL_law_229 : decode cL_law 229 = .ok (.aload_n 1, 1) := by decide +kernel
theorem dL_law_230 : decode cL_law 230 = .ok (.aload_n 0, 1) := by decide +kernel
theorem dL_law_231 : decode cL_law 231 = .ok (.iload_n 3, 1) := by decide +kernel
theorem dL_law_232 : decode cL_law 232 = .ok (.iconst 1, 1) := by decide +kernel
theorem dL_law_233 : decode cL_law 233 = .ok (.iadd, 1) := by decide +kernel
theorem dL_law_234 : decode cL_law 234 = .ok (.iaload, 1) := by decide +kernel
theorem dL_law_235 : decode cL_law 235 = .ok (.aload_n 0, 1) := by decide +kernel
theorem dL_law_236 : decode cL_law 236 = .ok (.iload_n 3, 1) := by decide +kernel
theorem dL_law_237 : decode cL_law 237 = .ok (.iconst 2, 1) := by decide +kernel
theorem dL_law_238 : decode cL_law 238 = .ok (.iadd, 1) := by decide +kernel
theorem dL_law_239 : decode cL_law 239 = .ok (.iaload, 1) := by decide +kernel
theorem dL_law_240 : decode cL_law 240 = .ok (.invokevirtual 18, 3) := by decide +kernel
theorem dL_law_243 : decode cL_law 243 = .ok (.aload_n 2, 1) := by decide +kernel
theorem dL_law_244 : decode cL_law 244 = .ok (.aload_n 0, 1) := by decide +kernel
theorem dL_law_245 : decode cL_law 245 = .ok (.iload_n 3, 1) := by decide +kernel
theorem dL_law_246 : decode cL_law 246 = .ok (.iconst 1, 1) := by decide +kernel
theorem dL_law_247 : decode cL_law 247 = .ok (.iadd, 1) := by decide +kernel
theorem dL_law_248 : decode cL_law 248 = .ok (.iaload, 1) := by decide +kernel
theorem dL_law_249 : decode cL_law 249 = .ok (.aload_n 0, 1) := by decide +kernel
theorem dL_law_250 : decode cL_law 250 = .ok (.iload_n 3, 1) := by decide +kernel
theorem dL_law_251 : decode cL_law 251 = .ok (.iconst 2, 1) := by decide +kernel
theorem dL_law_252 : decode cL_law 252 = .ok (.iadd, 1) := by decide +kernel
theorem dL_law_253 : decode cL_law 253 = .ok (.iaload, 1) := by decide +kernel
theorem dL_law_254 : decode cL_law 254 = .ok (.invokevirtual 22, 3) := by decide +kernel
theorem dL_law_257 : decode cL_law 257 = .ok (.if_icmp .eq 877, 3) := by decide +kernel
theorem dL_law_260 : decode cL_law 260 = .ok (.iconst 0, 1) := by decide +kernel
theorem dL_law_261 : decode cL_law 261 = .ok (.ireturn, 1) := by decide +kernel
theorem dL_law_262 : decode cL_law 262 = .ok (.aload_n 1, 1) := by decide +kernel
theorem dL_law_263 : decode cL_law 263 = .ok (.aload_n 0, 1) := by decide +kernel
theorem dL_law_264 : decode cL_law 264 = .ok (.iload_n 3, 1) := by decide +kernel
theorem dL_law_265 : decode cL_law 265 = .ok (.iconst 1, 1) := by decide +kernel
theorem dL_law_266 : decode cL_law 266 = .ok (.iadd, 1) := by decide +kernel
theorem dL_law_267 : decode cL_law 267 = .ok (.iaload, 1) := by decide +kernel
theorem dL_law_268 : decode cL_law 268 = .ok (.invokevirtual 23, 3) := by decide +kernel
theorem dL_law_271 : decode cL_law 271 = .ok (.aload_n 2, 1) := by decide +kernel
theorem dL_law_272 : decode cL_law 272 = .ok (.aload_n 0, 1) := by decide +kernel
theorem dL_law_273 : decode cL_law 273 = .ok (.iload_n 3, 1) := by decide +kernel
theorem dL_law_274 : decode cL_law 274 = .ok (.iconst 1, 1) := by decide +kernel
theorem dL_law_275 : decode cL_law 275 = .ok (.iadd, 1) := by decide +kernel
theorem dL_law_276 : decode cL_law 276 = .ok (.iaload, 1) := by decide +kernel
theorem dL_law_277 : decode cL_law 277 = .ok (.invokevirtual 27, 3) := by decide +kernel
theorem dL_law_280 : decode cL_law 280 = .ok (.if_icmp .eq 854, 3) := by decide +kernel
theorem dL_law_283 : decode cL_law 283 = .ok (.iconst 0, 1) := by decide +kernel
theorem dL_law_284 : decode cL_law 284 = .ok (.ireturn, 1) := by decide +kernel
theorem dL_law_285 : decode cL_law 285 = .ok (.aload_n 1, 1) := by decide +kernel
theorem dL_law_286 : decode cL_law 286 = .ok (.aload_n 0, 1) := by decide +kernel
theorem dL_law_287 : decode cL_law 287 = .ok (.iload_n 3, 1) := by decide +kernel
theorem dL_law_288 : decode cL_law 288 = .ok (.iconst 1, 1) := by decide +kernel
theorem dL_law_289 : decode cL_law 289 = .ok (.iadd, 1) := by decide +kernel
theorem dL_law_290 : decode cL_law 290 = .ok (.iaload, 1) := by decide +kernel
theorem dL_law_291 : decode cL_law 291 = .ok (.invokevirtual 28, 3) := by decide +kernel
theorem dL_law_294 : decode cL_law 294 = .ok (.aload_n 2, 1) := by decide +kernel
theorem dL_law_295 : decode cL_law 295 = .ok (.aload_n 0, 1) := by decide +kernel
theorem dL_law_296 : decode cL_law 296 = .ok (.iload_n 3, 1) := by decide +kernel
theorem dL_law_297 : decode cL_law 297 = .ok (.iconst 1, 1) := by decide +kernel
theorem dL_law_298 : decode cL_law 298 = .ok (.iadd, 1) := by decide +kernel
theorem dL_law_299 : decode cL_law 299 = .ok (.iaload, 1) := by decide +kernel
theorem dL_law_300 : decode cL_law 300 = .ok (.invokevirtual 31, 3) := by decide +kernel
theorem dL_law_303 : decode cL_law 303 = .ok (.if_icmp .eq 831, 3) := by decide +kernel
theorem dL_law_306 : decode cL_law 306 = .ok (.iconst 0, 1) := by decide +kernel
theorem dL_law_307 : decode cL_law 307 = .ok (.ireturn, 1) := by decide +kernel
theorem dL_law_308 : decode cL_law 308 = .ok (.aload_n 1, 1) := by decide +kernel
theorem dL_law_309 : decode cL_law 309 = .ok (.aload_n 0, 1) := by decide +kernel
theorem dL_law_310 : decode cL_law 310 = .ok (.iload_n 3, 1) := by decide +kernel
theorem dL_law_311 : decode cL_law 311 = .ok (.iconst 1, 1) := by decide +kernel
theorem dL_law_312 : decode cL_law 312 = .ok (.iadd, 1) := by decide +kernel
theorem dL_law_313 : decode cL_law 313 = .ok (.iaload, 1) := by decide +kernel
theorem dL_law_314 : decode cL_law 314 = .ok (.aload_n 0, 1) := by decide +kernel
theorem dL_law_315 : decode cL_law 315 = .ok (.iload_n 3, 1) := by decide +kernel
theorem dL_law_316 : decode cL_law 316 = .ok (.iconst 2, 1) := by decide +kernel
theorem dL_law_317 : decode cL_law 317 = .ok (.iadd, 1) := by decide +kernel
theorem dL_law_318 : decode cL_law 318 = .ok (.iaload, 1) := by decide +kernel
theorem dL_law_319 : decode cL_law 319 = .ok (.invokevirtual 32, 3) := by decide +kernel
theorem dL_law_322 : decode cL_law 322 = .ok (.aload_n 2, 1) := by decide +kernel
theorem dL_law_323 : decode cL_law 323 = .ok (.aload_n 0, 1) := by decide +kernel
theorem dL_law_324 : decode cL_law 324 = .ok (.iload_n 3, 1) := by decide +kernel
theorem dL_law_325 : decode cL_law 325 = .ok (.iconst 1, 1) := by decide +kernel
theorem dL_law_326 : decode cL_law 326 = .ok (.iadd, 1) := by decide +kernel
theorem dL_law_327 : decode cL_law 327 = .ok (.iaload, 1) := by decide +kernel
theorem dL_law_328 : decode cL_law 328 = .ok (.aload_n 0, 1) := by decide +kernel
theorem dL_law_329 : decode cL_law 329 = .ok (.iload_n 3, 1) := by decide +kernel
theorem dL_law_330 : decode cL_law 330 = .ok (.iconst 2, 1) := by decide +kernel
theorem dL_law_331 : decode cL_law 331 = .ok (.iadd, 1) := by decide +kernel
theorem dL_law_332 : decode cL_law 332 = .ok (.iaload, 1) := by decide +kernel
theorem dL_law_333 : decode cL_law 333 = .ok (.invokevirtual 35, 3) := by decide +kernel
theorem dL_law_336 : decode cL_law 336 = .ok (.if_icmp .eq 798, 3) := by decide +kernel
theorem dL_law_339 : decode cL_law 339 = .ok (.iconst 0, 1) := by decide +kernel
theorem dL_law_340 : decode cL_law 340 = .ok (.ireturn, 1) := by decide +kernel
theorem dL_law_341 : decode cL_law 341 = .ok (.aload_n 1, 1) := by decide +kernel
theorem dL_law_342 : decode cL_law 342 = .ok (.invokevirtual 36, 3) := by decide +kernel
theorem dL_law_345 : decode cL_law 345 = .ok (.aload_n 2, 1) := by decide +kernel
theorem dL_law_346 : decode cL_law 346 = .ok (.invokevirtual 40, 3) := by decide +kernel
theorem dL_law_349 : decode cL_law 349 = .ok (.if_icmp .eq 785, 3) := by decide +kernel
theorem dL_law_352 : decode cL_law 352 = .ok (.iconst 0, 1) := by decide +kernel
theorem dL_law_353 : decode cL_law 353 = .ok (.ireturn, 1) := by decide +kernel
theorem dL_law_354 : decode cL_law 354 = .ok (.aload_n 1, 1) := by decide +kernel
theorem dL_law_355 : decode cL_law 355 = .ok (.aload_n 0, 1) := by decide +kernel
theorem dL_law_356 : decode cL_law 356 = .ok (.iload_n 3, 1) := by decide +kernel
theorem dL_law_357 : decode cL_law 357 = .ok (.iconst 1, 1) := by decide +kernel
theorem dL_law_358 : decode cL_law 358 = .ok (.iadd, 1) := by decide +kernel
theorem dL_law_359 : decode cL_law 359 = .ok (.iaload, 1) := by decide +kernel
theorem dL_law_360 : decode cL_law 360 = .ok (.aload_n 0, 1) := by decide +kernel
theorem dL_law_361 : decode cL_law 361 = .ok (.iload_n 3, 1) := by decide +kernel
theorem dL_law_362 : decode cL_law 362 = .ok (.iconst 2, 1) := by decide +kernel
theorem dL_law_363 : decode cL_law 363 = .ok (.iadd, 1) := by decide +kernel
theorem dL_law_364 : decode cL_law 364 = .ok (.iaload, 1) := by decide +kernel
theorem dL_law_365 : decode cL_law 365 = .ok (.invokevirtual 41, 3) := by decide +kernel
theorem dL_law_368 : decode cL_law 368 = .ok (.aload_n 2, 1) := by decide +kernel
theorem dL_law_369 : decode cL_law 369 = .ok (.aload_n 0, 1) := by decide +kernel
theorem dL_law_370 : decode cL_law 370 = .ok (.iload_n 3, 1) := by decide +kernel
theorem dL_law_371 : decode cL_law 371 = .ok (.iconst 1, 1) := by decide +kernel
theorem dL_law_372 : decode cL_law 372 = .ok (.iadd, 1) := by decide +kernel
theorem dL_law_373 : decode cL_law 373 = .ok (.iaload, 1) := by decide +kernel
theorem dL_law_374 : decode cL_law 374 = .ok (.aload_n 0, 1) := by decide +kernel
theorem dL_law_375 : decode cL_law 375 = .ok (.iload_n 3, 1) := by decide +kernel
theorem dL_law_376 : decode cL_law 376 = .ok (.iconst 2, 1) := by decide +kernel
theorem dL_law_377 : decode cL_law 377 = .ok (.iadd, 1) := by decide +kernel
theorem dL_law_378 : decode cL_law 378 = .ok (.iaload, 1) := by decide +kernel
theorem dL_law_379 : decode cL_law 379 = .ok (.invokevirtual 44, 3) := by decide +kernel
theorem dL_law_382 : decode cL_law 382 = .ok (.if_icmp .eq 752, 3) := by decide +kernel
theorem dL_law_385 : decode cL_law 385 = .ok (.iconst 0, 1) := by decide +kernel
theorem dL_law_386 : decode cL_law 386 = .ok (.ireturn, 1) := by decide +kernel
theorem dL_law_387 : decode cL_law 387 = .ok (.aload_n 1, 1) := by decide +kernel
theorem dL_law_388 : decode cL_law 388 = .ok (.aload_n 0, 1) := by decide +kernel
theorem dL_law_389 : decode cL_law 389 = .ok (.iload_n 3, 1) := by decide +kernel
theorem dL_law_390 : decode cL_law 390 = .ok (.iconst 1, 1) := by decide +kernel
theorem dL_law_391 : decode cL_law 391 = .ok (.iadd, 1) := by decide +kernel
theorem dL_law_392 : decode cL_law 392 = .ok (.iaload, 1) := by decide +kernel
theorem dL_law_393 : decode cL_law 393 = .ok (.invokevirtual 45, 3) := by decide +kernel
theorem dL_law_396 : decode cL_law 396 = .ok (.aload_n 2, 1) := by decide +kernel
theorem dL_law_397 : decode cL_law 397 = .ok (.aload_n 0, 1) := by decide +kernel
theorem dL_law_398 : decode cL_law 398 = .ok (.iload_n 3, 1) := by decide +kernel
theorem dL_law_399 : decode cL_law 399 = .ok (.iconst 1, 1) := by decide +kernel
theorem dL_law_400 : decode cL_law 400 = .ok (.iadd, 1) := by decide +kernel
theorem dL_law_401 : decode cL_law 401 = .ok (.iaload, 1) := by decide +kernel
theorem dL_law_402 : decode cL_law 402 = .ok (.invokevirtual 48, 3) := by decide +kernel
theorem dL_law_405 : decode cL_law 405 = .ok (.if_icmp .eq 729, 3) := by decide +kernel
theorem dL_law_408 : decode cL_law 408 = .ok (.iconst 0, 1) := by decide +kernel
theorem dL_law_409 : decode cL_law 409 = .ok (.ireturn, 1) := by decide +kernel
theorem dL_law_410 : decode cL_law 410 = .ok (.aload_n 1, 1) := by decide +kernel
theorem dL_law_411 : decode cL_law 411 = .ok (.aload_n 0, 1) := by decide +kernel
theorem dL_law_412 : decode cL_law 412 = .ok (.iload_n 3, 1) := by decide +kernel
theorem dL_law_413 : decode cL_law 413 = .ok (.iconst 1, 1) := by decide +kernel
theorem dL_law_414 : decode cL_law 414 = .ok (.iadd, 1) := by decide +kernel
theorem dL_law_415 : decode cL_law 415 = .ok (.iaload, 1) := by decide +kernel
theorem dL_law_416 : decode cL_law 416 = .ok (.aload_n 0, 1) := by decide +kernel
theorem dL_law_417 : decode cL_law 417 = .ok (.iload_n 3, 1) := by decide +kernel
theorem dL_law_418 : decode cL_law 418 = .ok (.iconst 2, 1) := by decide +kernel
theorem dL_law_419 : decode cL_law 419 = .ok (.iadd, 1) := by decide +kernel
theorem dL_law_420 : decode cL_law 420 = .ok (.iaload, 1) := by decide +kernel
theorem dL_law_421 : decode cL_law 421 = .ok (.aload_n 0, 1) := by decide +kernel
theorem dL_law_422 : decode cL_law 422 = .ok (.iload_n 3, 1) := by decide +kernel
theorem dL_law_423 : decode cL_law 423 = .ok (.iconst 3, 1) := by decide +kernel
theorem dL_law_424 : decode cL_law 424 = .ok (.iadd, 1) := by decide +kernel
theorem dL_law_425 : decode cL_law 425 = .ok (.iaload, 1) := by decide +kernel
theorem dL_law_426 : decode cL_law 426 = .ok (.invokevirtual 49, 3) := by decide +kernel
theorem dL_law_429 : decode cL_law 429 = .ok (.aload_n 2, 1) := by decide +kernel
theorem dL_law_430 : decode cL_law 430 = .ok (.aload_n 0, 1) := by decide +kernel
theorem dL_law_431 : decode cL_law 431 = .ok (.iload_n 3, 1) := by decide +kernel
theorem dL_law_432 : decode cL_law 432 = .ok (.iconst 1, 1) := by decide +kernel
theorem dL_law_433 : decode cL_law 433 = .ok (.iadd, 1) := by decide +kernel
theorem dL_law_434 : decode cL_law 434 = .ok (.iaload, 1) := by decide +kernel
theorem dL_law_435 : decode cL_law 435 = .ok (.aload_n 0, 1) := by decide +kernel
theorem dL_law_436 : decode cL_law 436 = .ok (.iload_n 3, 1) := by decide +kernel
theorem dL_law_437 : decode cL_law 437 = .ok (.iconst 2, 1) := by decide +kernel
theorem dL_law_438 : decode cL_law 438 = .ok (.iadd, 1) := by decide +kernel
theorem dL_law_439 : decode cL_law 439 = .ok (.iaload, 1) := by decide +kernel
theorem dL_law_440 : decode cL_law 440 = .ok (.aload_n 0, 1) := by decide +kernel
theorem dL_law_441 : decode cL_law 441 = .ok (.iload_n 3, 1) := by decide +kernel
theorem dL_law_442 : decode cL_law 442 = .ok (.iconst 3, 1) := by decide +kernel
theorem dL_law_443 : decode cL_law 443 = .ok (.iadd, 1) := by decide +kernel
theorem dL_law_444 : decode cL_law 444 = .ok (.iaload, 1) := by decide +kernel
theorem dL_law_445 : decode cL_law 445 = .ok (.invokevirtual 53, 3) := by decide +kernel
theorem dL_law_448 : decode cL_law 448 = .ok (.if_icmp .eq 686, 3) := by decide +kernel
theorem dL_law_451 : decode cL_law 451 = .ok (.iconst 0, 1) := by decide +kernel
theorem dL_law_452 : decode cL_law 452 = .ok (.ireturn, 1) := by decide +kernel
theorem dL_law_453 : decode cL_law 453 = .ok (.aload_n 1, 1) := by decide +kernel
theorem dL_law_454 : decode cL_law 454 = .ok (.invokevirtual 54, 3) := by decide +kernel
theorem dL_law_457 : decode cL_law 457 = .ok (.aload_n 2, 1) := by decide +kernel
theorem dL_law_458 : decode cL_law 458 = .ok (.invokevirtual 57, 3) := by decide +kernel
theorem dL_law_461 : decode cL_law 461 = .ok (.if_icmp .eq 673, 3) := by decide +kernel
theorem dL_law_464 : decode cL_law 464 = .ok (.iconst 0, 1) := by decide +kernel
theorem dL_law_465 : decode cL_law 465 = .ok (.ireturn, 1) := by decide +kernel
theorem dL_law_466 : decode cL_law 466 = .ok (.aload_n 1, 1) := by decide +kernel
theorem dL_law_467 : decode cL_law 467 = .ok (.aload_n 0, 1) := by decide +kernel
theorem dL_law_468 : decode cL_law 468 = .ok (.iload_n 3, 1) := by decide +kernel
theorem dL_law_469 : decode cL_law 469 = .ok (.iconst 1, 1) := by decide +kernel
theorem dL_law_470 : decode cL_law 470 = .ok (.iadd, 1) := by decide +kernel
theorem dL_law_471 : decode cL_law 471 = .ok (.iaload, 1) := by decide +kernel
theorem dL_law_472 : decode cL_law 472 = .ok (.aload_n 0, 1) := by decide +kernel
theorem dL_law_473 : decode cL_law 473 = .ok (.iload_n 3, 1) := by decide +kernel
theorem dL_law_474 : decode cL_law 474 = .ok (.iconst 2, 1) := by decide +kernel
theorem dL_law_475 : decode cL_law 475 = .ok (.iadd, 1) := by decide +kernel
theorem dL_law_476 : decode cL_law 476 = .ok (.iaload, 1) := by decide +kernel
theorem dL_law_477 : decode cL_law 477 = .ok (.aload_n 0, 1) := by decide +kernel
theorem dL_law_478 : decode cL_law 478 = .ok (.iload_n 3, 1) := by decide +kernel
theorem dL_law_479 : decode cL_law 479 = .ok (.iconst 3, 1) := by decide +kernel
theorem dL_law_480 : decode cL_law 480 = .ok (.iadd, 1) := by decide +kernel
theorem dL_law_481 : decode cL_law 481 = .ok (.iaload, 1) := by decide +kernel
theorem dL_law_482 : decode cL_law 482 = .ok (.aload_n 0, 1) := by decide +kernel
theorem dL_law_483 : decode cL_law 483 = .ok (.iload_n 3, 1) := by decide +kernel
theorem dL_law_484 : decode cL_law 484 = .ok (.iconst 4, 1) := by decide +kernel
theorem dL_law_485 : decode cL_law 485 = .ok (.iadd, 1) := by decide +kernel
theorem dL_law_486 : decode cL_law 486 = .ok (.iaload, 1) := by decide +kernel
theorem dL_law_487 : decode cL_law 487 = .ok (.aload_n 0, 1) := by decide +kernel
theorem dL_law_488 : decode cL_law 488 = .ok (.iload_n 3, 1) := by decide +kernel
theorem dL_law_489 : decode cL_law 489 = .ok (.iconst 5, 1) := by decide +kernel
theorem dL_law_490 : decode cL_law 490 = .ok (.iadd, 1) := by decide +kernel
theorem dL_law_491 : decode cL_law 491 = .ok (.iaload, 1) := by decide +kernel
theorem dL_law_492 : decode cL_law 492 = .ok (.invokevirtual 58, 3) := by decide +kernel
theorem dL_law_495 : decode cL_law 495 = .ok (.aload_n 2, 1) := by decide +kernel
theorem dL_law_496 : decode cL_law 496 = .ok (.aload_n 0, 1) := by decide +kernel
theorem dL_law_497 : decode cL_law 497 = .ok (.iload_n 3, 1) := by decide +kernel
theorem dL_law_498 : decode cL_law 498 = .ok (.iconst 1, 1) := by decide +kernel
theorem dL_law_499 : decode cL_law 499 = .ok (.iadd, 1) := by decide +kernel
theorem dL_law_500 : decode cL_law 500 = .ok (.iaload, 1) := by decide +kernel
theorem dL_law_501 : decode cL_law 501 = .ok (.aload_n 0, 1) := by decide +kernel
theorem dL_law_502 : decode cL_law 502 = .ok (.iload_n 3, 1) := by decide +kernel
theorem dL_law_503 : decode cL_law 503 = .ok (.iconst 2, 1) := by decide +kernel
theorem dL_law_504 : decode cL_law 504 = .ok (.iadd, 1) := by decide +kernel
theorem dL_law_505 : decode cL_law 505 = .ok (.iaload, 1) := by decide +kernel
theorem dL_law_506 : decode cL_law 506 = .ok (.aload_n 0, 1) := by decide +kernel
theorem dL_law_507 : decode cL_law 507 = .ok (.iload_n 3, 1) := by decide +kernel
theorem dL_law_508 : decode cL_law 508 = .ok (.iconst 3, 1) := by decide +kernel
theorem dL_law_509 : decode cL_law 509 = .ok (.iadd, 1) := by decide +kernel
theorem dL_law_510 : decode cL_law 510 = .ok (.iaload, 1) := by decide +kernel
theorem dL_law_511 : decode cL_law 511 = .ok (.aload_n 0, 1) := by decide +kernel
theorem dL_law_512 : decode cL_law 512 = .ok (.iload_n 3, 1) := by decide +kernel
theorem dL_law_513 : decode cL_law 513 = .ok (.iconst 4, 1) := by decide +kernel
theorem dL_law_514 : decode cL_law 514 = .ok (.iadd, 1) := by decide +kernel
theorem dL_law_515 : decode cL_law 515 = .ok (.iaload, 1) := by decide +kernel
theorem dL_law_516 : decode cL_law 516 = .ok (.aload_n 0, 1) := by decide +kernel
theorem dL_law_517 : decode cL_law 517 = .ok (.iload_n 3, 1) := by decide +kernel
theorem dL_law_518 : decode cL_law 518 = .ok (.iconst 5, 1) := by decide +kernel
theorem dL_law_519 : decode cL_law 519 = .ok (.iadd, 1) := by decide +kernel
theorem dL_law_520 : decode cL_law 520 = .ok (.iaload, 1) := by decide +kernel
theorem dL_law_521 : decode cL_law 521 = .ok (.invokevirtual 62, 3) := by decide +kernel
theorem dL_law_524 : decode cL_law 524 = .ok (.if_icmp .eq 610, 3) := by decide +kernel
theorem dL_law_527 : decode cL_law 527 = .ok (.iconst 0, 1) := by decide +kernel
theorem dL_law_528 : decode cL_law 528 = .ok (.ireturn, 1) := by decide +kernel
theorem dL_law_529 : decode cL_law 529 = .ok (.aload_n 1, 1) := by decide +kernel
theorem dL_law_530 : decode cL_law 530 = .ok (.aload_n 0, 1) := by decide +kernel
theorem dL_law_531 : decode cL_law 531 = .ok (.iload_n 3, 1) := by decide +kernel
theorem dL_law_532 : decode cL_law 532 = .ok (.iconst 1, 1) := by decide +kernel
theorem dL_law_533 : decode cL_law 533 = .ok (.iadd, 1) := by decide +kernel
theorem dL_law_534 : decode cL_law 534 = .ok (.iaload, 1) := by decide +kernel
theorem dL_law_535 : decode cL_law 535 = .ok (.invokevirtual 63, 3) := by decide +kernel
theorem dL_law_538 : decode cL_law 538 = .ok (.aload_n 2, 1) := by decide +kernel
theorem dL_law_539 : decode cL_law 539 = .ok (.aload_n 0, 1) := by decide +kernel
theorem dL_law_540 : decode cL_law 540 = .ok (.iload_n 3, 1) := by decide +kernel
theorem dL_law_541 : decode cL_law 541 = .ok (.iconst 1, 1) := by decide +kernel
theorem dL_law_542 : decode cL_law 542 = .ok (.iadd, 1) := by decide +kernel
theorem dL_law_543 : decode cL_law 543 = .ok (.iaload, 1) := by decide +kernel
theorem dL_law_544 : decode cL_law 544 = .ok (.invokevirtual 66, 3) := by decide +kernel
theorem dL_law_547 : decode cL_law 547 = .ok (.if_icmp .eq 587, 3) := by decide +kernel
theorem dL_law_550 : decode cL_law 550 = .ok (.iconst 0, 1) := by decide +kernel
theorem dL_law_551 : decode cL_law 551 = .ok (.ireturn, 1) := by decide +kernel
theorem dL_law_552 : decode cL_law 552 = .ok (.aload_n 1, 1) := by decide +kernel
theorem dL_law_553 : decode cL_law 553 = .ok (.aload_n 0, 1) := by decide +kernel
theorem dL_law_554 : decode cL_law 554 = .ok (.iload_n 3, 1) := by decide +kernel
theorem dL_law_555 : decode cL_law 555 = .ok (.iconst 1, 1) := by decide +kernel
theorem dL_law_556 : decode cL_law 556 = .ok (.iadd, 1) := by decide +kernel
theorem dL_law_557 : decode cL_law 557 = .ok (.iaload, 1) := by decide +kernel
theorem dL_law_558 : decode cL_law 558 = .ok (.invokevirtual 67, 3) := by decide +kernel
theorem dL_law_561 : decode cL_law 561 = .ok (.aload_n 2, 1) := by decide +kernel
theorem dL_law_562 : decode cL_law 562 = .ok (.aload_n 0, 1) := by decide +kernel
theorem dL_law_563 : decode cL_law 563 = .ok (.iload_n 3, 1) := by decide +kernel
theorem dL_law_564 : decode cL_law 564 = .ok (.iconst 1, 1) := by decide +kernel
theorem dL_law_565 : decode cL_law 565 = .ok (.iadd, 1) := by decide +kernel
theorem dL_law_566 : decode cL_law 566 = .ok (.iaload, 1) := by decide +kernel
theorem dL_law_567 : decode cL_law 567 = .ok (.invokevirtual 70, 3) := by decide +kernel
theorem dL_law_570 : decode cL_law 570 = .ok (.if_icmp .eq 564, 3) := by decide +kernel
theorem dL_law_573 : decode cL_law 573 = .ok (.iconst 0, 1) := by decide +kernel
theorem dL_law_574 : decode cL_law 574 = .ok (.ireturn, 1) := by decide +kernel
theorem dL_law_575 : decode cL_law 575 = .ok (.aload_n 1, 1) := by decide +kernel
theorem dL_law_576 : decode cL_law 576 = .ok (.aload_n 0, 1) := by decide +kernel
theorem dL_law_577 : decode cL_law 577 = .ok (.iload_n 3, 1) := by decide +kernel
theorem dL_law_578 : decode cL_law 578 = .ok (.iconst 1, 1) := by decide +kernel
theorem dL_law_579 : decode cL_law 579 = .ok (.iadd, 1) := by decide +kernel
theorem dL_law_580 : decode cL_law 580 = .ok (.iaload, 1) := by decide +kernel
theorem dL_law_581 : decode cL_law 581 = .ok (.invokevirtual 71, 3) := by decide +kernel
theorem dL_law_584 : decode cL_law 584 = .ok (.aload_n 2, 1) := by decide +kernel
theorem dL_law_585 : decode cL_law 585 = .ok (.aload_n 0, 1) := by decide +kernel
theorem dL_law_586 : decode cL_law 586 = .ok (.iload_n 3, 1) := by decide +kernel
theorem dL_law_587 : decode cL_law 587 = .ok (.iconst 1, 1) := by decide +kernel
theorem dL_law_588 : decode cL_law 588 = .ok (.iadd, 1) := by decide +kernel
theorem dL_law_589 : decode cL_law 589 = .ok (.iaload, 1) := by decide +kernel
theorem dL_law_590 : decode cL_law 590 = .ok (.invokevirtual 74, 3) := by decide +kernel
theorem dL_law_593 : decode cL_law 593 = .ok (.if_icmp .eq 541, 3) := by decide +kernel
theorem dL_law_596 : decode cL_law 596 = .ok (.iconst 0, 1) := by decide +kernel
theorem dL_law_597 : decode cL_law 597 = .ok (.ireturn, 1) := by decide +kernel
theorem dL_law_598 : decode cL_law 598 = .ok (.aload_n 1, 1) := by decide +kernel
theorem dL_law_599 : decode cL_law 599 = .ok (.aload_n 0, 1) := by decide +kernel
theorem dL_law_600 : decode cL_law 600 = .ok (.iload_n 3, 1) := by decide +kernel
theorem dL_law_601 : decode cL_law 601 = .ok (.iconst 1, 1) := by decide +kernel
theorem dL_law_602 : decode cL_law 602 = .ok (.iadd, 1) := by decide +kernel
theorem dL_law_603 : decode cL_law 603 = .ok (.iaload, 1) := by decide +kernel
theorem dL_law_604 : decode cL_law 604 = .ok (.aload_n 0, 1) := by decide +kernel
theorem dL_law_605 : decode cL_law 605 = .ok (.iload_n 3, 1) := by decide +kernel
theorem dL_law_606 : decode cL_law 606 = .ok (.iconst 2, 1) := by decide +kernel
theorem dL_law_607 : decode cL_law 607 = .ok (.iadd, 1) := by decide +kernel
theorem dL_law_608 : decode cL_law 608 = .ok (.iaload, 1) := by decide +kernel
theorem dL_law_609 : decode cL_law 609 = .ok (.aload_n 0, 1) := by decide +kernel
theorem dL_law_610 : decode cL_law 610 = .ok (.iload_n 3, 1) := by decide +kernel
theorem dL_law_611 : decode cL_law 611 = .ok (.iconst 3, 1) := by decide +kernel
theorem dL_law_612 : decode cL_law 612 = .ok (.iadd, 1) := by decide +kernel
theorem dL_law_613 : decode cL_law 613 = .ok (.iaload, 1) := by decide +kernel
theorem dL_law_614 : decode cL_law 614 = .ok (.invokevirtual 75, 3) := by decide +kernel
theorem dL_law_617 : decode cL_law 617 = .ok (.aload_n 2, 1) := by decide +kernel
theorem dL_law_618 : decode cL_law 618 = .ok (.aload_n 0, 1) := by decide +kernel
theorem dL_law_619 : decode cL_law 619 = .ok (.iload_n 3, 1) := by decide +kernel
theorem dL_law_620 : decode cL_law 620 = .ok (.iconst 1, 1) := by decide +kernel
theorem dL_law_621 : decode cL_law 621 = .ok (.iadd, 1) := by decide +kernel
theorem dL_law_622 : decode cL_law 622 = .ok (.iaload, 1) := by decide +kernel
theorem dL_law_623 : decode cL_law 623 = .ok (.aload_n 0, 1) := by decide +kernel
theorem dL_law_624 : decode cL_law 624 = .ok (.iload_n 3, 1) := by decide +kernel
theorem dL_law_625 : decode cL_law 625 = .ok (.iconst 2, 1) := by decide +kernel
theorem dL_law_626 : decode cL_law 626 = .ok (.iadd, 1) := by decide +kernel
theorem dL_law_627 : decode cL_law 627 = .ok (.iaload, 1) := by decide +kernel
theorem dL_law_628 : decode cL_law 628 = .ok (.aload_n 0, 1) := by decide +kernel
theorem dL_law_629 : decode cL_law 629 = .ok (.iload_n 3, 1) := by decide +kernel
theorem dL_law_630 : decode cL_law 630 = .ok (.iconst 3, 1) := by decide +kernel
theorem dL_law_631 : decode cL_law 631 = .ok (.iadd, 1) := by decide +kernel
theorem dL_law_632 : decode cL_law 632 = .ok (.iaload, 1) := by decide +kernel
theorem dL_law_633 : decode cL_law 633 = .ok (.invokevirtual 78, 3) := by decide +kernel
theorem dL_law_636 : decode cL_law 636 = .ok (.if_icmp .eq 498, 3) := by decide +kernel
theorem dL_law_639 : decode cL_law 639 = .ok (.iconst 0, 1) := by decide +kernel
theorem dL_law_640 : decode cL_law 640 = .ok (.ireturn, 1) := by decide +kernel
theorem dL_law_641 : decode cL_law 641 = .ok (.aload_n 1, 1) := by decide +kernel
theorem dL_law_642 : decode cL_law 642 = .ok (.aload_n 0, 1) := by decide +kernel
theorem dL_law_643 : decode cL_law 643 = .ok (.iload_n 3, 1) := by decide +kernel
theorem dL_law_644 : decode cL_law 644 = .ok (.iconst 1, 1) := by decide +kernel
theorem dL_law_645 : decode cL_law 645 = .ok (.iadd, 1) := by decide +kernel
theorem dL_law_646 : decode cL_law 646 = .ok (.iaload, 1) := by decide +kernel
theorem dL_law_647 : decode cL_law 647 = .ok (.invokevirtual 79, 3) := by decide +kernel
theorem dL_law_650 : decode cL_law 650 = .ok (.aload_n 2, 1) := by decide +kernel
theorem dL_law_651 : decode cL_law 651 = .ok (.aload_n 0, 1) := by decide +kernel
theorem dL_law_652 : decode cL_law 652 = .ok (.iload_n 3, 1) := by decide +kernel
theorem dL_law_653 : decode cL_law 653 = .ok (.iconst 1, 1) := by decide +kernel
theorem dL_law_654 : decode cL_law 654 = .ok (.iadd, 1) := by decide +kernel
theorem dL_law_655 : decode cL_law 655 = .ok (.iaload, 1) := by decide +kernel
theorem dL_law_656 : decode cL_law 656 = .ok (.invokevirtual 82, 3) := by decide +kernel
theorem dL_law_659 : decode cL_law 659 = .ok (.if_icmp .eq 475, 3) := by decide +kernel
theorem dL_law_662 : decode cL_law 662 = .ok (.iconst 0, 1) := by decide +kernel
theorem dL_law_663 : decode cL_law 663 = .ok (.ireturn, 1) := by decide +kernel
theorem dL_law_664 : decode cL_law 664 = .ok (.aload_n 1, 1) := by decide +kernel
theorem dL_law_665 : decode cL_law 665 = .ok (.aload_n 0, 1) := by decide +kernel
theorem dL_law_666 : decode cL_law 666 = .ok (.iload_n 3, 1) := by decide +kernel
theorem dL_law_667 : decode cL_law 667 = .ok (.iconst 1, 1) := by decide +kernel
theorem dL_law_668 : decode cL_law 668 = .ok (.iadd, 1) := by decide +kernel
theorem dL_law_669 : decode cL_law 669 = .ok (.iaload, 1) := by decide +kernel
theorem dL_law_670 : decode cL_law 670 = .ok (.invokevirtual 83, 3) := by decide +kernel
theorem dL_law_673 : decode cL_law 673 = .ok (.aload_n 2, 1) := by decide +kernel
theorem dL_law_674 : decode cL_law 674 = .ok (.aload_n 0, 1) := by decide +kernel
theorem dL_law_675 : decode cL_law 675 = .ok (.iload_n 3, 1) := by decide +kernel
theorem dL_law_676 : decode cL_law 676 = .ok (.iconst 1, 1) := by decide +kernel
theorem dL_law_677 : decode cL_law 677 = .ok (.iadd, 1) := by decide +kernel
theorem dL_law_678 : decode cL_law 678 = .ok (.iaload, 1) := by decide +kernel
theorem dL_law_679 : decode cL_law 679 = .ok (.invokevirtual 86, 3) := by decide +kernel
theorem dL_law_682 : decode cL_law 682 = .ok (.if_icmp .eq 452, 3) := by decide +kernel
theorem dL_law_685 : decode cL_law 685 = .ok (.iconst 0, 1) := by decide +kernel
theorem dL_law_686 : decode cL_law 686 = .ok (.ireturn, 1) := by decide +kernel
theorem dL_law_687 : decode cL_law 687 = .ok (.aload_n 1, 1) := by decide +kernel
theorem dL_law_688 : decode cL_law 688 = .ok (.aload_n 0, 1) := by decide +kernel
theorem dL_law_689 : decode cL_law 689 = .ok (.iload_n 3, 1) := by decide +kernel
theorem dL_law_690 : decode cL_law 690 = .ok (.iconst 1, 1) := by decide +kernel
theorem dL_law_691 : decode cL_law 691 = .ok (.iadd, 1) := by decide +kernel
theorem dL_law_692 : decode cL_law 692 = .ok (.iaload, 1) := by decide +kernel
theorem dL_law_693 : decode cL_law 693 = .ok (.invokevirtual 87, 3) := by decide +kernel
theorem dL_law_696 : decode cL_law 696 = .ok (.aload_n 2, 1) := by decide +kernel
theorem dL_law_697 : decode cL_law 697 = .ok (.aload_n 0, 1) := by decide +kernel
theorem dL_law_698 : decode cL_law 698 = .ok (.iload_n 3, 1) := by decide +kernel
theorem dL_law_699 : decode cL_law 699 = .ok (.iconst 1, 1) := by decide +kernel
theorem dL_law_700 : decode cL_law 700 = .ok (.iadd, 1) := by decide +kernel
theorem dL_law_701 : decode cL_law 701 = .ok (.iaload, 1) := by decide +kernel
theorem dL_law_702 : decode cL_law 702 = .ok (.invokevirtual 90, 3) := by decide +kernel
theorem dL_law_705 : decode cL_law 705 = .ok (.if_icmp .eq 429, 3) := by decide +kernel
theorem dL_law_708 : decode cL_law 708 = .ok (.iconst 0, 1) := by decide +kernel
theorem dL_law_709 : decode cL_law 709 = .ok (.ireturn, 1) := by decide +kernel
theorem dL_law_710 : decode cL_law 710 = .ok (.aload_n 1, 1) := by decide +kernel
theorem dL_law_711 : decode cL_law 711 = .ok (.aload_n 0, 1) := by decide +kernel
theorem dL_law_712 : decode cL_law 712 = .ok (.iload_n 3, 1) := by decide +kernel
theorem dL_law_713 : decode cL_law 713 = .ok (.iconst 1, 1) := by decide +kernel
theorem dL_law_714 : decode cL_law 714 = .ok (.iadd, 1) := by decide +kernel
theorem dL_law_715 : decode cL_law 715 = .ok (.iaload, 1) := by decide +kernel
theorem dL_law_716 : decode cL_law 716 = .ok (.invokevirtual 91, 3) := by decide +kernel
theorem dL_law_719 : decode cL_law 719 = .ok (.aload_n 2, 1) := by decide +kernel
theorem dL_law_720 : decode cL_law 720 = .ok (.aload_n 0, 1) := by decide +kernel
theorem dL_law_721 : decode cL_law 721 = .ok (.iload_n 3, 1) := by decide +kernel
theorem dL_law_722 : decode cL_law 722 = .ok (.iconst 1, 1) := by decide +kernel
theorem dL_law_723 : decode cL_law 723 = .ok (.iadd, 1) := by decide +kernel
theorem dL_law_724 : decode cL_law 724 = .ok (.iaload, 1) := by decide +kernel
theorem dL_law_725 : decode cL_law 725 = .ok (.invokevirtual 94, 3) := by decide +kernel
theorem dL_law_728 : decode cL_law 728 = .ok (.if_icmp .eq 406, 3) := by decide +kernel
theorem dL_law_731 : decode cL_law 731 = .ok (.iconst 0, 1) := by decide +kernel
theorem dL_law_732 : decode cL_law 732 = .ok (.ireturn, 1) := by decide +kernel
theorem dL_law_733 : decode cL_law 733 = .ok (.aload_n 1, 1) := by decide +kernel
theorem dL_law_734 : decode cL_law 734 = .ok (.aload_n 0, 1) := by decide +kernel
theorem dL_law_735 : decode cL_law 735 = .ok (.iload_n 3, 1) := by decide +kernel
theorem dL_law_736 : decode cL_law 736 = .ok (.iconst 1, 1) := by decide +kernel
theorem dL_law_737 : decode cL_law 737 = .ok (.iadd, 1) := by decide +kernel
theorem dL_law_738 : decode cL_law 738 = .ok (.iaload, 1) := by decide +kernel
theorem dL_law_739 : decode cL_law 739 = .ok (.invokevirtual 95, 3) := by decide +kernel
theorem dL_law_742 : decode cL_law 742 = .ok (.aload_n 2, 1) := by decide +kernel
theorem dL_law_743 : decode cL_law 743 = .ok (.aload_n 0, 1) := by decide +kernel
theorem dL_law_744 : decode cL_law 744 = .ok (.iload_n 3, 1) := by decide +kernel
theorem dL_law_745 : decode cL_law 745 = .ok (.iconst 1, 1) := by decide +kernel
theorem dL_law_746 : decode cL_law 746 = .ok (.iadd, 1) := by decide +kernel
theorem dL_law_747 : decode cL_law 747 = .ok (.iaload, 1) := by decide +kernel
theorem dL_law_748 : decode cL_law 748 = .ok (.invokevirtual 98, 3) := by decide +kernel
theorem dL_law_751 : decode cL_law 751 = .ok (.if_icmp .eq 383, 3) := by decide +kernel
theorem dL_law_754 : decode cL_law 754 = .ok (.iconst 0, 1) := by decide +kernel
theorem dL_law_755 : decode cL_law 755 = .ok (.ireturn, 1) := by decide +kernel
theorem dL_law_756 : decode cL_law 756 = .ok (.aload_n 1, 1) := by decide +kernel
theorem dL_law_757 : decode cL_law 757 = .ok (.aload_n 0, 1) := by decide +kernel
theorem dL_law_758 : decode cL_law 758 = .ok (.iload_n 3, 1) := by decide +kernel
theorem dL_law_759 : decode cL_law 759 = .ok (.iconst 1, 1) := by decide +kernel
theorem dL_law_760 : decode cL_law 760 = .ok (.iadd, 1) := by decide +kernel
theorem dL_law_761 : decode cL_law 761 = .ok (.iaload, 1) := by decide +kernel
theorem dL_law_762 : decode cL_law 762 = .ok (.aload_n 0, 1) := by decide +kernel
theorem dL_law_763 : decode cL_law 763 = .ok (.iload_n 3, 1) := by decide +kernel
theorem dL_law_764 : decode cL_law 764 = .ok (.iconst 2, 1) := by decide +kernel
theorem dL_law_765 : decode cL_law 765 = .ok (.iadd, 1) := by decide +kernel
theorem dL_law_766 : decode cL_law 766 = .ok (.iaload, 1) := by decide +kernel
theorem dL_law_767 : decode cL_law 767 = .ok (.invokevirtual 99, 3) := by decide +kernel
theorem dL_law_770 : decode cL_law 770 = .ok (.aload_n 2, 1) := by decide +kernel
theorem dL_law_771 : decode cL_law 771 = .ok (.aload_n 0, 1) := by decide +kernel
theorem dL_law_772 : decode cL_law 772 = .ok (.iload_n 3, 1) := by decide +kernel
theorem dL_law_773 : decode cL_law 773 = .ok (.iconst 1, 1) := by decide +kernel
theorem dL_law_774 : decode cL_law 774 = .ok (.iadd, 1) := by decide +kernel
theorem dL_law_775 : decode cL_law 775 = .ok (.iaload, 1) := by decide +kernel
theorem dL_law_776 : decode cL_law 776 = .ok (.aload_n 0, 1) := by decide +kernel
theorem dL_law_777 : decode cL_law 777 = .ok (.iload_n 3, 1) := by decide +kernel
theorem dL_law_778 : decode cL_law 778 = .ok (.iconst 2, 1) := by decide +kernel
theorem dL_law_779 : decode cL_law 779 = .ok (.iadd, 1) := by decide +kernel
theorem dL_law_780 : decode cL_law 780 = .ok (.iaload, 1) := by decide +kernel
theorem dL_law_781 : decode cL_law 781 = .ok (.invokevirtual 103, 3) := by decide +kernel
theorem dL_law_784 : decode cL_law 784 = .ok (.lcmp, 1) := by decide +kernel
theorem dL_law_785 : decode cL_law 785 = .ok (.ifCond .eq 349, 3) := by decide +kernel
theorem dL_law_788 : decode cL_law 788 = .ok (.iconst 0, 1) := by decide +kernel
theorem dL_law_789 : decode cL_law 789 = .ok (.ireturn, 1) := by decide +kernel
theorem dL_law_790 : decode cL_law 790 = .ok (.aload_n 1, 1) := by decide +kernel
theorem dL_law_791 : decode cL_law 791 = .ok (.aload_n 0, 1) := by decide +kernel
theorem dL_law_792 : decode cL_law 792 = .ok (.iload_n 3, 1) := by decide +kernel
theorem dL_law_793 : decode cL_law 793 = .ok (.iconst 1, 1) := by decide +kernel
theorem dL_law_794 : decode cL_law 794 = .ok (.iadd, 1) := by decide +kernel
theorem dL_law_795 : decode cL_law 795 = .ok (.iaload, 1) := by decide +kernel
theorem dL_law_796 : decode cL_law 796 = .ok (.aload_n 0, 1) := by decide +kernel
theorem dL_law_797 : decode cL_law 797 = .ok (.iload_n 3, 1) := by decide +kernel
theorem dL_law_798 : decode cL_law 798 = .ok (.iconst 2, 1) := by decide +kernel
theorem dL_law_799 : decode cL_law 799 = .ok (.iadd, 1) := by decide +kernel
theorem dL_law_800 : decode cL_law 800 = .ok (.iaload, 1) := by decide +kernel
theorem dL_law_801 : decode cL_law 801 = .ok (.aload_n 0, 1) := by decide +kernel
theorem dL_law_802 : decode cL_law 802 = .ok (.iload_n 3, 1) := by decide +kernel
theorem dL_law_803 : decode cL_law 803 = .ok (.iconst 3, 1) := by decide +kernel
theorem dL_law_804 : decode cL_law 804 = .ok (.iadd, 1) := by decide +kernel
theorem dL_law_805 : decode cL_law 805 = .ok (.iaload, 1) := by decide +kernel
theorem dL_law_806 : decode cL_law 806 = .ok (.invokevirtual 104, 3) := by decide +kernel
theorem dL_law_809 : decode cL_law 809 = .ok (.aload_n 2, 1) := by decide +kernel
theorem dL_law_810 : decode cL_law 810 = .ok (.aload_n 0, 1) := by decide +kernel
theorem dL_law_811 : decode cL_law 811 = .ok (.iload_n 3, 1) := by decide +kernel
theorem dL_law_812 : decode cL_law 812 = .ok (.iconst 1, 1) := by decide +kernel
theorem dL_law_813 : decode cL_law 813 = .ok (.iadd, 1) := by decide +kernel
theorem dL_law_814 : decode cL_law 814 = .ok (.iaload, 1) := by decide +kernel
theorem dL_law_815 : decode cL_law 815 = .ok (.aload_n 0, 1) := by decide +kernel
theorem dL_law_816 : decode cL_law 816 = .ok (.iload_n 3, 1) := by decide +kernel
theorem dL_law_817 : decode cL_law 817 = .ok (.iconst 2, 1) := by decide +kernel
theorem dL_law_818 : decode cL_law 818 = .ok (.iadd, 1) := by decide +kernel
theorem dL_law_819 : decode cL_law 819 = .ok (.iaload, 1) := by decide +kernel
theorem dL_law_820 : decode cL_law 820 = .ok (.aload_n 0, 1) := by decide +kernel
theorem dL_law_821 : decode cL_law 821 = .ok (.iload_n 3, 1) := by decide +kernel
theorem dL_law_822 : decode cL_law 822 = .ok (.iconst 3, 1) := by decide +kernel
theorem dL_law_823 : decode cL_law 823 = .ok (.iadd, 1) := by decide +kernel
theorem dL_law_824 : decode cL_law 824 = .ok (.iaload, 1) := by decide +kernel
theorem dL_law_825 : decode cL_law 825 = .ok (.invokevirtual 107, 3) := by decide +kernel
theorem dL_law_828 : decode cL_law 828 = .ok (.if_icmp .eq 306, 3) := by decide +kernel
theorem dL_law_831 : decode cL_law 831 = .ok (.iconst 0, 1) := by decide +kernel
theorem dL_law_832 : decode cL_law 832 = .ok (.ireturn, 1) := by decide +kernel
theorem dL_law_833 : decode cL_law 833 = .ok (.aload_n 1, 1) := by decide +kernel
theorem dL_law_834 : decode cL_law 834 = .ok (.aload_n 0, 1) := by decide +kernel
theorem dL_law_835 : decode cL_law 835 = .ok (.iload_n 3, 1) := by decide +kernel
theorem dL_law_836 : decode cL_law 836 = .ok (.iconst 1, 1) := by decide +kernel
theorem dL_law_837 : decode cL_law 837 = .ok (.iadd, 1) := by decide +kernel
theorem dL_law_838 : decode cL_law 838 = .ok (.iaload, 1) := by decide +kernel
theorem dL_law_839 : decode cL_law 839 = .ok (.invokevirtual 108, 3) := by decide +kernel
theorem dL_law_842 : decode cL_law 842 = .ok (.aload_n 2, 1) := by decide +kernel
theorem dL_law_843 : decode cL_law 843 = .ok (.aload_n 0, 1) := by decide +kernel
theorem dL_law_844 : decode cL_law 844 = .ok (.iload_n 3, 1) := by decide +kernel
theorem dL_law_845 : decode cL_law 845 = .ok (.iconst 1, 1) := by decide +kernel
theorem dL_law_846 : decode cL_law 846 = .ok (.iadd, 1) := by decide +kernel
theorem dL_law_847 : decode cL_law 847 = .ok (.iaload, 1) := by decide +kernel
theorem dL_law_848 : decode cL_law 848 = .ok (.invokevirtual 111, 3) := by decide +kernel
theorem dL_law_851 : decode cL_law 851 = .ok (.if_icmp .eq 283, 3) := by decide +kernel
theorem dL_law_854 : decode cL_law 854 = .ok (.iconst 0, 1) := by decide +kernel
theorem dL_law_855 : decode cL_law 855 = .ok (.ireturn, 1) := by decide +kernel
theorem dL_law_856 : decode cL_law 856 = .ok (.aload_n 1, 1) := by decide +kernel
theorem dL_law_857 : decode cL_law 857 = .ok (.aload_n 0, 1) := by decide +kernel
theorem dL_law_858 : decode cL_law 858 = .ok (.iload_n 3, 1) := by decide +kernel
theorem dL_law_859 : decode cL_law 859 = .ok (.iconst 1, 1) := by decide +kernel
theorem dL_law_860 : decode cL_law 860 = .ok (.iadd, 1) := by decide +kernel
theorem dL_law_861 : decode cL_law 861 = .ok (.iaload, 1) := by decide +kernel
theorem dL_law_862 : decode cL_law 862 = .ok (.aload_n 0, 1) := by decide +kernel
theorem dL_law_863 : decode cL_law 863 = .ok (.iload_n 3, 1) := by decide +kernel
theorem dL_law_864 : decode cL_law 864 = .ok (.iconst 2, 1) := by decide +kernel
theorem dL_law_865 : decode cL_law 865 = .ok (.iadd, 1) := by decide +kernel
theorem dL_law_866 : decode cL_law 866 = .ok (.iaload, 1) := by decide +kernel
theorem dL_law_867 : decode cL_law 867 = .ok (.aload_n 0, 1) := by decide +kernel
theorem dL_law_868 : decode cL_law 868 = .ok (.iload_n 3, 1) := by decide +kernel
theorem dL_law_869 : decode cL_law 869 = .ok (.iconst 3, 1) := by decide +kernel
theorem dL_law_870 : decode cL_law 870 = .ok (.iadd, 1) := by decide +kernel
theorem dL_law_871 : decode cL_law 871 = .ok (.iaload, 1) := by decide +kernel
theorem dL_law_872 : decode cL_law 872 = .ok (.invokevirtual 112, 3) := by decide +kernel
theorem dL_law_875 : decode cL_law 875 = .ok (.aload_n 2, 1) := by decide +kernel
theorem dL_law_876 : decode cL_law 876 = .ok (.aload_n 0, 1) := by decide +kernel
theorem dL_law_877 : decode cL_law 877 = .ok (.iload_n 3, 1) := by decide +kernel
theorem dL_law_878 : decode cL_law 878 = .ok (.iconst 1, 1) := by decide +kernel
theorem dL_law_879 : decode cL_law 879 = .ok (.iadd, 1) := by decide +kernel
theorem dL_law_880 : decode cL_law 880 = .ok (.iaload, 1) := by decide +kernel
theorem dL_law_881 : decode cL_law 881 = .ok (.aload_n 0, 1) := by decide +kernel
theorem dL_law_882 : decode cL_law 882 = .ok (.iload_n 3, 1) := by decide +kernel
theorem dL_law_883 : decode cL_law 883 = .ok (.iconst 2, 1) := by decide +kernel
theorem dL_law_884 : decode cL_law 884 = .ok (.iadd, 1) := by decide +kernel
theorem dL_law_885 : decode cL_law 885 = .ok (.iaload, 1) := by decide +kernel
theorem dL_law_886 : decode cL_law 886 = .ok (.aload_n 0, 1) := by decide +kernel
theorem dL_law_887 : decode cL_law 887 = .ok (.iload_n 3, 1) := by decide +kernel
theorem dL_law_888 : decode cL_law 888 = .ok (.iconst 3, 1) := by decide +kernel
theorem dL_law_889 : decode cL_law 889 = .ok (.iadd, 1) := by decide +kernel
theorem dL_law_890 : decode cL_law 890 = .ok (.iaload, 1) := by decide +kernel
theorem dL_law_891 : decode cL_law 891 = .ok (.invokevirtual 115, 3) := by decide +kernel
theorem dL_law_894 : decode cL_law 894 = .ok (.if_icmp .eq 240, 3) := by decide +kernel
theorem dL_law_897 : decode cL_law 897 = .ok (.iconst 0, 1) := by decide +kernel
theorem dL_law_898 : decode cL_law 898 = .ok (.ireturn, 1) := by decide +kernel
theorem dL_law_899 : decode cL_law 899 = .ok (.aload_n 1, 1) := by decide +kernel
theorem dL_law_900 : decode cL_law 900 = .ok (.aload_n 0, 1) := by decide +kernel
theorem dL_law_901 : decode cL_law 901 = .ok (.iload_n 3, 1) := by decide +kernel
theorem dL_law_902 : decode cL_law 902 = .ok (.iconst 1, 1) := by decide +kernel
theorem dL_law_903 : decode cL_law 903 = .ok (.iadd, 1) := by decide +kernel
theorem dL_law_904 : decode cL_law 904 = .ok (.iaload, 1) := by decide +kernel
theorem dL_law_905 : decode cL_law 905 = .ok (.aload_n 0, 1) := by decide +kernel
theorem dL_law_906 : decode cL_law 906 = .ok (.iload_n 3, 1) := by decide +kernel
theorem dL_law_907 : decode cL_law 907 = .ok (.iconst 2, 1) := by decide +kernel
theorem dL_law_908 : decode cL_law 908 = .ok (.iadd, 1) := by decide +kernel
theorem dL_law_909 : decode cL_law 909 = .ok (.iaload, 1) := by decide +kernel
theorem dL_law_910 : decode cL_law 910 = .ok (.aload_n 0, 1) := by decide +kernel
theorem dL_law_911 : decode cL_law 911 = .ok (.iload_n 3, 1) := by decide +kernel
theorem dL_law_912 : decode cL_law 912 = .ok (.iconst 3, 1) := by decide +kernel
theorem dL_law_913 : decode cL_law 913 = .ok (.iadd, 1) := by decide +kernel
theorem dL_law_914 : decode cL_law 914 = .ok (.iaload, 1) := by decide +kernel
theorem dL_law_915 : decode cL_law 915 = .ok (.invokevirtual 116, 3) := by decide +kernel
theorem dL_law_918 : decode cL_law 918 = .ok (.aload_n 2, 1) := by decide +kernel
theorem dL_law_919 : decode cL_law 919 = .ok (.aload_n 0, 1) := by decide +kernel
theorem dL_law_920 : decode cL_law 920 = .ok (.iload_n 3, 1) := by decide +kernel
theorem dL_law_921 : decode cL_law 921 = .ok (.iconst 1, 1) := by decide +kernel
theorem dL_law_922 : decode cL_law 922 = .ok (.iadd, 1) := by decide +kernel
theorem dL_law_923 : decode cL_law 923 = .ok (.iaload, 1) := by decide +kernel
theorem dL_law_924 : decode cL_law 924 = .ok (.aload_n 0, 1) := by decide +kernel
theorem dL_law_925 : decode cL_law 925 = .ok (.iload_n 3, 1) := by decide +kernel
theorem dL_law_926 : decode cL_law 926 = .ok (.iconst 2, 1) := by decide +kernel
theorem dL_law_927 : decode cL_law 927 = .ok (.iadd, 1) := by decide +kernel
theorem dL_law_928 : decode cL_law 928 = .ok (.iaload, 1) := by decide +kernel
theorem dL_law_929 : decode cL_law 929 = .ok (.aload_n 0, 1) := by decide +kernel
theorem dL_law_930 : decode cL_law 930 = .ok (.iload_n 3, 1) := by decide +kernel
theorem dL_law_931 : decode cL_law 931 = .ok (.iconst 3, 1) := by decide +kernel
theorem dL_law_932 : decode cL_law 932 = .ok (.iadd, 1) := by decide +kernel
theorem dL_law_933 : decode cL_law 933 = .ok (.iaload, 1) := by decide +kernel
theorem dL_law_934 : decode cL_law 934 = .ok (.invokevirtual 120, 3) := by decide +kernel
theorem dL_law_937 : decode cL_law 937 = .ok (.lcmp, 1) := by decide +kernel
theorem dL_law_938 : decode cL_law 938 = .ok (.ifCond .eq 196, 3) := by decide +kernel
theorem dL_law_941 : decode cL_law 941 = .ok (.iconst 0, 1) := by decide +kernel
theorem dL_law_942 : decode cL_law 942 = .ok (.ireturn, 1) := by decide +kernel
theorem dL_law_943 : decode cL_law 943 = .ok (.aload_n 1, 1) := by decide +kernel
theorem dL_law_944 : decode cL_law 944 = .ok (.aload_n 0, 1) := by decide +kernel
theorem dL_law_945 : decode cL_law 945 = .ok (.iload_n 3, 1) := by decide +kernel
theorem dL_law_946 : decode cL_law 946 = .ok (.iconst 1, 1) := by decide +kernel
theorem dL_law_947 : decode cL_law 947 = .ok (.iadd, 1) := by decide +kernel
theorem dL_law_948 : decode cL_law 948 = .ok (.iaload, 1) := by decide +kernel
theorem dL_law_949 : decode cL_law 949 = .ok (.aload_n 0, 1) := by decide +kernel
theorem dL_law_950 : decode cL_law 950 = .ok (.iload_n 3, 1) := by decide +kernel
theorem dL_law_951 : decode cL_law 951 = .ok (.iconst 2, 1) := by decide +kernel
theorem dL_law_952 : decode cL_law 952 = .ok (.iadd, 1) := by decide +kernel
theorem dL_law_953 : decode cL_law 953 = .ok (.iaload, 1) := by decide +kernel
theorem dL_law_954 : decode cL_law 954 = .ok (.aload_n 0, 1) := by decide +kernel
theorem dL_law_955 : decode cL_law 955 = .ok (.iload_n 3, 1) := by decide +kernel
theorem dL_law_956 : decode cL_law 956 = .ok (.iconst 3, 1) := by decide +kernel
theorem dL_law_957 : decode cL_law 957 = .ok (.iadd, 1) := by decide +kernel
theorem dL_law_958 : decode cL_law 958 = .ok (.iaload, 1) := by decide +kernel
theorem dL_law_959 : decode cL_law 959 = .ok (.aload_n 0, 1) := by decide +kernel
theorem dL_law_960 : decode cL_law 960 = .ok (.iload_n 3, 1) := by decide +kernel
theorem dL_law_961 : decode cL_law 961 = .ok (.iconst 4, 1) := by decide +kernel
theorem dL_law_962 : decode cL_law 962 = .ok (.iadd, 1) := by decide +kernel
theorem dL_law_963 : decode cL_law 963 = .ok (.iaload, 1) := by decide +kernel
theorem dL_law_964 : decode cL_law 964 = .ok (.aload_n 0, 1) := by decide +kernel
theorem dL_law_965 : decode cL_law 965 = .ok (.iload_n 3, 1) := by decide +kernel
theorem dL_law_966 : decode cL_law 966 = .ok (.iconst 5, 1) := by decide +kernel
theorem dL_law_967 : decode cL_law 967 = .ok (.iadd, 1) := by decide +kernel
theorem dL_law_968 : decode cL_law 968 = .ok (.iaload, 1) := by decide +kernel
theorem dL_law_969 : decode cL_law 969 = .ok (.invokevirtual 121, 3) := by decide +kernel
theorem dL_law_972 : decode cL_law 972 = .ok (.aload_n 2, 1) := by decide +kernel
theorem dL_law_973 : decode cL_law 973 = .ok (.aload_n 0, 1) := by decide +kernel
theorem dL_law_974 : decode cL_law 974 = .ok (.iload_n 3, 1) := by decide +kernel
theorem dL_law_975 : decode cL_law 975 = .ok (.iconst 1, 1) := by decide +kernel
theorem dL_law_976 : decode cL_law 976 = .ok (.iadd, 1) := by decide +kernel
theorem dL_law_977 : decode cL_law 977 = .ok (.iaload, 1) := by decide +kernel
theorem dL_law_978 : decode cL_law 978 = .ok (.aload_n 0, 1) := by decide +kernel
theorem dL_law_979 : decode cL_law 979 = .ok (.iload_n 3, 1) := by decide +kernel
theorem dL_law_980 : decode cL_law 980 = .ok (.iconst 2, 1) := by decide +kernel
theorem dL_law_981 : decode cL_law 981 = .ok (.iadd, 1) := by decide +kernel
theorem dL_law_982 : decode cL_law 982 = .ok (.iaload, 1) := by decide +kernel
theorem dL_law_983 : decode cL_law 983 = .ok (.aload_n 0, 1) := by decide +kernel
theorem dL_law_984 : decode cL_law 984 = .ok (.iload_n 3, 1) := by decide +kernel
theorem dL_law_985 : decode cL_law 985 = .ok (.iconst 3, 1) := by decide +kernel
theorem dL_law_986 : decode cL_law 986 = .ok (.iadd, 1) := by decide +kernel
theorem dL_law_987 : decode cL_law 987 = .ok (.iaload, 1) := by decide +kernel
theorem dL_law_988 : decode cL_law 988 = .ok (.aload_n 0, 1) := by decide +kernel
theorem dL_law_989 : decode cL_law 989 = .ok (.iload_n 3, 1) := by decide +kernel
theorem dL_law_990 : decode cL_law 990 = .ok (.iconst 4, 1) := by decide +kernel
theorem dL_law_991 : decode cL_law 991 = .ok (.iadd, 1) := by decide +kernel
theorem dL_law_992 : decode cL_law 992 = .ok (.iaload, 1) := by decide +kernel
theorem dL_law_993 : decode cL_law 993 = .ok (.aload_n 0, 1) := by decide +kernel
theorem dL_law_994 : decode cL_law 994 = .ok (.iload_n 3, 1) := by decide +kernel
theorem dL_law_995 : decode cL_law 995 = .ok (.iconst 5, 1) := by decide +kernel
theorem dL_law_996 : decode cL_law 996 = .ok (.iadd, 1) := by decide +kernel
theorem dL_law_997 : decode cL_law 997 = .ok (.iaload, 1) := by decide +kernel
theorem dL_law_998 : decode cL_law 998 = .ok (.invokevirtual 124, 3) := by decide +kernel
theorem dL_law_1001 : decode cL_law 1001 = .ok (.if_icmp .eq 133, 3) := by decide +kernel
theorem dL_law_1004 : decode cL_law 1004 = .ok (.iconst 0, 1) := by decide +kernel
theorem dL_law_1005 : decode cL_law 1005 = .ok (.ireturn, 1) := by decide +kernel
theorem dL_law_1006 : decode cL_law 1006 = .ok (.aload_n 1, 1) := by decide +kernel
theorem dL_law_1007 : decode cL_law 1007 = .ok (.aload_n 0, 1) := by decide +kernel
theorem dL_law_1008 : decode cL_law 1008 = .ok (.iload_n 3, 1) := by decide +kernel
theorem dL_law_1009 : decode cL_law 1009 = .ok (.iconst 1, 1) := by decide +kernel
theorem dL_law_1010 : decode cL_law 1010 = .ok (.iadd, 1) := by decide +kernel
theorem dL_law_1011 : decode cL_law 1011 = .ok (.iaload, 1) := by decide +kernel
theorem dL_law_1012 : decode cL_law 1012 = .ok (.invokevirtual 125, 3) := by decide +kernel
theorem dL_law_1015 : decode cL_law 1015 = .ok (.aload_n 2, 1) := by decide +kernel
theorem dL_law_1016 : decode cL_law 1016 = .ok (.aload_n 0, 1) := by decide +kernel
theorem dL_law_1017 : decode cL_law 1017 = .ok (.iload_n 3, 1) := by decide +kernel
theorem dL_law_1018 : decode cL_law 1018 = .ok (.iconst 1, 1) := by decide +kernel
theorem dL_law_1019 : decode cL_law 1019 = .ok (.iadd, 1) := by decide +kernel
theorem dL_law_1020 : decode cL_law 1020 = .ok (.iaload, 1) := by decide +kernel
theorem dL_law_1021 : decode cL_law 1021 = .ok (.invokevirtual 128, 3) := by decide +kernel
theorem dL_law_1024 : decode cL_law 1024 = .ok (.if_icmp .eq 110, 3) := by decide +kernel
theorem dL_law_1027 : decode cL_law 1027 = .ok (.iconst 0, 1) := by decide +kernel
theorem dL_law_1028 : decode cL_law 1028 = .ok (.ireturn, 1) := by decide +kernel
theorem dL_law_1029 : decode cL_law 1029 = .ok (.aload_n 1, 1) := by decide +kernel
theorem dL_law_1030 : decode cL_law 1030 = .ok (.aload_n 0, 1) := by decide +kernel
theorem dL_law_1031 : decode cL_law 1031 = .ok (.iload_n 3, 1) := by decide +kernel
theorem dL_law_1032 : decode cL_law 1032 = .ok (.iconst 1, 1) := by decide +kernel
theorem dL_law_1033 : decode cL_law 1033 = .ok (.iadd, 1) := by decide +kernel
theorem dL_law_1034 : decode cL_law 1034 = .ok (.iaload, 1) := by decide +kernel
theorem dL_law_1035 : decode cL_law 1035 = .ok (.invokevirtual 129, 3) := by decide +kernel
theorem dL_law_1038 : decode cL_law 1038 = .ok (.aload_n 2, 1) := by decide +kernel
theorem dL_law_1039 : decode cL_law 1039 = .ok (.aload_n 0, 1) := by decide +kernel
theorem dL_law_1040 : decode cL_law 1040 = .ok (.iload_n 3, 1) := by decide +kernel
theorem dL_law_1041 : decode cL_law 1041 = .ok (.iconst 1, 1) := by decide +kernel
theorem dL_law_1042 : decode cL_law 1042 = .ok (.iadd, 1) := by decide +kernel
theorem dL_law_1043 : decode cL_law 1043 = .ok (.iaload, 1) := by decide +kernel
theorem dL_law_1044 : decode cL_law 1044 = .ok (.invokevirtual 132, 3) := by decide +kernel
theorem dL_law_1047 : decode cL_law 1047 = .ok (.if_icmp .eq 87, 3) := by decide +kernel
theorem dL_law_1050 : decode cL_law 1050 = .ok (.iconst 0, 1) := by decide +kernel
theorem dL_law_1051 : decode cL_law 1051 = .ok (.ireturn, 1) := by decide +kernel
theorem dL_law_1052 : decode cL_law 1052 = .ok (.aload_n 1, 1) := by decide +kernel
theorem dL_law_1053 : decode cL_law 1053 = .ok (.aload_n 0, 1) := by decide +kernel
theorem dL_law_1054 : decode cL_law 1054 = .ok (.iload_n 3, 1) := by decide +kernel
theorem dL_law_1055 : decode cL_law 1055 = .ok (.iconst 1, 1) := by decide +kernel
theorem dL_law_1056 : decode cL_law 1056 = .ok (.iadd, 1) := by decide +kernel
theorem dL_law_1057 : decode cL_law 1057 = .ok (.iaload, 1) := by decide +kernel
theorem dL_law_1058 : decode cL_law 1058 = .ok (.aload_n 0, 1) := by decide +kernel
theorem dL_law_1059 : decode cL_law 1059 = .ok (.iload_n 3, 1) := by decide +kernel
theorem dL_law_1060 : decode cL_law 1060 = .ok (.iconst 2, 1) := by decide +kernel
theorem dL_law_1061 : decode cL_law 1061 = .ok (.iadd, 1) := by decide +kernel
theorem dL_law_1062 : decode cL_law 1062 = .ok (.iaload, 1) := by decide +kernel
theorem dL_law_1063 : decode cL_law 1063 = .ok (.invokevirtual 133, 3) := by decide +kernel
theorem dL_law_1066 : decode cL_law 1066 = .ok (.aload_n 2, 1) := by decide +kernel
theorem dL_law_1067 : decode cL_law 1067 = .ok (.aload_n 0, 1) := by decide +kernel
theorem dL_law_1068 : decode cL_law 1068 = .ok (.iload_n 3, 1) := by decide +kernel
theorem dL_law_1069 : decode cL_law 1069 = .ok (.iconst 1, 1) := by decide +kernel
theorem dL_law_1070 : decode cL_law 1070 = .ok (.iadd, 1) := by decide +kernel
theorem dL_law_1071 : decode cL_law 1071 = .ok (.iaload, 1) := by decide +kernel
theorem dL_law_1072 : decode cL_law 1072 = .ok (.aload_n 0, 1) := by decide +kernel
theorem dL_law_1073 : decode cL_law 1073 = .ok (.iload_n 3, 1) := by decide +kernel
theorem dL_law_1074 : decode cL_law 1074 = .ok (.iconst 2, 1) := by decide +kernel
theorem dL_law_1075 : decode cL_law 1075 = .ok (.iadd, 1) := by decide +kernel
theorem dL_law_1076 : decode cL_law 1076 = .ok (.iaload, 1) := by decide +kernel
theorem dL_law_1077 : decode cL_law 1077 = .ok (.invokevirtual 136, 3) := by decide +kernel
theorem dL_law_1080 : decode cL_law 1080 = .ok (.if_icmp .eq 54, 3) := by decide +kernel
theorem dL_law_1083 : decode cL_law 1083 = .ok (.iconst 0, 1) := by decide +kernel
theorem dL_law_1084 : decode cL_law 1084 = .ok (.ireturn, 1) := by decide +kernel
theorem dL_law_1085 : decode cL_law 1085 = .ok (.aload_n 1, 1) := by decide +kernel
theorem dL_law_1086 : decode cL_law 1086 = .ok (.invokevirtual 137, 3) := by decide +kernel
theorem dL_law_1089 : decode cL_law 1089 = .ok (.aload_n 2, 1) := by decide +kernel
theorem dL_law_1090 : decode cL_law 1090 = .ok (.invokevirtual 140, 3) := by decide +kernel
theorem dL_law_1093 : decode cL_law 1093 = .ok (.if_icmp .eq 41, 3) := by decide +kernel
theorem dL_law_1096 : decode cL_law 1096 = .ok (.iconst 0, 1) := by decide +kernel
theorem dL_law_1097 : decode cL_law 1097 = .ok (.ireturn, 1) := by decide +kernel
theorem dL_law_1098 : decode cL_law 1098 = .ok (.aload_n 1, 1) := by decide +kernel
theorem dL_law_1099 : decode cL_law 1099 = .ok (.invokevirtual 141, 3) := by decide +kernel
theorem dL_law_1102 : decode cL_law 1102 = .ok (.aload_n 2, 1) := by decide +kernel
theorem dL_law_1103 : decode cL_law 1103 = .ok (.invokevirtual 144, 3) := by decide +kernel
theorem dL_law_1106 : decode cL_law 1106 = .ok (.if_icmp .eq 28, 3) := by decide +kernel
theorem dL_law_1109 : decode cL_law 1109 = .ok (.iconst 0, 1) := by decide +kernel
theorem dL_law_1110 : decode cL_law 1110 = .ok (.ireturn, 1) := by decide +kernel
theorem dL_law_1111 : decode cL_law 1111 = .ok (.aload_n 1, 1) := by decide +kernel
theorem dL_law_1112 : decode cL_law 1112 = .ok (.aload_n 0, 1) := by decide +kernel
theorem dL_law_1113 : decode cL_law 1113 = .ok (.iload_n 3, 1) := by decide +kernel
theorem dL_law_1114 : decode cL_law 1114 = .ok (.iconst 1, 1) := by decide +kernel
theorem dL_law_1115 : decode cL_law 1115 = .ok (.iadd, 1) := by decide +kernel
theorem dL_law_1116 : decode cL_law 1116 = .ok (.iaload, 1) := by decide +kernel
theorem dL_law_1117 : decode cL_law 1117 = .ok (.invokevirtual 145, 3) := by decide +kernel
theorem dL_law_1120 : decode cL_law 1120 = .ok (.aload_n 2, 1) := by decide +kernel
theorem dL_law_1121 : decode cL_law 1121 = .ok (.aload_n 0, 1) := by decide +kernel
theorem dL_law_1122 : decode cL_law 1122 = .ok (.iload_n 3, 1) := by decide +kernel
theorem dL_law_1123 : decode cL_law 1123 = .ok (.iconst 1, 1) := by decide +kernel
theorem dL_law_1124 : decode cL_law 1124 = .ok (.iadd, 1) := by decide +kernel
theorem dL_law_1125 : decode cL_law 1125 = .ok (.iaload, 1) := by decide +kernel
theorem dL_law_1126 : decode cL_law 1126 = .ok (.invokevirtual 148, 3) := by decide +kernel
theorem dL_law_1129 : decode cL_law 1129 = .ok (.if_icmp .eq 5, 3) := by decide +kernel
theorem dL_law_1132 : decode cL_law 1132 = .ok (.iconst 0, 1) := by decide +kernel
theorem dL_law_1133 : decode cL_law 1133 = .ok (.ireturn, 1) := by decide +kernel
theorem dL_law_1134 : decode cL_law 1134 = .ok (.iinc 3 6, 3) := by decide +kernel
theorem dL_law_1137 : decode cL_law 1137 = .ok (.goto (-1119), 3) := by decide +kernel
theorem dL_law_1140 : decode cL_law 1140 = .ok (.iconst 1, 1) := by decide +kernel
theorem dL_law_1141 : decode cL_law 1141 = .ok (.ireturn, 1) := by decide +kernel
abbrev vwCl : List vw_C := [(RX0, TX0, 3), (RX1, TX1, 2), (RX2, TX2, 3), (RX3, TX3, 4), (RX4, TX4, 4), (RX5, TX5, 7), (RX6, TX6, 26)]
end
section
theorem zz_last : True := trivial
end
