-- ===== PART A: goes FIRST, ahead of the names: the tables' words, and 'selects' of the private methods out of them =====
/-- a private method of a class that the tables say can be made, by its rows of tables_1 -/
def lw_okq (q : MethodName × Nat) : Prop := (q.1.cls ≠ "java/lang/invoke/MethodHandle" ∧ q.1.cls ≠ "java/lang/invoke/VarHandle") ∧ Cond.instantiable q.1.cls q.2 ∈ tables_1 ∧ Cond.privateMethod q.1 ∈ tables_1 ∧ Cond.instanceMethod q.1 ∈ tables_1
theorem lw_p0 : lw_okq (⟨"AlbumSetter$Tree", "split", "(LAlbumSetter$Node;)V"⟩, 2) := ⟨⟨by decide +kernel, by decide +kernel⟩, List.mem_of_getElem? (i := 85) (by decide +kernel), List.mem_of_getElem? (i := 173) (by decide +kernel), List.mem_of_getElem? (i := 174) (by decide +kernel)⟩
theorem lw_p1 : lw_okq (⟨"AlbumSetter", "beginCall", "()V"⟩, 7) := ⟨⟨by decide +kernel, by decide +kernel⟩, List.mem_of_getElem? (i := 11) (by decide +kernel), List.mem_of_getElem? (i := 296) (by decide +kernel), List.mem_of_getElem? (i := 297) (by decide +kernel)⟩
theorem lw_p2 : lw_okq (⟨"AlbumSetter$History", "slotAt", "(I)LAlbumSetter$Album;"⟩, 3) := ⟨⟨by decide +kernel, by decide +kernel⟩, List.mem_of_getElem? (i := 48) (by decide +kernel), List.mem_of_getElem? (i := 304) (by decide +kernel), List.mem_of_getElem? (i := 305) (by decide +kernel)⟩
theorem lw_p3 : lw_okq (⟨"AlbumSetter", "beginChange", "()V"⟩, 7) := ⟨⟨by decide +kernel, by decide +kernel⟩, List.mem_of_getElem? (i := 11) (by decide +kernel), List.mem_of_getElem? (i := 316) (by decide +kernel), List.mem_of_getElem? (i := 317) (by decide +kernel)⟩
theorem lw_p4 : lw_okq (⟨"AlbumSetter$Sheet", "treeAt", "(I)LAlbumSetter$Tree;"⟩, 12) := ⟨⟨by decide +kernel, by decide +kernel⟩, List.mem_of_getElem? (i := 67) (by decide +kernel), List.mem_of_getElem? (i := 407) (by decide +kernel), List.mem_of_getElem? (i := 408) (by decide +kernel)⟩
theorem lw_p5 : lw_okq (⟨"AlbumSetter$Sheet", "layEdges", "(LAlbumSetter$Node;)V"⟩, 12) := ⟨⟨by decide +kernel, by decide +kernel⟩, List.mem_of_getElem? (i := 67) (by decide +kernel), List.mem_of_getElem? (i := 427) (by decide +kernel), List.mem_of_getElem? (i := 428) (by decide +kernel)⟩
theorem lw_p6 : lw_okq (⟨"AlbumSetter$Book", "beginSpot", "(III)V"⟩, 9) := ⟨⟨by decide +kernel, by decide +kernel⟩, List.mem_of_getElem? (i := 234) (by decide +kernel), List.mem_of_getElem? (i := 479) (by decide +kernel), List.mem_of_getElem? (i := 480) (by decide +kernel)⟩
theorem lw_p7 : lw_okq (⟨"AlbumSetter$Book", "weighWide", "(LAlbumSetter$Album;LAlbumSetter$Sheet;I)V"⟩, 9) := ⟨⟨by decide +kernel, by decide +kernel⟩, List.mem_of_getElem? (i := 234) (by decide +kernel), List.mem_of_getElem? (i := 485) (by decide +kernel), List.mem_of_getElem? (i := 486) (by decide +kernel)⟩
theorem lw_p8 : lw_okq (⟨"AlbumSetter$Book", "offer", "(IIII)V"⟩, 9) := ⟨⟨by decide +kernel, by decide +kernel⟩, List.mem_of_getElem? (i := 234) (by decide +kernel), List.mem_of_getElem? (i := 490) (by decide +kernel), List.mem_of_getElem? (i := 491) (by decide +kernel)⟩
theorem lw_p9 : lw_okq (⟨"AlbumSetter$Book", "weighPlain", "(LAlbumSetter$Album;LAlbumSetter$Sheet;I)V"⟩, 9) := ⟨⟨by decide +kernel, by decide +kernel⟩, List.mem_of_getElem? (i := 234) (by decide +kernel), List.mem_of_getElem? (i := 495) (by decide +kernel), List.mem_of_getElem? (i := 496) (by decide +kernel)⟩
theorem lw_p10 : lw_okq (⟨"AlbumSetter$Book", "setOut", "(LAlbumSetter$Album;)V"⟩, 9) := ⟨⟨by decide +kernel, by decide +kernel⟩, List.mem_of_getElem? (i := 234) (by decide +kernel), List.mem_of_getElem? (i := 504) (by decide +kernel), List.mem_of_getElem? (i := 505) (by decide +kernel)⟩
theorem lw_p11 : lw_okq (⟨"AlbumSetter$Book", "addLeaf", "(III)V"⟩, 9) := ⟨⟨by decide +kernel, by decide +kernel⟩, List.mem_of_getElem? (i := 234) (by decide +kernel), List.mem_of_getElem? (i := 512) (by decide +kernel), List.mem_of_getElem? (i := 513) (by decide +kernel)⟩
theorem lw_p12 : lw_okq (⟨"AlbumSetterModel", "begins", "()V"⟩, 39) := ⟨⟨by decide +kernel, by decide +kernel⟩, List.mem_of_getElem? (i := 571) (by decide +kernel), List.mem_of_getElem? (i := 700) (by decide +kernel), List.mem_of_getElem? (i := 701) (by decide +kernel)⟩
theorem lw_p13 : lw_okq (⟨"AlbumSetterModel", "remembers", "()V"⟩, 39) := ⟨⟨by decide +kernel, by decide +kernel⟩, List.mem_of_getElem? (i := 571) (by decide +kernel), List.mem_of_getElem? (i := 704) (by decide +kernel), List.mem_of_getElem? (i := 705) (by decide +kernel)⟩
theorem lw_p14 : lw_okq (⟨"AlbumSetterModel", "sets", "()Z"⟩, 39) := ⟨⟨by decide +kernel, by decide +kernel⟩, List.mem_of_getElem? (i := 571) (by decide +kernel), List.mem_of_getElem? (i := 708) (by decide +kernel), List.mem_of_getElem? (i := 709) (by decide +kernel)⟩
theorem lw_p15 : lw_okq (⟨"AlbumSetterModel", "books0", "()V"⟩, 39) := ⟨⟨by decide +kernel, by decide +kernel⟩, List.mem_of_getElem? (i := 571) (by decide +kernel), List.mem_of_getElem? (i := 712) (by decide +kernel), List.mem_of_getElem? (i := 713) (by decide +kernel)⟩
def lw_privs_1 : List (MethodName × Nat) := [(⟨"AlbumSetter$Tree", "split", "(LAlbumSetter$Node;)V"⟩, 2), (⟨"AlbumSetter", "beginCall", "()V"⟩, 7), (⟨"AlbumSetter$History", "slotAt", "(I)LAlbumSetter$Album;"⟩, 3), (⟨"AlbumSetter", "beginChange", "()V"⟩, 7), (⟨"AlbumSetter$Sheet", "treeAt", "(I)LAlbumSetter$Tree;"⟩, 12), (⟨"AlbumSetter$Sheet", "layEdges", "(LAlbumSetter$Node;)V"⟩, 12), (⟨"AlbumSetter$Book", "beginSpot", "(III)V"⟩, 9), (⟨"AlbumSetter$Book", "weighWide", "(LAlbumSetter$Album;LAlbumSetter$Sheet;I)V"⟩, 9), (⟨"AlbumSetter$Book", "offer", "(IIII)V"⟩, 9), (⟨"AlbumSetter$Book", "weighPlain", "(LAlbumSetter$Album;LAlbumSetter$Sheet;I)V"⟩, 9), (⟨"AlbumSetter$Book", "setOut", "(LAlbumSetter$Album;)V"⟩, 9), (⟨"AlbumSetter$Book", "addLeaf", "(III)V"⟩, 9), (⟨"AlbumSetterModel", "begins", "()V"⟩, 39), (⟨"AlbumSetterModel", "remembers", "()V"⟩, 39), (⟨"AlbumSetterModel", "sets", "()Z"⟩, 39), (⟨"AlbumSetterModel", "books0", "()V"⟩, 39)]
theorem lw_r1 : ∀ q ∈ lw_privs_1, lw_okq q := List.forall_mem_cons.mpr ⟨lw_p0, List.forall_mem_cons.mpr ⟨lw_p1, List.forall_mem_cons.mpr ⟨lw_p2, List.forall_mem_cons.mpr ⟨lw_p3, List.forall_mem_cons.mpr ⟨lw_p4, List.forall_mem_cons.mpr ⟨lw_p5, List.forall_mem_cons.mpr ⟨lw_p6, List.forall_mem_cons.mpr ⟨lw_p7, List.forall_mem_cons.mpr ⟨lw_p8, List.forall_mem_cons.mpr ⟨lw_p9, List.forall_mem_cons.mpr ⟨lw_p10, List.forall_mem_cons.mpr ⟨lw_p11, List.forall_mem_cons.mpr ⟨lw_p12, List.forall_mem_cons.mpr ⟨lw_p13, List.forall_mem_cons.mpr ⟨lw_p14, List.forall_mem_cons.mpr ⟨lw_p15, fun _ h => absurd h List.not_mem_nil⟩⟩⟩⟩⟩⟩⟩⟩⟩⟩⟩⟩⟩⟩⟩⟩
theorem lw_p16 : lw_okq (⟨"AlbumSetterModel", "isLeaf", "(II)Z"⟩, 39) := ⟨⟨by decide +kernel, by decide +kernel⟩, List.mem_of_getElem? (i := 571) (by decide +kernel), List.mem_of_getElem? (i := 716) (by decide +kernel), List.mem_of_getElem? (i := 717) (by decide +kernel)⟩
theorem lw_p17 : lw_okq (⟨"AlbumSetterModel", "canLay", "(III)Z"⟩, 39) := ⟨⟨by decide +kernel, by decide +kernel⟩, List.mem_of_getElem? (i := 571) (by decide +kernel), List.mem_of_getElem? (i := 720) (by decide +kernel), List.mem_of_getElem? (i := 721) (by decide +kernel)⟩
theorem lw_p18 : lw_okq (⟨"AlbumSetterModel", "isTree", "(II)Z"⟩, 39) := ⟨⟨by decide +kernel, by decide +kernel⟩, List.mem_of_getElem? (i := 571) (by decide +kernel), List.mem_of_getElem? (i := 724) (by decide +kernel), List.mem_of_getElem? (i := 725) (by decide +kernel)⟩
theorem lw_p19 : lw_okq (⟨"AlbumSetterModel", "treesOf", "(I)I"⟩, 39) := ⟨⟨by decide +kernel, by decide +kernel⟩, List.mem_of_getElem? (i := 571) (by decide +kernel), List.mem_of_getElem? (i := 728) (by decide +kernel), List.mem_of_getElem? (i := 729) (by decide +kernel)⟩
theorem lw_p20 : lw_okq (⟨"AlbumSetterModel", "halves", "(I)I"⟩, 39) := ⟨⟨by decide +kernel, by decide +kernel⟩, List.mem_of_getElem? (i := 571) (by decide +kernel), List.mem_of_getElem? (i := 732) (by decide +kernel), List.mem_of_getElem? (i := 733) (by decide +kernel)⟩
theorem lw_p21 : lw_okq (⟨"AlbumSetterModel", "isPicture", "(I)Z"⟩, 39) := ⟨⟨by decide +kernel, by decide +kernel⟩, List.mem_of_getElem? (i := 571) (by decide +kernel), List.mem_of_getElem? (i := 736) (by decide +kernel), List.mem_of_getElem? (i := 737) (by decide +kernel)⟩
theorem lw_p22 : lw_okq (⟨"AlbumSetterModel", "isWide", "(I)Z"⟩, 39) := ⟨⟨by decide +kernel, by decide +kernel⟩, List.mem_of_getElem? (i := 571) (by decide +kernel), List.mem_of_getElem? (i := 740) (by decide +kernel), List.mem_of_getElem? (i := 741) (by decide +kernel)⟩
theorem lw_p23 : lw_okq (⟨"AlbumSetterModel", "isTied", "(I)Z"⟩, 39) := ⟨⟨by decide +kernel, by decide +kernel⟩, List.mem_of_getElem? (i := 571) (by decide +kernel), List.mem_of_getElem? (i := 744) (by decide +kernel), List.mem_of_getElem? (i := 745) (by decide +kernel)⟩
theorem lw_p24 : lw_okq (⟨"AlbumSetterModel", "bestOf", "(II)I"⟩, 39) := ⟨⟨by decide +kernel, by decide +kernel⟩, List.mem_of_getElem? (i := 571) (by decide +kernel), List.mem_of_getElem? (i := 748) (by decide +kernel), List.mem_of_getElem? (i := 749) (by decide +kernel)⟩
theorem lw_p25 : lw_okq (⟨"AlbumSetterModel", "costOf", "(III)I"⟩, 39) := ⟨⟨by decide +kernel, by decide +kernel⟩, List.mem_of_getElem? (i := 571) (by decide +kernel), List.mem_of_getElem? (i := 752) (by decide +kernel), List.mem_of_getElem? (i := 753) (by decide +kernel)⟩
theorem lw_p26 : lw_okq (⟨"AlbumSetterModel", "makes", "(III)V"⟩, 39) := ⟨⟨by decide +kernel, by decide +kernel⟩, List.mem_of_getElem? (i := 571) (by decide +kernel), List.mem_of_getElem? (i := 756) (by decide +kernel), List.mem_of_getElem? (i := 757) (by decide +kernel)⟩
theorem lw_p27 : lw_okq (⟨"AlbumSetterModel", "decodes", "(II)V"⟩, 39) := ⟨⟨by decide +kernel, by decide +kernel⟩, List.mem_of_getElem? (i := 571) (by decide +kernel), List.mem_of_getElem? (i := 760) (by decide +kernel), List.mem_of_getElem? (i := 761) (by decide +kernel)⟩
theorem lw_p28 : lw_okq (⟨"AlbumSetterModel", "node", "(IIII)I"⟩, 39) := ⟨⟨by decide +kernel, by decide +kernel⟩, List.mem_of_getElem? (i := 571) (by decide +kernel), List.mem_of_getElem? (i := 764) (by decide +kernel), List.mem_of_getElem? (i := 765) (by decide +kernel)⟩
theorem lw_p29 : lw_okq (⟨"AlbumSetterModel", "takesSizes", "(II)I"⟩, 39) := ⟨⟨by decide +kernel, by decide +kernel⟩, List.mem_of_getElem? (i := 571) (by decide +kernel), List.mem_of_getElem? (i := 768) (by decide +kernel), List.mem_of_getElem? (i := 769) (by decide +kernel)⟩
theorem lw_p30 : lw_okq (⟨"AlbumSetterModel", "ways", "(I)I"⟩, 39) := ⟨⟨by decide +kernel, by decide +kernel⟩, List.mem_of_getElem? (i := 571) (by decide +kernel), List.mem_of_getElem? (i := 772) (by decide +kernel), List.mem_of_getElem? (i := 773) (by decide +kernel)⟩
theorem lw_p31 : lw_okq (⟨"AlbumSetterModel", "shapes", "(I)V"⟩, 39) := ⟨⟨by decide +kernel, by decide +kernel⟩, List.mem_of_getElem? (i := 571) (by decide +kernel), List.mem_of_getElem? (i := 776) (by decide +kernel), List.mem_of_getElem? (i := 777) (by decide +kernel)⟩
def lw_privs_2 : List (MethodName × Nat) := [(⟨"AlbumSetterModel", "isLeaf", "(II)Z"⟩, 39), (⟨"AlbumSetterModel", "canLay", "(III)Z"⟩, 39), (⟨"AlbumSetterModel", "isTree", "(II)Z"⟩, 39), (⟨"AlbumSetterModel", "treesOf", "(I)I"⟩, 39), (⟨"AlbumSetterModel", "halves", "(I)I"⟩, 39), (⟨"AlbumSetterModel", "isPicture", "(I)Z"⟩, 39), (⟨"AlbumSetterModel", "isWide", "(I)Z"⟩, 39), (⟨"AlbumSetterModel", "isTied", "(I)Z"⟩, 39), (⟨"AlbumSetterModel", "bestOf", "(II)I"⟩, 39), (⟨"AlbumSetterModel", "costOf", "(III)I"⟩, 39), (⟨"AlbumSetterModel", "makes", "(III)V"⟩, 39), (⟨"AlbumSetterModel", "decodes", "(II)V"⟩, 39), (⟨"AlbumSetterModel", "node", "(IIII)I"⟩, 39), (⟨"AlbumSetterModel", "takesSizes", "(II)I"⟩, 39), (⟨"AlbumSetterModel", "ways", "(I)I"⟩, 39), (⟨"AlbumSetterModel", "shapes", "(I)V"⟩, 39)]
theorem lw_r2 : ∀ q ∈ lw_privs_2, lw_okq q := List.forall_mem_cons.mpr ⟨lw_p16, List.forall_mem_cons.mpr ⟨lw_p17, List.forall_mem_cons.mpr ⟨lw_p18, List.forall_mem_cons.mpr ⟨lw_p19, List.forall_mem_cons.mpr ⟨lw_p20, List.forall_mem_cons.mpr ⟨lw_p21, List.forall_mem_cons.mpr ⟨lw_p22, List.forall_mem_cons.mpr ⟨lw_p23, List.forall_mem_cons.mpr ⟨lw_p24, List.forall_mem_cons.mpr ⟨lw_p25, List.forall_mem_cons.mpr ⟨lw_p26, List.forall_mem_cons.mpr ⟨lw_p27, List.forall_mem_cons.mpr ⟨lw_p28, List.forall_mem_cons.mpr ⟨lw_p29, List.forall_mem_cons.mpr ⟨lw_p30, List.forall_mem_cons.mpr ⟨lw_p31, fun _ h => absurd h List.not_mem_nil⟩⟩⟩⟩⟩⟩⟩⟩⟩⟩⟩⟩⟩⟩⟩⟩
theorem lw_p32 : lw_okq (⟨"AlbumSetterModel", "share", "(JJ)V"⟩, 39) := ⟨⟨by decide +kernel, by decide +kernel⟩, List.mem_of_getElem? (i := 571) (by decide +kernel), List.mem_of_getElem? (i := 780) (by decide +kernel), List.mem_of_getElem? (i := 781) (by decide +kernel)⟩
theorem lw_p33 : lw_okq (⟨"AlbumSetterModel", "common", "(JJ)J"⟩, 39) := ⟨⟨by decide +kernel, by decide +kernel⟩, List.mem_of_getElem? (i := 571) (by decide +kernel), List.mem_of_getElem? (i := 784) (by decide +kernel), List.mem_of_getElem? (i := 785) (by decide +kernel)⟩
theorem lw_p34 : lw_okq (⟨"AlbumSetterModel", "plus", "(JJJJ)V"⟩, 39) := ⟨⟨by decide +kernel, by decide +kernel⟩, List.mem_of_getElem? (i := 571) (by decide +kernel), List.mem_of_getElem? (i := 788) (by decide +kernel), List.mem_of_getElem? (i := 789) (by decide +kernel)⟩
theorem lw_p35 : lw_okq (⟨"AlbumSetterModel", "pageWide", "(I)I"⟩, 39) := ⟨⟨by decide +kernel, by decide +kernel⟩, List.mem_of_getElem? (i := 571) (by decide +kernel), List.mem_of_getElem? (i := 792) (by decide +kernel), List.mem_of_getElem? (i := 793) (by decide +kernel)⟩
theorem lw_p36 : lw_okq (⟨"AlbumSetterModel", "lays", "(II)V"⟩, 39) := ⟨⟨by decide +kernel, by decide +kernel⟩, List.mem_of_getElem? (i := 571) (by decide +kernel), List.mem_of_getElem? (i := 796) (by decide +kernel), List.mem_of_getElem? (i := 797) (by decide +kernel)⟩
theorem lw_p37 : lw_okq (⟨"AlbumSetterModel", "times", "(JJJJ)V"⟩, 39) := ⟨⟨by decide +kernel, by decide +kernel⟩, List.mem_of_getElem? (i := 571) (by decide +kernel), List.mem_of_getElem? (i := 800) (by decide +kernel), List.mem_of_getElem? (i := 801) (by decide +kernel)⟩
theorem lw_p38 : lw_okq (⟨"AlbumSetterModel", "nodeOf", "(I)I"⟩, 39) := ⟨⟨by decide +kernel, by decide +kernel⟩, List.mem_of_getElem? (i := 571) (by decide +kernel), List.mem_of_getElem? (i := 804) (by decide +kernel), List.mem_of_getElem? (i := 805) (by decide +kernel)⟩
theorem lw_p39 : lw_okq (⟨"AlbumSetterModel", "sideOf", "(II)I"⟩, 39) := ⟨⟨by decide +kernel, by decide +kernel⟩, List.mem_of_getElem? (i := 571) (by decide +kernel), List.mem_of_getElem? (i := 808) (by decide +kernel), List.mem_of_getElem? (i := 809) (by decide +kernel)⟩
theorem lw_p40 : lw_okq (⟨"AlbumSetterModel", "near", "(JJ)I"⟩, 39) := ⟨⟨by decide +kernel, by decide +kernel⟩, List.mem_of_getElem? (i := 571) (by decide +kernel), List.mem_of_getElem? (i := 812) (by decide +kernel), List.mem_of_getElem? (i := 813) (by decide +kernel)⟩
theorem lw_p41 : lw_okq (⟨"AlbumSetterModel", "comes", "(III)V"⟩, 39) := ⟨⟨by decide +kernel, by decide +kernel⟩, List.mem_of_getElem? (i := 571) (by decide +kernel), List.mem_of_getElem? (i := 818) (by decide +kernel), List.mem_of_getElem? (i := 819) (by decide +kernel)⟩
theorem lw_p42 : lw_okq (⟨"AlbumSetterModel", "lay", "(III)V"⟩, 39) := ⟨⟨by decide +kernel, by decide +kernel⟩, List.mem_of_getElem? (i := 571) (by decide +kernel), List.mem_of_getElem? (i := 822) (by decide +kernel), List.mem_of_getElem? (i := 823) (by decide +kernel)⟩
theorem lw_p43 : lw_okq (⟨"AlbumSetterModel", "keep", "()V"⟩, 39) := ⟨⟨by decide +kernel, by decide +kernel⟩, List.mem_of_getElem? (i := 571) (by decide +kernel), List.mem_of_getElem? (i := 830) (by decide +kernel), List.mem_of_getElem? (i := 831) (by decide +kernel)⟩
theorem lw_p44 : lw_okq (⟨"AlbumSetterModel", "canBe", "(IIIII)Z"⟩, 39) := ⟨⟨by decide +kernel, by decide +kernel⟩, List.mem_of_getElem? (i := 571) (by decide +kernel), List.mem_of_getElem? (i := 838) (by decide +kernel), List.mem_of_getElem? (i := 839) (by decide +kernel)⟩
theorem lw_p45 : lw_okq (⟨"AlbumSetterModel", "puts", "(IIIIII)V"⟩, 39) := ⟨⟨by decide +kernel, by decide +kernel⟩, List.mem_of_getElem? (i := 571) (by decide +kernel), List.mem_of_getElem? (i := 842) (by decide +kernel), List.mem_of_getElem? (i := 843) (by decide +kernel)⟩
def lw_privs_3 : List (MethodName × Nat) := [(⟨"AlbumSetterModel", "share", "(JJ)V"⟩, 39), (⟨"AlbumSetterModel", "common", "(JJ)J"⟩, 39), (⟨"AlbumSetterModel", "plus", "(JJJJ)V"⟩, 39), (⟨"AlbumSetterModel", "pageWide", "(I)I"⟩, 39), (⟨"AlbumSetterModel", "lays", "(II)V"⟩, 39), (⟨"AlbumSetterModel", "times", "(JJJJ)V"⟩, 39), (⟨"AlbumSetterModel", "nodeOf", "(I)I"⟩, 39), (⟨"AlbumSetterModel", "sideOf", "(II)I"⟩, 39), (⟨"AlbumSetterModel", "near", "(JJ)I"⟩, 39), (⟨"AlbumSetterModel", "comes", "(III)V"⟩, 39), (⟨"AlbumSetterModel", "lay", "(III)V"⟩, 39), (⟨"AlbumSetterModel", "keep", "()V"⟩, 39), (⟨"AlbumSetterModel", "canBe", "(IIIII)Z"⟩, 39), (⟨"AlbumSetterModel", "puts", "(IIIIII)V"⟩, 39)]
theorem lw_r3 : ∀ q ∈ lw_privs_3, lw_okq q := List.forall_mem_cons.mpr ⟨lw_p32, List.forall_mem_cons.mpr ⟨lw_p33, List.forall_mem_cons.mpr ⟨lw_p34, List.forall_mem_cons.mpr ⟨lw_p35, List.forall_mem_cons.mpr ⟨lw_p36, List.forall_mem_cons.mpr ⟨lw_p37, List.forall_mem_cons.mpr ⟨lw_p38, List.forall_mem_cons.mpr ⟨lw_p39, List.forall_mem_cons.mpr ⟨lw_p40, List.forall_mem_cons.mpr ⟨lw_p41, List.forall_mem_cons.mpr ⟨lw_p42, List.forall_mem_cons.mpr ⟨lw_p43, List.forall_mem_cons.mpr ⟨lw_p44, List.forall_mem_cons.mpr ⟨lw_p45, fun _ h => absurd h List.not_mem_nil⟩⟩⟩⟩⟩⟩⟩⟩⟩⟩⟩⟩⟩⟩
def lw_privs : List (MethodName × Nat) := lw_privs_1 ++ (lw_privs_2 ++ (lw_privs_3))
def lw_tbl : List Cond := k2_sels lw_privs ++ tables_1
theorem lw_privs_ok : ∀ q ∈ lw_privs, lw_okq q := by
  show ∀ q ∈ lw_privs_1 ++ (lw_privs_2 ++ (lw_privs_3)), lw_okq q
  exact List.forall_mem_append.mpr ⟨lw_r1, List.forall_mem_append.mpr ⟨lw_r2, lw_r3⟩⟩

def RX0 : String := "AlbumSetter$Album"
def TX0 : u_T := fun k => match k with
  | 0 => ("AlbumSetter$Album", "numbers", "[I", true)
  | 1 => ("AlbumSetter$Album", "count", "I", false)
  | 2 => ("AlbumSetter$Album", "pageWidth", "I", false)
  | _ => ("AlbumSetter$Album", "pageHeight", "I", false)
def tyX0 : Nat → FieldType := fun k => match k with
  | 0 => .array .int
  | 1 => .int
  | 2 => .int
  | _ => .int
abbrev wsX00 : List Cond := u_ws RX0 TX0 4
theorem nmX0 : ∀ a, a < 4 → ∀ b, b < 4 → a ≠ b → (TX0 a).2.1 ≠ (TX0 b).2.1 := by decide +kernel
theorem tyX0_ok : ∀ k, k < 4 → parseFieldDescriptor (TX0 k).2.2.1 = some (tyX0 k) := by decide +kernel
abbrev cX0_init : ByteArray := prog_2_method_1_code
def yX0_init : MethodName := ⟨RX0, "<init>", "()V"⟩
abbrev cX0_has : ByteArray := prog_2_method_2_code
def yX0_has : MethodName := ⟨RX0, "has", "(I)Z"⟩
abbrev cX0_number : ByteArray := prog_2_method_3_code
def yX0_number : MethodName := ⟨RX0, "number", "(II)I"⟩
abbrev cX0_isWide : ByteArray := prog_2_method_4_code
def yX0_isWide : MethodName := ⟨RX0, "isWide", "(I)Z"⟩
abbrev cX0_isPlain : ByteArray := prog_2_method_5_code
def yX0_isPlain : MethodName := ⟨RX0, "isPlain", "(I)Z"⟩
abbrev cX0_mayBreakAhead : ByteArray := prog_2_method_6_code
def yX0_mayBreakAhead : MethodName := ⟨RX0, "mayBreakAhead", "(I)Z"⟩
abbrev cX0_write : ByteArray := prog_2_method_7_code
def yX0_write : MethodName := ⟨RX0, "write", "(IIIIII)V"⟩
abbrev cX0_exchange : ByteArray := prog_2_method_8_code
def yX0_exchange : MethodName := ⟨RX0, "exchange", "(II)V"⟩
abbrev cX0_remove : ByteArray := prog_2_method_9_code
def yX0_remove : MethodName := ⟨RX0, "remove", "(I)V"⟩
abbrev cX0_become : ByteArray := prog_2_method_10_code
def yX0_become : MethodName := ⟨RX0, "become", "(LAlbumSetter$Album;)V"⟩
def RX1 : String := "AlbumSetter$Book"
def TX1 : u_T := fun k => match k with
  | 0 => ("AlbumSetter$Book", "least", "[I", true)
  | 1 => ("AlbumSetter$Book", "ways", "[I", true)
  | 2 => ("AlbumSetter$Book", "takes", "[I", true)
  | 3 => ("AlbumSetter$Book", "bestTrees", "[I", true)
  | 4 => ("AlbumSetter$Book", "leaves", "[I", true)
  | 5 => ("AlbumSetter$Book", "pageOfPicture", "[I", true)
  | 6 => ("AlbumSetter$Book", "pictures", "I", false)
  | 7 => ("AlbumSetter$Book", "pageCount", "I", false)
  | _ => ("AlbumSetter$Book", "made", "Z", false)
def tyX1 : Nat → FieldType := fun k => match k with
  | 0 => .array .int
  | 1 => .array .int
  | 2 => .array .int
  | 3 => .array .int
  | 4 => .array .int
  | 5 => .array .int
  | 6 => .int
  | 7 => .int
  | _ => .boolean
abbrev wsX10 : List Cond := u_ws RX1 TX1 9
theorem nmX1 : ∀ a, a < 9 → ∀ b, b < 9 → a ≠ b → (TX1 a).2.1 ≠ (TX1 b).2.1 := by decide +kernel
theorem tyX1_ok : ∀ k, k < 9 → parseFieldDescriptor (TX1 k).2.2.1 = some (tyX1 k) := by decide +kernel
abbrev cX1_init : ByteArray := prog_3_method_1_code
def yX1_init : MethodName := ⟨RX1, "<init>", "()V"⟩
abbrev cX1_forget : ByteArray := prog_3_method_2_code
def yX1_forget : MethodName := ⟨RX1, "forget", "()V"⟩
abbrev cX1_make : ByteArray := prog_3_method_3_code
def yX1_make : MethodName := ⟨RX1, "make", "(LAlbumSetter$Album;LAlbumSetter$Sheet;)V"⟩
abbrev cX1_exists : ByteArray := prog_3_method_4_code
def yX1_exists : MethodName := ⟨RX1, "exists", "()Z"⟩
abbrev cX1_expense : ByteArray := prog_3_method_5_code
def yX1_expense : MethodName := ⟨RX1, "expense", "()I"⟩
abbrev cX1_howMany : ByteArray := prog_3_method_6_code
def yX1_howMany : MethodName := ⟨RX1, "howMany", "()I"⟩
abbrev cX1_leafField : ByteArray := prog_3_method_7_code
def yX1_leafField : MethodName := ⟨RX1, "leafField", "(II)I"⟩
abbrev cX1_pageWith : ByteArray := prog_3_method_8_code
def yX1_pageWith : MethodName := ⟨RX1, "pageWith", "(I)I"⟩
abbrev cX1_firstUnlike : ByteArray := prog_3_method_9_code
def yX1_firstUnlike : MethodName := ⟨RX1, "firstUnlike", "(LAlbumSetter$Book;)I"⟩
abbrev cX1_beginSpot : ByteArray := prog_3_method_10_code
def yX1_beginSpot : MethodName := ⟨RX1, "beginSpot", "(III)V"⟩
abbrev cX1_weighWide : ByteArray := prog_3_method_11_code
def yX1_weighWide : MethodName := ⟨RX1, "weighWide", "(LAlbumSetter$Album;LAlbumSetter$Sheet;I)V"⟩
abbrev cX1_weighPlain : ByteArray := prog_3_method_12_code
def yX1_weighPlain : MethodName := ⟨RX1, "weighPlain", "(LAlbumSetter$Album;LAlbumSetter$Sheet;I)V"⟩
abbrev cX1_offer : ByteArray := prog_3_method_13_code
def yX1_offer : MethodName := ⟨RX1, "offer", "(IIII)V"⟩
abbrev cX1_setOut : ByteArray := prog_3_method_14_code
def yX1_setOut : MethodName := ⟨RX1, "setOut", "(LAlbumSetter$Album;)V"⟩
abbrev cX1_addLeaf : ByteArray := prog_3_method_15_code
def yX1_addLeaf : MethodName := ⟨RX1, "addLeaf", "(III)V"⟩
def RX2 : String := "AlbumSetter$History"
def TX2 : u_T := fun k => match k with
  | 0 => ("AlbumSetter$History", "ring", "[LAlbumSetter$Album;", true)
  | 1 => ("AlbumSetter$History", "kept", "I", false)
  | _ => ("AlbumSetter$History", "next", "I", false)
def tyX2 : Nat → FieldType := fun k => match k with
  | 0 => .array (.object "AlbumSetter$Album")
  | 1 => .int
  | _ => .int
abbrev wsX20 : List Cond := u_ws RX2 TX2 3
theorem nmX2 : ∀ a, a < 3 → ∀ b, b < 3 → a ≠ b → (TX2 a).2.1 ≠ (TX2 b).2.1 := by decide +kernel
theorem tyX2_ok : ∀ k, k < 3 → parseFieldDescriptor (TX2 k).2.2.1 = some (tyX2 k) := by decide +kernel
abbrev cX2_init : ByteArray := prog_4_method_1_code
def yX2_init : MethodName := ⟨RX2, "<init>", "()V"⟩
abbrev cX2_isEmpty : ByteArray := prog_4_method_2_code
def yX2_isEmpty : MethodName := ⟨RX2, "isEmpty", "()Z"⟩
abbrev cX2_keep : ByteArray := prog_4_method_3_code
def yX2_keep : MethodName := ⟨RX2, "keep", "(LAlbumSetter$Album;)V"⟩
abbrev cX2_takeBack : ByteArray := prog_4_method_4_code
def yX2_takeBack : MethodName := ⟨RX2, "takeBack", "(LAlbumSetter$Album;)V"⟩
abbrev cX2_slotAt : ByteArray := prog_4_method_5_code
def yX2_slotAt : MethodName := ⟨RX2, "slotAt", "(I)LAlbumSetter$Album;"⟩
def RX3 : String := "AlbumSetter$Node"
def TX3 : u_T := fun k => match k with
  | 0 => ("AlbumSetter$Node", "size", "I", true)
  | 1 => ("AlbumSetter$Node", "cut", "I", true)
  | 2 => ("AlbumSetter$Node", "row", "I", true)
  | 3 => ("AlbumSetter$Node", "start", "I", true)
  | 4 => ("AlbumSetter$Node", "firstPart", "LAlbumSetter$Node;", false)
  | 5 => ("AlbumSetter$Node", "nextPart", "LAlbumSetter$Node;", false)
  | 6 => ("AlbumSetter$Node", "ahead", "LAlbumSetter$Node;", false)
  | 7 => ("AlbumSetter$Node", "behind", "LAlbumSetter$Node;", false)
  | 8 => ("AlbumSetter$Node", "width", "J", false)
  | 9 => ("AlbumSetter$Node", "height", "J", false)
  | 10 => ("AlbumSetter$Node", "left", "J", false)
  | 11 => ("AlbumSetter$Node", "across", "J", false)
  | 12 => ("AlbumSetter$Node", "acrossPoint", "J", false)
  | 13 => ("AlbumSetter$Node", "top", "J", false)
  | 14 => ("AlbumSetter$Node", "down", "J", false)
  | _ => ("AlbumSetter$Node", "downPoint", "J", false)
def tyX3 : Nat → FieldType := fun k => match k with
  | 0 => .int
  | 1 => .int
  | 2 => .int
  | 3 => .int
  | 4 => .object "AlbumSetter$Node"
  | 5 => .object "AlbumSetter$Node"
  | 6 => .object "AlbumSetter$Node"
  | 7 => .object "AlbumSetter$Node"
  | 8 => .long
  | 9 => .long
  | 10 => .long
  | 11 => .long
  | 12 => .long
  | 13 => .long
  | 14 => .long
  | _ => .long
abbrev wsX30 : List Cond := u_ws RX3 TX3 16
theorem nmX3 : ∀ a, a < 16 → ∀ b, b < 16 → a ≠ b → (TX3 a).2.1 ≠ (TX3 b).2.1 := by decide +kernel
theorem tyX3_ok : ∀ k, k < 16 → parseFieldDescriptor (TX3 k).2.2.1 = some (tyX3 k) := by decide +kernel
abbrev cX3_init : ByteArray := prog_5_method_1_code
def yX3_init : MethodName := ⟨RX3, "<init>", "(IIII)V"⟩
abbrev cX3_measure : ByteArray := prog_5_method_2_code
def yX3_measure : MethodName := ⟨RX3, "measure", "()V"⟩
abbrev cX3_placeOnPage : ByteArray := prog_5_method_3_code
def yX3_placeOnPage : MethodName := ⟨RX3, "placeOnPage", "(II)V"⟩
abbrev cX3_placeAcross : ByteArray := prog_5_method_4_code
def yX3_placeAcross : MethodName := ⟨RX3, "placeAcross", "()V"⟩
abbrev cX3_placeDown : ByteArray := prog_5_method_5_code
def yX3_placeDown : MethodName := ⟨RX3, "placeDown", "()V"⟩
def RX4 : String := "AlbumSetter$Sheet"
def TX4 : u_T := fun k => match k with
  | 0 => ("AlbumSetter$Sheet", "forest", "[LAlbumSetter$Tree;", true)
  | 1 => ("AlbumSetter$Sheet", "widths", "[I", true)
  | 2 => ("AlbumSetter$Sheet", "heights", "[I", true)
  | 3 => ("AlbumSetter$Sheet", "worths", "[I", true)
  | 4 => ("AlbumSetter$Sheet", "areas", "[I", true)
  | 5 => ("AlbumSetter$Sheet", "edges", "[I", true)
  | 6 => ("AlbumSetter$Sheet", "count", "I", false)
  | 7 => ("AlbumSetter$Sheet", "pageWidth", "I", false)
  | 8 => ("AlbumSetter$Sheet", "pageHeight", "I", false)
  | 9 => ("AlbumSetter$Sheet", "leastExpense", "I", false)
  | 10 => ("AlbumSetter$Sheet", "shapeAbove", "J", false)
  | _ => ("AlbumSetter$Sheet", "shapeBelow", "J", false)
def tyX4 : Nat → FieldType := fun k => match k with
  | 0 => .array (.object "AlbumSetter$Tree")
  | 1 => .array .int
  | 2 => .array .int
  | 3 => .array .int
  | 4 => .array .int
  | 5 => .array .int
  | 6 => .int
  | 7 => .int
  | 8 => .int
  | 9 => .int
  | 10 => .long
  | _ => .long
abbrev wsX40 : List Cond := u_ws RX4 TX4 12
theorem nmX4 : ∀ a, a < 12 → ∀ b, b < 12 → a ≠ b → (TX4 a).2.1 ≠ (TX4 b).2.1 := by decide +kernel
theorem tyX4_ok : ∀ k, k < 12 → parseFieldDescriptor (TX4 k).2.2.1 = some (tyX4 k) := by decide +kernel
abbrev cX4_init : ByteArray := prog_6_method_1_code
def yX4_init : MethodName := ⟨RX4, "<init>", "()V"⟩
abbrev cX4_take : ByteArray := prog_6_method_2_code
def yX4_take : MethodName := ⟨RX4, "take", "(LAlbumSetter$Album;II)Z"⟩
abbrev cX4_lay : ByteArray := prog_6_method_3_code
def yX4_lay : MethodName := ⟨RX4, "lay", "(I)Z"⟩
abbrev cX4_layBest : ByteArray := prog_6_method_4_code
def yX4_layBest : MethodName := ⟨RX4, "layBest", "(LAlbumSetter$Album;II)I"⟩
abbrev cX4_edge : ByteArray := prog_6_method_5_code
def yX4_edge : MethodName := ⟨RX4, "edge", "(II)I"⟩
abbrev cX4_expense : ByteArray := prog_6_method_6_code
def yX4_expense : MethodName := ⟨RX4, "expense", "()I"⟩
abbrev cX4_reducedSide : ByteArray := prog_6_method_7_code
def yX4_reducedSide : MethodName := ⟨RX4, "reducedSide", "(I)J"⟩
abbrev cX4_treeAt : ByteArray := prog_6_method_8_code
def yX4_treeAt : MethodName := ⟨RX4, "treeAt", "(I)LAlbumSetter$Tree;"⟩
abbrev cX4_layEdges : ByteArray := prog_6_method_9_code
def yX4_layEdges : MethodName := ⟨RX4, "layEdges", "(LAlbumSetter$Node;)V"⟩
abbrev cX4_nearest : ByteArray := prog_6_method_10_code
def yX4_nearest : MethodName := ⟨RX4, "nearest", "(JJ)I"⟩
def RX5 : String := "AlbumSetter$Tree"
def TX5 : u_T := fun k => match k with
  | 0 => ("AlbumSetter$Tree", "whole", "LAlbumSetter$Node;", true)
  | _ => ("AlbumSetter$Tree", "last", "LAlbumSetter$Node;", false)
def tyX5 : Nat → FieldType := fun k => match k with
  | 0 => .object "AlbumSetter$Node"
  | _ => .object "AlbumSetter$Node"
abbrev wsX50 : List Cond := u_ws RX5 TX5 2
theorem nmX5 : ∀ a, a < 2 → ∀ b, b < 2 → a ≠ b → (TX5 a).2.1 ≠ (TX5 b).2.1 := by decide +kernel
theorem tyX5_ok : ∀ k, k < 2 → parseFieldDescriptor (TX5 k).2.2.1 = some (tyX5 k) := by decide +kernel
abbrev cX5_init : ByteArray := prog_7_method_1_code
def yX5_init : MethodName := ⟨RX5, "<init>", "(II)V"⟩
abbrev cX5_howMany : ByteArray := prog_7_method_2_code
def yX5_howMany : MethodName := ⟨RX5, "howMany", "(I)I"⟩
abbrev cX5_cutOf : ByteArray := prog_7_method_3_code
def yX5_cutOf : MethodName := ⟨RX5, "cutOf", "(II)I"⟩
abbrev cX5_rowOf : ByteArray := prog_7_method_4_code
def yX5_rowOf : MethodName := ⟨RX5, "rowOf", "(II)I"⟩
abbrev cX5_partSize : ByteArray := prog_7_method_5_code
def yX5_partSize : MethodName := ⟨RX5, "partSize", "(II)I"⟩
abbrev cX5_split : ByteArray := prog_7_method_6_code
def yX5_split : MethodName := ⟨RX5, "split", "(LAlbumSetter$Node;)V"⟩
def RX6 : String := "AlbumSetter"
def TX6 : u_T := fun k => match k with
  | 0 => ("AlbumSetter", "album", "LAlbumSetter$Album;", true)
  | 1 => ("AlbumSetter", "before", "LAlbumSetter$Album;", true)
  | 2 => ("AlbumSetter", "history", "LAlbumSetter$History;", true)
  | 3 => ("AlbumSetter", "sheet", "LAlbumSetter$Sheet;", true)
  | 4 => ("AlbumSetter", "present", "LAlbumSetter$Book;", false)
  | 5 => ("AlbumSetter", "former", "LAlbumSetter$Book;", false)
  | _ => ("AlbumSetter", "everChanged", "Z", false)
def tyX6 : Nat → FieldType := fun k => match k with
  | 0 => .object "AlbumSetter$Album"
  | 1 => .object "AlbumSetter$Album"
  | 2 => .object "AlbumSetter$History"
  | 3 => .object "AlbumSetter$Sheet"
  | 4 => .object "AlbumSetter$Book"
  | 5 => .object "AlbumSetter$Book"
  | _ => .boolean
abbrev wsX60 : List Cond := u_ws RX6 TX6 7
theorem nmX6 : ∀ a, a < 7 → ∀ b, b < 7 → a ≠ b → (TX6 a).2.1 ≠ (TX6 b).2.1 := by decide +kernel
theorem tyX6_ok : ∀ k, k < 7 → parseFieldDescriptor (TX6 k).2.2.1 = some (tyX6 k) := by decide +kernel
abbrev cX6_init : ByteArray := prog_1_method_1_code
def yX6_init : MethodName := ⟨RX6, "<init>", "()V"⟩
abbrev cX6_page : ByteArray := prog_1_method_2_code
def yX6_page : MethodName := ⟨RX6, "page", "(II)Z"⟩
abbrev cX6_picture : ByteArray := prog_1_method_3_code
def yX6_picture : MethodName := ⟨RX6, "picture", "(IIIII)I"⟩
abbrev cX6_change : ByteArray := prog_1_method_4_code
def yX6_change : MethodName := ⟨RX6, "change", "(IIIIII)Z"⟩
abbrev cX6_swap : ByteArray := prog_1_method_5_code
def yX6_swap : MethodName := ⟨RX6, "swap", "(II)Z"⟩
abbrev cX6_drop : ByteArray := prog_1_method_6_code
def yX6_drop : MethodName := ⟨RX6, "drop", "(I)Z"⟩
abbrev cX6_about : ByteArray := prog_1_method_7_code
def yX6_about : MethodName := ⟨RX6, "about", "(I)I"⟩
abbrev cX6_trees : ByteArray := prog_1_method_8_code
def yX6_trees : MethodName := ⟨RX6, "trees", "(I)I"⟩
abbrev cX6_tree : ByteArray := prog_1_method_9_code
def yX6_tree : MethodName := ⟨RX6, "tree", "(III)I"⟩
abbrev cX6_shape : ByteArray := prog_1_method_10_code
def yX6_shape : MethodName := ⟨RX6, "shape", "(IIII)J"⟩
abbrev cX6_side : ByteArray := prog_1_method_11_code
def yX6_side : MethodName := ⟨RX6, "side", "(IIIII)I"⟩
abbrev cX6_cost : ByteArray := prog_1_method_12_code
def yX6_cost : MethodName := ⟨RX6, "cost", "(III)I"⟩
abbrev cX6_best : ByteArray := prog_1_method_13_code
def yX6_best : MethodName := ⟨RX6, "best", "(II)I"⟩
abbrev cX6_book : ByteArray := prog_1_method_14_code
def yX6_book : MethodName := ⟨RX6, "book", "()I"⟩
abbrev cX6_pages : ByteArray := prog_1_method_15_code
def yX6_pages : MethodName := ⟨RX6, "pages", "()I"⟩
abbrev cX6_leaf : ByteArray := prog_1_method_16_code
def yX6_leaf : MethodName := ⟨RX6, "leaf", "(II)I"⟩
abbrev cX6_pageOf : ByteArray := prog_1_method_17_code
def yX6_pageOf : MethodName := ⟨RX6, "pageOf", "(I)I"⟩
abbrev cX6_books : ByteArray := prog_1_method_18_code
def yX6_books : MethodName := ⟨RX6, "books", "()I"⟩
abbrev cX6_changed : ByteArray := prog_1_method_19_code
def yX6_changed : MethodName := ⟨RX6, "changed", "()I"⟩
abbrev cX6_undo : ByteArray := prog_1_method_20_code
def yX6_undo : MethodName := ⟨RX6, "undo", "()Z"⟩
abbrev cX6_beginCall : ByteArray := prog_1_method_21_code
def yX6_beginCall : MethodName := ⟨RX6, "beginCall", "()V"⟩
abbrev cX6_beginChange : ByteArray := prog_1_method_22_code
def yX6_beginChange : MethodName := ⟨RX6, "beginChange", "()V"⟩
abbrev cX6_canBePicture : ByteArray := prog_1_method_23_code
def yX6_canBePicture : MethodName := ⟨RX6, "canBePicture", "(IIIII)Z"⟩
abbrev cX6_within : ByteArray := prog_1_method_24_code
def yX6_within : MethodName := ⟨RX6, "within", "(III)Z"⟩
abbrev cX6_at : ByteArray := prog_1_method_25_code
def yX6_at : MethodName := ⟨RX6, "at", "([II)I"⟩
abbrev cX6_put : ByteArray := prog_1_method_26_code
def yX6_put : MethodName := ⟨RX6, "put", "([III)V"⟩
def RX7 : String := "AlbumSetterModel"
def TX7 : u_T := fun k => match k with
  | 0 => ("AlbumSetterModel", "told", "I", false)
  | 1 => ("AlbumSetterModel", "g", "[I", true)
  | 2 => ("AlbumSetterModel", "kept", "[I", true)
  | 3 => ("AlbumSetterModel", "keeps", "I", false)
  | 4 => ("AlbumSetterModel", "isBegun", "Z", false)
  | 5 => ("AlbumSetterModel", "nodes", "I", false)
  | 6 => ("AlbumSetterModel", "size", "[I", true)
  | 7 => ("AlbumSetterModel", "first", "[I", true)
  | 8 => ("AlbumSetterModel", "cut", "[I", true)
  | 9 => ("AlbumSetterModel", "number", "[I", true)
  | 10 => ("AlbumSetterModel", "parts", "[I", true)
  | 11 => ("AlbumSetterModel", "part", "[I", true)
  | 12 => ("AlbumSetterModel", "sizes", "[I", true)
  | 13 => ("AlbumSetterModel", "above", "J", false)
  | 14 => ("AlbumSetterModel", "below", "J", false)
  | 15 => ("AlbumSetterModel", "shapeA", "[J", true)
  | 16 => ("AlbumSetterModel", "shapeB", "[J", true)
  | 17 => ("AlbumSetterModel", "leftA", "[J", true)
  | 18 => ("AlbumSetterModel", "leftB", "[J", true)
  | 19 => ("AlbumSetterModel", "topA", "[J", true)
  | 20 => ("AlbumSetterModel", "topB", "[J", true)
  | 21 => ("AlbumSetterModel", "wideA", "[J", true)
  | 22 => ("AlbumSetterModel", "wideB", "[J", true)
  | 23 => ("AlbumSetterModel", "highA", "[J", true)
  | 24 => ("AlbumSetterModel", "highB", "[J", true)
  | 25 => ("AlbumSetterModel", "area", "[J", true)
  | 26 => ("AlbumSetterModel", "least", "[I", true)
  | 27 => ("AlbumSetterModel", "many", "[I", true)
  | 28 => ("AlbumSetterModel", "leafCost", "[I", true)
  | 29 => ("AlbumSetterModel", "pageMany", "I", false)
  | 30 => ("AlbumSetterModel", "pageSize", "[I", true)
  | 31 => ("AlbumSetterModel", "pageFirst", "[I", true)
  | 32 => ("AlbumSetterModel", "pageTree", "[I", true)
  | 33 => ("AlbumSetterModel", "isChanged", "Z", false)
  | 34 => ("AlbumSetterModel", "hadBook", "Z", false)
  | 35 => ("AlbumSetterModel", "oldMany", "I", false)
  | 36 => ("AlbumSetterModel", "oldSize", "[I", true)
  | 37 => ("AlbumSetterModel", "oldFirst", "[I", true)
  | _ => ("AlbumSetterModel", "oldTree", "[I", true)
def tyX7 : Nat → FieldType := fun k => match k with
  | 0 => .int
  | 1 => .array .int
  | 2 => .array .int
  | 3 => .int
  | 4 => .boolean
  | 5 => .int
  | 6 => .array .int
  | 7 => .array .int
  | 8 => .array .int
  | 9 => .array .int
  | 10 => .array .int
  | 11 => .array .int
  | 12 => .array .int
  | 13 => .long
  | 14 => .long
  | 15 => .array .long
  | 16 => .array .long
  | 17 => .array .long
  | 18 => .array .long
  | 19 => .array .long
  | 20 => .array .long
  | 21 => .array .long
  | 22 => .array .long
  | 23 => .array .long
  | 24 => .array .long
  | 25 => .array .long
  | 26 => .array .int
  | 27 => .array .int
  | 28 => .array .int
  | 29 => .int
  | 30 => .array .int
  | 31 => .array .int
  | 32 => .array .int
  | 33 => .boolean
  | 34 => .boolean
  | 35 => .int
  | 36 => .array .int
  | 37 => .array .int
  | _ => .array .int
abbrev wsX70 : List Cond := u_ws RX7 TX7 39
theorem nmX7 : ∀ a, a < 39 → ∀ b, b < 39 → a ≠ b → (TX7 a).2.1 ≠ (TX7 b).2.1 := by decide +kernel
theorem tyX7_ok : ∀ k, k < 39 → parseFieldDescriptor (TX7 k).2.2.1 = some (tyX7 k) := by decide +kernel
abbrev cX7_init : ByteArray := prog_9_method_1_code
def yX7_init : MethodName := ⟨RX7, "<init>", "()V"⟩
abbrev cX7_begins : ByteArray := prog_9_method_3_code
def yX7_begins : MethodName := ⟨RX7, "begins", "()V"⟩
abbrev cX7_keep : ByteArray := prog_9_method_4_code
def yX7_keep : MethodName := ⟨RX7, "keep", "()V"⟩
abbrev cX7_undo : ByteArray := prog_9_method_5_code
def yX7_undo : MethodName := ⟨RX7, "undo", "()Z"⟩
abbrev cX7_isPicture : ByteArray := prog_9_method_6_code
def yX7_isPicture : MethodName := ⟨RX7, "isPicture", "(I)Z"⟩
abbrev cX7_canBe : ByteArray := prog_9_method_7_code
def yX7_canBe : MethodName := ⟨RX7, "canBe", "(IIIII)Z"⟩
abbrev cX7_puts : ByteArray := prog_9_method_8_code
def yX7_puts : MethodName := ⟨RX7, "puts", "(IIIIII)V"⟩
abbrev cX7_page : ByteArray := prog_9_method_9_code
def yX7_page : MethodName := ⟨RX7, "page", "(II)Z"⟩
abbrev cX7_picture : ByteArray := prog_9_method_10_code
def yX7_picture : MethodName := ⟨RX7, "picture", "(IIIII)I"⟩
abbrev cX7_change : ByteArray := prog_9_method_11_code
def yX7_change : MethodName := ⟨RX7, "change", "(IIIIII)Z"⟩
abbrev cX7_swap : ByteArray := prog_9_method_12_code
def yX7_swap : MethodName := ⟨RX7, "swap", "(II)Z"⟩
abbrev cX7_drop : ByteArray := prog_9_method_13_code
def yX7_drop : MethodName := ⟨RX7, "drop", "(I)Z"⟩
abbrev cX7_about : ByteArray := prog_9_method_14_code
def yX7_about : MethodName := ⟨RX7, "about", "(I)I"⟩
abbrev cX7_isWide : ByteArray := prog_9_method_15_code
def yX7_isWide : MethodName := ⟨RX7, "isWide", "(I)Z"⟩
abbrev cX7_halves : ByteArray := prog_9_method_16_code
def yX7_halves : MethodName := ⟨RX7, "halves", "(I)I"⟩
abbrev cX7_treesOf : ByteArray := prog_9_method_17_code
def yX7_treesOf : MethodName := ⟨RX7, "treesOf", "(I)I"⟩
abbrev cX7_node : ByteArray := prog_9_method_18_code
def yX7_node : MethodName := ⟨RX7, "node", "(IIII)I"⟩
abbrev cX7_takesSizes : ByteArray := prog_9_method_19_code
def yX7_takesSizes : MethodName := ⟨RX7, "takesSizes", "(II)I"⟩
abbrev cX7_ways : ByteArray := prog_9_method_20_code
def yX7_ways : MethodName := ⟨RX7, "ways", "(I)I"⟩
abbrev cX7_decodes : ByteArray := prog_9_method_21_code
def yX7_decodes : MethodName := ⟨RX7, "decodes", "(II)V"⟩
abbrev cX7_trees : ByteArray := prog_9_method_22_code
def yX7_trees : MethodName := ⟨RX7, "trees", "(I)I"⟩
abbrev cX7_isTree : ByteArray := prog_9_method_23_code
def yX7_isTree : MethodName := ⟨RX7, "isTree", "(II)Z"⟩
abbrev cX7_tree : ByteArray := prog_9_method_24_code
def yX7_tree : MethodName := ⟨RX7, "tree", "(III)I"⟩
abbrev cX7_common : ByteArray := prog_9_method_25_code
def yX7_common : MethodName := ⟨RX7, "common", "(JJ)J"⟩
abbrev cX7_share : ByteArray := prog_9_method_26_code
def yX7_share : MethodName := ⟨RX7, "share", "(JJ)V"⟩
abbrev cX7_plus : ByteArray := prog_9_method_27_code
def yX7_plus : MethodName := ⟨RX7, "plus", "(JJJJ)V"⟩
abbrev cX7_times : ByteArray := prog_9_method_28_code
def yX7_times : MethodName := ⟨RX7, "times", "(JJJJ)V"⟩
abbrev cX7_shapes : ByteArray := prog_9_method_29_code
def yX7_shapes : MethodName := ⟨RX7, "shapes", "(I)V"⟩
abbrev cX7_lays : ByteArray := prog_9_method_30_code
def yX7_lays : MethodName := ⟨RX7, "lays", "(II)V"⟩
abbrev cX7_near : ByteArray := prog_9_method_31_code
def yX7_near : MethodName := ⟨RX7, "near", "(JJ)I"⟩
abbrev cX7_sideOf : ByteArray := prog_9_method_32_code
def yX7_sideOf : MethodName := ⟨RX7, "sideOf", "(II)I"⟩
abbrev cX7_canLay : ByteArray := prog_9_method_33_code
def yX7_canLay : MethodName := ⟨RX7, "canLay", "(III)Z"⟩
abbrev cX7_pageWide : ByteArray := prog_9_method_34_code
def yX7_pageWide : MethodName := ⟨RX7, "pageWide", "(I)I"⟩
abbrev cX7_makes : ByteArray := prog_9_method_35_code
def yX7_makes : MethodName := ⟨RX7, "makes", "(III)V"⟩
abbrev cX7_shape : ByteArray := prog_9_method_36_code
def yX7_shape : MethodName := ⟨RX7, "shape", "(IIII)J"⟩
abbrev cX7_nodeOf : ByteArray := prog_9_method_37_code
def yX7_nodeOf : MethodName := ⟨RX7, "nodeOf", "(I)I"⟩
abbrev cX7_side : ByteArray := prog_9_method_38_code
def yX7_side : MethodName := ⟨RX7, "side", "(IIIII)I"⟩
abbrev cX7_costOf : ByteArray := prog_9_method_39_code
def yX7_costOf : MethodName := ⟨RX7, "costOf", "(III)I"⟩
abbrev cX7_cost : ByteArray := prog_9_method_40_code
def yX7_cost : MethodName := ⟨RX7, "cost", "(III)I"⟩
abbrev cX7_bestOf : ByteArray := prog_9_method_41_code
def yX7_bestOf : MethodName := ⟨RX7, "bestOf", "(II)I"⟩
abbrev cX7_best : ByteArray := prog_9_method_42_code
def yX7_best : MethodName := ⟨RX7, "best", "(II)I"⟩
abbrev cX7_isTied : ByteArray := prog_9_method_43_code
def yX7_isTied : MethodName := ⟨RX7, "isTied", "(I)Z"⟩
abbrev cX7_isLeaf : ByteArray := prog_9_method_44_code
def yX7_isLeaf : MethodName := ⟨RX7, "isLeaf", "(II)Z"⟩
abbrev cX7_books0 : ByteArray := prog_9_method_45_code
def yX7_books0 : MethodName := ⟨RX7, "books0", "()V"⟩
abbrev cX7_comes : ByteArray := prog_9_method_46_code
def yX7_comes : MethodName := ⟨RX7, "comes", "(III)V"⟩
abbrev cX7_lay : ByteArray := prog_9_method_47_code
def yX7_lay : MethodName := ⟨RX7, "lay", "(III)V"⟩
abbrev cX7_sets : ByteArray := prog_9_method_48_code
def yX7_sets : MethodName := ⟨RX7, "sets", "()Z"⟩
abbrev cX7_remembers : ByteArray := prog_9_method_49_code
def yX7_remembers : MethodName := ⟨RX7, "remembers", "()V"⟩
abbrev cX7_book : ByteArray := prog_9_method_50_code
def yX7_book : MethodName := ⟨RX7, "book", "()I"⟩
abbrev cX7_pages : ByteArray := prog_9_method_51_code
def yX7_pages : MethodName := ⟨RX7, "pages", "()I"⟩
abbrev cX7_leaf : ByteArray := prog_9_method_52_code
def yX7_leaf : MethodName := ⟨RX7, "leaf", "(II)I"⟩
abbrev cX7_pageOf : ByteArray := prog_9_method_53_code
def yX7_pageOf : MethodName := ⟨RX7, "pageOf", "(I)I"⟩
abbrev cX7_books : ByteArray := prog_9_method_54_code
def yX7_books : MethodName := ⟨RX7, "books", "()I"⟩
abbrev cX7_changed : ByteArray := prog_9_method_55_code
def yX7_changed : MethodName := ⟨RX7, "changed", "()I"⟩
def RJ9 : String := "java/lang/Math"
def TJ9 : u_T := fun k => match k with
  | _ => ("", "", "", false)
def tyJ9 : Nat → FieldType := fun k => match k with
  | _ => .int
abbrev wsJ90 : List Cond := u_ws RJ9 TJ9 0
theorem nmJ9 : ∀ a, a < 0 → ∀ b, b < 0 → a ≠ b → (TJ9 a).2.1 ≠ (TJ9 b).2.1 := by decide +kernel
theorem tyJ9_ok : ∀ k, k < 0 → parseFieldDescriptor (TJ9 k).2.2.1 = some (tyJ9 k) := by decide +kernel
abbrev cJ9_abs_0f7a4 : ByteArray := prog_10_method_59_code
def yJ9_abs_0f7a4 : MethodName := ⟨RJ9, "abs", "(I)I"⟩
abbrev cJ9_min_7cf53 : ByteArray := prog_10_method_69_code
def yJ9_min_7cf53 : MethodName := ⟨RJ9, "min", "(II)I"⟩
def RL : String := "AlbumSetterLaw"
abbrev cL_law : ByteArray := code
def yL_law : MethodName := ⟨RL, "law", "([I)Z"⟩
abbrev vwCl : List vw_C := [(RX0, TX0, 4), (RX1, TX1, 9), (RX2, TX2, 3), (RX3, TX3, 16), (RX4, TX4, 12), (RX5, TX5, 2), (RX6, TX6, 7), (RX7, TX7, 39)]
