-- ===== PART A: goes FIRST, ahead of the names: the tables' words, and 'selects' of the private methods out of them =====
/-- a private method of a class that the tables say can be made, by its rows of tables_1 -/
def lw_okq (q : MethodName × Nat) : Prop := (q.1.cls ≠ "java/lang/invoke/MethodHandle" ∧ q.1.cls ≠ "java/lang/invoke/VarHandle") ∧ Cond.instantiable q.1.cls q.2 ∈ tables_1 ∧ Cond.privateMethod q.1 ∈ tables_1 ∧ Cond.instanceMethod q.1 ∈ tables_1
theorem lw_p0 : lw_okq (⟨"CrustBlocksModel", "of", "(II)I"⟩, 12) := ⟨⟨by decide +kernel, by decide +kernel⟩, List.mem_of_getElem? (i := 570) (by decide +kernel), List.mem_of_getElem? (i := 623) (by decide +kernel), List.mem_of_getElem? (i := 624) (by decide +kernel)⟩
theorem lw_p1 : lw_okq (⟨"CrustBlocksModel", "act", "()V"⟩, 12) := ⟨⟨by decide +kernel, by decide +kernel⟩, List.mem_of_getElem? (i := 570) (by decide +kernel), List.mem_of_getElem? (i := 632) (by decide +kernel), List.mem_of_getElem? (i := 633) (by decide +kernel)⟩
theorem lw_p2 : lw_okq (⟨"CrustBlocksModel", "insert", "(IIIII)V"⟩, 12) := ⟨⟨by decide +kernel, by decide +kernel⟩, List.mem_of_getElem? (i := 570) (by decide +kernel), List.mem_of_getElem? (i := 636) (by decide +kernel), List.mem_of_getElem? (i := 637) (by decide +kernel)⟩
theorem lw_p3 : lw_okq (⟨"CrustBlocksModel", "isLayer", "(II)Z"⟩, 12) := ⟨⟨by decide +kernel, by decide +kernel⟩, List.mem_of_getElem? (i := 570) (by decide +kernel), List.mem_of_getElem? (i := 647) (by decide +kernel), List.mem_of_getElem? (i := 648) (by decide +kernel)⟩
theorem lw_p4 : lw_okq (⟨"CrustBlocksModel", "weightOf", "(II)I"⟩, 12) := ⟨⟨by decide +kernel, by decide +kernel⟩, List.mem_of_getElem? (i := 570) (by decide +kernel), List.mem_of_getElem? (i := 651) (by decide +kernel), List.mem_of_getElem? (i := 652) (by decide +kernel)⟩
theorem lw_p5 : lw_okq (⟨"CrustBlocksModel", "takeOut", "(II)V"⟩, 12) := ⟨⟨by decide +kernel, by decide +kernel⟩, List.mem_of_getElem? (i := 570) (by decide +kernel), List.mem_of_getElem? (i := 655) (by decide +kernel), List.mem_of_getElem? (i := 656) (by decide +kernel)⟩
theorem lw_p6 : lw_okq (⟨"CrustBlocksModel", "kindOf", "(II)I"⟩, 12) := ⟨⟨by decide +kernel, by decide +kernel⟩, List.mem_of_getElem? (i := 570) (by decide +kernel), List.mem_of_getElem? (i := 663) (by decide +kernel), List.mem_of_getElem? (i := 664) (by decide +kernel)⟩
theorem lw_p7 : lw_okq (⟨"CrustBlocksModel", "balance", "(I)I"⟩, 12) := ⟨⟨by decide +kernel, by decide +kernel⟩, List.mem_of_getElem? (i := 570) (by decide +kernel), List.mem_of_getElem? (i := 671) (by decide +kernel), List.mem_of_getElem? (i := 672) (by decide +kernel)⟩
theorem lw_p8 : lw_okq (⟨"CrustBlocksModel", "weight", "(I)I"⟩, 12) := ⟨⟨by decide +kernel, by decide +kernel⟩, List.mem_of_getElem? (i := 570) (by decide +kernel), List.mem_of_getElem? (i := 675) (by decide +kernel), List.mem_of_getElem? (i := 676) (by decide +kernel)⟩
theorem lw_p9 : lw_okq (⟨"CrustBlocksModel", "step", "()V"⟩, 12) := ⟨⟨by decide +kernel, by decide +kernel⟩, List.mem_of_getElem? (i := 570) (by decide +kernel), List.mem_of_getElem? (i := 690) (by decide +kernel), List.mem_of_getElem? (i := 691) (by decide +kernel)⟩
theorem lw_p10 : lw_okq (⟨"CrustBlocksModel", "makeIce", "()V"⟩, 12) := ⟨⟨by decide +kernel, by decide +kernel⟩, List.mem_of_getElem? (i := 570) (by decide +kernel), List.mem_of_getElem? (i := 694) (by decide +kernel), List.mem_of_getElem? (i := 695) (by decide +kernel)⟩
theorem lw_p11 : lw_okq (⟨"CrustBlocksModel", "top", "(I)I"⟩, 12) := ⟨⟨by decide +kernel, by decide +kernel⟩, List.mem_of_getElem? (i := 570) (by decide +kernel), List.mem_of_getElem? (i := 698) (by decide +kernel), List.mem_of_getElem? (i := 699) (by decide +kernel)⟩
theorem lw_p12 : lw_okq (⟨"CrustBlocksModel", "thick", "(I)I"⟩, 12) := ⟨⟨by decide +kernel, by decide +kernel⟩, List.mem_of_getElem? (i := 570) (by decide +kernel), List.mem_of_getElem? (i := 702) (by decide +kernel), List.mem_of_getElem? (i := 703) (by decide +kernel)⟩
theorem lw_p13 : lw_okq (⟨"CrustBlocksModel", "freeze", "(I)V"⟩, 12) := ⟨⟨by decide +kernel, by decide +kernel⟩, List.mem_of_getElem? (i := 570) (by decide +kernel), List.mem_of_getElem? (i := 706) (by decide +kernel), List.mem_of_getElem? (i := 707) (by decide +kernel)⟩
theorem lw_p14 : lw_okq (⟨"CrustBlocksModel", "isIcy", "(I)Z"⟩, 12) := ⟨⟨by decide +kernel, by decide +kernel⟩, List.mem_of_getElem? (i := 570) (by decide +kernel), List.mem_of_getElem? (i := 710) (by decide +kernel), List.mem_of_getElem? (i := 711) (by decide +kernel)⟩
theorem lw_p15 : lw_okq (⟨"CrustBlocksModel", "grow", "(III)V"⟩, 12) := ⟨⟨by decide +kernel, by decide +kernel⟩, List.mem_of_getElem? (i := 570) (by decide +kernel), List.mem_of_getElem? (i := 714) (by decide +kernel), List.mem_of_getElem? (i := 715) (by decide +kernel)⟩
def lw_privs_1 : List (MethodName × Nat) := [(⟨"CrustBlocksModel", "of", "(II)I"⟩, 12), (⟨"CrustBlocksModel", "act", "()V"⟩, 12), (⟨"CrustBlocksModel", "insert", "(IIIII)V"⟩, 12), (⟨"CrustBlocksModel", "isLayer", "(II)Z"⟩, 12), (⟨"CrustBlocksModel", "weightOf", "(II)I"⟩, 12), (⟨"CrustBlocksModel", "takeOut", "(II)V"⟩, 12), (⟨"CrustBlocksModel", "kindOf", "(II)I"⟩, 12), (⟨"CrustBlocksModel", "balance", "(I)I"⟩, 12), (⟨"CrustBlocksModel", "weight", "(I)I"⟩, 12), (⟨"CrustBlocksModel", "step", "()V"⟩, 12), (⟨"CrustBlocksModel", "makeIce", "()V"⟩, 12), (⟨"CrustBlocksModel", "top", "(I)I"⟩, 12), (⟨"CrustBlocksModel", "thick", "(I)I"⟩, 12), (⟨"CrustBlocksModel", "freeze", "(I)V"⟩, 12), (⟨"CrustBlocksModel", "isIcy", "(I)Z"⟩, 12), (⟨"CrustBlocksModel", "grow", "(III)V"⟩, 12)]
theorem lw_r1 : ∀ q ∈ lw_privs_1, lw_okq q := List.forall_mem_cons.mpr ⟨lw_p0, List.forall_mem_cons.mpr ⟨lw_p1, List.forall_mem_cons.mpr ⟨lw_p2, List.forall_mem_cons.mpr ⟨lw_p3, List.forall_mem_cons.mpr ⟨lw_p4, List.forall_mem_cons.mpr ⟨lw_p5, List.forall_mem_cons.mpr ⟨lw_p6, List.forall_mem_cons.mpr ⟨lw_p7, List.forall_mem_cons.mpr ⟨lw_p8, List.forall_mem_cons.mpr ⟨lw_p9, List.forall_mem_cons.mpr ⟨lw_p10, List.forall_mem_cons.mpr ⟨lw_p11, List.forall_mem_cons.mpr ⟨lw_p12, List.forall_mem_cons.mpr ⟨lw_p13, List.forall_mem_cons.mpr ⟨lw_p14, List.forall_mem_cons.mpr ⟨lw_p15, fun _ h => absurd h List.not_mem_nil⟩⟩⟩⟩⟩⟩⟩⟩⟩⟩⟩⟩⟩⟩⟩⟩
theorem lw_p16 : lw_okq (⟨"CrustBlocksModel", "melt", "(I)V"⟩, 12) := ⟨⟨by decide +kernel, by decide +kernel⟩, List.mem_of_getElem? (i := 570) (by decide +kernel), List.mem_of_getElem? (i := 718) (by decide +kernel), List.mem_of_getElem? (i := 719) (by decide +kernel)⟩
theorem lw_p17 : lw_okq (⟨"CrustBlocksModel", "erode", "()V"⟩, 12) := ⟨⟨by decide +kernel, by decide +kernel⟩, List.mem_of_getElem? (i := 570) (by decide +kernel), List.mem_of_getElem? (i := 725) (by decide +kernel), List.mem_of_getElem? (i := 726) (by decide +kernel)⟩
theorem lw_p18 : lw_okq (⟨"CrustBlocksModel", "valleyOf", "(I)I"⟩, 12) := ⟨⟨by decide +kernel, by decide +kernel⟩, List.mem_of_getElem? (i := 570) (by decide +kernel), List.mem_of_getElem? (i := 729) (by decide +kernel), List.mem_of_getElem? (i := 730) (by decide +kernel)⟩
theorem lw_p19 : lw_okq (⟨"CrustBlocksModel", "takenFrom", "(I)I"⟩, 12) := ⟨⟨by decide +kernel, by decide +kernel⟩, List.mem_of_getElem? (i := 570) (by decide +kernel), List.mem_of_getElem? (i := 737) (by decide +kernel), List.mem_of_getElem? (i := 738) (by decide +kernel)⟩
theorem lw_p20 : lw_okq (⟨"CrustBlocksModel", "lay", "(II)I"⟩, 12) := ⟨⟨by decide +kernel, by decide +kernel⟩, List.mem_of_getElem? (i := 570) (by decide +kernel), List.mem_of_getElem? (i := 741) (by decide +kernel), List.mem_of_getElem? (i := 742) (by decide +kernel)⟩
theorem lw_p21 : lw_okq (⟨"CrustBlocksModel", "floats", "(I)V"⟩, 12) := ⟨⟨by decide +kernel, by decide +kernel⟩, List.mem_of_getElem? (i := 570) (by decide +kernel), List.mem_of_getElem? (i := 745) (by decide +kernel), List.mem_of_getElem? (i := 746) (by decide +kernel)⟩
theorem lw_p22 : lw_okq (⟨"CrustBlocksModel", "allLayers", "()I"⟩, 12) := ⟨⟨by decide +kernel, by decide +kernel⟩, List.mem_of_getElem? (i := 570) (by decide +kernel), List.mem_of_getElem? (i := 753) (by decide +kernel), List.mem_of_getElem? (i := 754) (by decide +kernel)⟩
theorem lw_p23 : lw_okq (⟨"CrustBlocksModel", "allWeights", "()I"⟩, 12) := ⟨⟨by decide +kernel, by decide +kernel⟩, List.mem_of_getElem? (i := 570) (by decide +kernel), List.mem_of_getElem? (i := 762) (by decide +kernel), List.mem_of_getElem? (i := 763) (by decide +kernel)⟩
theorem lw_p24 : lw_okq (⟨"CrustBlocksModel", "hold", "()V"⟩, 12) := ⟨⟨by decide +kernel, by decide +kernel⟩, List.mem_of_getElem? (i := 570) (by decide +kernel), List.mem_of_getElem? (i := 782) (by decide +kernel), List.mem_of_getElem? (i := 783) (by decide +kernel)⟩
theorem lw_p25 : lw_okq (⟨"CrustBlocksModel", "here", "()I"⟩, 12) := ⟨⟨by decide +kernel, by decide +kernel⟩, List.mem_of_getElem? (i := 570) (by decide +kernel), List.mem_of_getElem? (i := 786) (by decide +kernel), List.mem_of_getElem? (i := 787) (by decide +kernel)⟩
theorem lw_p26 : lw_okq (⟨"CrustBlocksModel", "readsItem", "()Z"⟩, 12) := ⟨⟨by decide +kernel, by decide +kernel⟩, List.mem_of_getElem? (i := 570) (by decide +kernel), List.mem_of_getElem? (i := 790) (by decide +kernel), List.mem_of_getElem? (i := 791) (by decide +kernel)⟩
theorem lw_p27 : lw_okq (⟨"CrustBlocksModel", "takes", "(I)Z"⟩, 12) := ⟨⟨by decide +kernel, by decide +kernel⟩, List.mem_of_getElem? (i := 570) (by decide +kernel), List.mem_of_getElem? (i := 794) (by decide +kernel), List.mem_of_getElem? (i := 795) (by decide +kernel)⟩
theorem lw_p28 : lw_okq (⟨"CrustBlocksModel", "readsLayers", "(I)Z"⟩, 12) := ⟨⟨by decide +kernel, by decide +kernel⟩, List.mem_of_getElem? (i := 570) (by decide +kernel), List.mem_of_getElem? (i := 798) (by decide +kernel), List.mem_of_getElem? (i := 799) (by decide +kernel)⟩
theorem lw_p29 : lw_okq (⟨"CrustBlocksModel", "readsLayer", "(I)Z"⟩, 12) := ⟨⟨by decide +kernel, by decide +kernel⟩, List.mem_of_getElem? (i := 570) (by decide +kernel), List.mem_of_getElem? (i := 802) (by decide +kernel), List.mem_of_getElem? (i := 803) (by decide +kernel)⟩
theorem lw_p30 : lw_okq (⟨"CrustBlocksModel", "reads", "(II)Z"⟩, 12) := ⟨⟨by decide +kernel, by decide +kernel⟩, List.mem_of_getElem? (i := 570) (by decide +kernel), List.mem_of_getElem? (i := 806) (by decide +kernel), List.mem_of_getElem? (i := 807) (by decide +kernel)⟩
theorem lw_p31 : lw_okq (⟨"CrustBlocksModel", "exchange", "()V"⟩, 12) := ⟨⟨by decide +kernel, by decide +kernel⟩, List.mem_of_getElem? (i := 570) (by decide +kernel), List.mem_of_getElem? (i := 811) (by decide +kernel), List.mem_of_getElem? (i := 812) (by decide +kernel)⟩
def lw_privs_2 : List (MethodName × Nat) := [(⟨"CrustBlocksModel", "melt", "(I)V"⟩, 12), (⟨"CrustBlocksModel", "erode", "()V"⟩, 12), (⟨"CrustBlocksModel", "valleyOf", "(I)I"⟩, 12), (⟨"CrustBlocksModel", "takenFrom", "(I)I"⟩, 12), (⟨"CrustBlocksModel", "lay", "(II)I"⟩, 12), (⟨"CrustBlocksModel", "floats", "(I)V"⟩, 12), (⟨"CrustBlocksModel", "allLayers", "()I"⟩, 12), (⟨"CrustBlocksModel", "allWeights", "()I"⟩, 12), (⟨"CrustBlocksModel", "hold", "()V"⟩, 12), (⟨"CrustBlocksModel", "here", "()I"⟩, 12), (⟨"CrustBlocksModel", "readsItem", "()Z"⟩, 12), (⟨"CrustBlocksModel", "takes", "(I)Z"⟩, 12), (⟨"CrustBlocksModel", "readsLayers", "(I)Z"⟩, 12), (⟨"CrustBlocksModel", "readsLayer", "(I)Z"⟩, 12), (⟨"CrustBlocksModel", "reads", "(II)Z"⟩, 12), (⟨"CrustBlocksModel", "exchange", "()V"⟩, 12)]
theorem lw_r2 : ∀ q ∈ lw_privs_2, lw_okq q := List.forall_mem_cons.mpr ⟨lw_p16, List.forall_mem_cons.mpr ⟨lw_p17, List.forall_mem_cons.mpr ⟨lw_p18, List.forall_mem_cons.mpr ⟨lw_p19, List.forall_mem_cons.mpr ⟨lw_p20, List.forall_mem_cons.mpr ⟨lw_p21, List.forall_mem_cons.mpr ⟨lw_p22, List.forall_mem_cons.mpr ⟨lw_p23, List.forall_mem_cons.mpr ⟨lw_p24, List.forall_mem_cons.mpr ⟨lw_p25, List.forall_mem_cons.mpr ⟨lw_p26, List.forall_mem_cons.mpr ⟨lw_p27, List.forall_mem_cons.mpr ⟨lw_p28, List.forall_mem_cons.mpr ⟨lw_p29, List.forall_mem_cons.mpr ⟨lw_p30, List.forall_mem_cons.mpr ⟨lw_p31, fun _ h => absurd h List.not_mem_nil⟩⟩⟩⟩⟩⟩⟩⟩⟩⟩⟩⟩⟩⟩⟩⟩
theorem lw_p32 : lw_okq (⟨"CrustBlocksModel", "filled", "()I"⟩, 12) := ⟨⟨by decide +kernel, by decide +kernel⟩, List.mem_of_getElem? (i := 570) (by decide +kernel), List.mem_of_getElem? (i := 820) (by decide +kernel), List.mem_of_getElem? (i := 821) (by decide +kernel)⟩
theorem lw_p33 : lw_okq (⟨"CrustBlocksModel", "icyMany", "()I"⟩, 12) := ⟨⟨by decide +kernel, by decide +kernel⟩, List.mem_of_getElem? (i := 570) (by decide +kernel), List.mem_of_getElem? (i := 824) (by decide +kernel), List.mem_of_getElem? (i := 825) (by decide +kernel)⟩
theorem lw_p34 : lw_okq (⟨"CrustBlocksModel", "unbalanced", "()I"⟩, 12) := ⟨⟨by decide +kernel, by decide +kernel⟩, List.mem_of_getElem? (i := 570) (by decide +kernel), List.mem_of_getElem? (i := 828) (by decide +kernel), List.mem_of_getElem? (i := 829) (by decide +kernel)⟩
theorem lw_p35 : lw_okq (⟨"CrustBlocksModel", "highest", "()I"⟩, 12) := ⟨⟨by decide +kernel, by decide +kernel⟩, List.mem_of_getElem? (i := 570) (by decide +kernel), List.mem_of_getElem? (i := 832) (by decide +kernel), List.mem_of_getElem? (i := 833) (by decide +kernel)⟩
theorem lw_p36 : lw_okq (⟨"CrustBlocksModel", "iceWeight", "(I)I"⟩, 12) := ⟨⟨by decide +kernel, by decide +kernel⟩, List.mem_of_getElem? (i := 570) (by decide +kernel), List.mem_of_getElem? (i := 840) (by decide +kernel), List.mem_of_getElem? (i := 841) (by decide +kernel)⟩
theorem lw_p37 : lw_okq (⟨"CrustBlocksModel", "upper", "(II)I"⟩, 12) := ⟨⟨by decide +kernel, by decide +kernel⟩, List.mem_of_getElem? (i := 570) (by decide +kernel), List.mem_of_getElem? (i := 848) (by decide +kernel), List.mem_of_getElem? (i := 849) (by decide +kernel)⟩
theorem lw_p38 : lw_okq (⟨"CrustBlocksModel", "pressureOf", "(II)I"⟩, 12) := ⟨⟨by decide +kernel, by decide +kernel⟩, List.mem_of_getElem? (i := 570) (by decide +kernel), List.mem_of_getElem? (i := 866) (by decide +kernel), List.mem_of_getElem? (i := 867) (by decide +kernel)⟩
theorem lw_p39 : lw_okq (⟨"CrustBlocksModel", "iceThick", "(I)I"⟩, 12) := ⟨⟨by decide +kernel, by decide +kernel⟩, List.mem_of_getElem? (i := 570) (by decide +kernel), List.mem_of_getElem? (i := 886) (by decide +kernel), List.mem_of_getElem? (i := 887) (by decide +kernel)⟩
theorem lw_p40 : lw_okq (⟨"CrustBlocksModel", "release", "()V"⟩, 12) := ⟨⟨by decide +kernel, by decide +kernel⟩, List.mem_of_getElem? (i := 570) (by decide +kernel), List.mem_of_getElem? (i := 894) (by decide +kernel), List.mem_of_getElem? (i := 895) (by decide +kernel)⟩
def lw_privs_3 : List (MethodName × Nat) := [(⟨"CrustBlocksModel", "filled", "()I"⟩, 12), (⟨"CrustBlocksModel", "icyMany", "()I"⟩, 12), (⟨"CrustBlocksModel", "unbalanced", "()I"⟩, 12), (⟨"CrustBlocksModel", "highest", "()I"⟩, 12), (⟨"CrustBlocksModel", "iceWeight", "(I)I"⟩, 12), (⟨"CrustBlocksModel", "upper", "(II)I"⟩, 12), (⟨"CrustBlocksModel", "pressureOf", "(II)I"⟩, 12), (⟨"CrustBlocksModel", "iceThick", "(I)I"⟩, 12), (⟨"CrustBlocksModel", "release", "()V"⟩, 12)]
theorem lw_r3 : ∀ q ∈ lw_privs_3, lw_okq q := List.forall_mem_cons.mpr ⟨lw_p32, List.forall_mem_cons.mpr ⟨lw_p33, List.forall_mem_cons.mpr ⟨lw_p34, List.forall_mem_cons.mpr ⟨lw_p35, List.forall_mem_cons.mpr ⟨lw_p36, List.forall_mem_cons.mpr ⟨lw_p37, List.forall_mem_cons.mpr ⟨lw_p38, List.forall_mem_cons.mpr ⟨lw_p39, List.forall_mem_cons.mpr ⟨lw_p40, fun _ h => absurd h List.not_mem_nil⟩⟩⟩⟩⟩⟩⟩⟩⟩
def lw_privs : List (MethodName × Nat) := lw_privs_1 ++ (lw_privs_2 ++ (lw_privs_3))
def lw_tbl : List Cond := k2_sels lw_privs ++ tables_1
theorem lw_privs_ok : ∀ q ∈ lw_privs, lw_okq q := by
  show ∀ q ∈ lw_privs_1 ++ (lw_privs_2 ++ (lw_privs_3)), lw_okq q
  exact List.forall_mem_append.mpr ⟨lw_r1, List.forall_mem_append.mpr ⟨lw_r2, lw_r3⟩⟩
-- ===== end of PART A; then your names; then what follows =====
def RX0 : String := "CrustBlocks$Column"
def TX0 : u_T := fun k => match k with
  | 0 => ("CrustBlocks$Column", "kinds", "[I", true)
  | 1 => ("CrustBlocks$Column", "densities", "[I", true)
  | 2 => ("CrustBlocks$Column", "thicknesses", "[I", true)
  | 3 => ("CrustBlocks$Column", "size", "I", false)
  | _ => ("CrustBlocks$Column", "base", "I", false)
def tyX0 : Nat → FieldType := fun k => match k with
  | 0 => .array .int
  | 1 => .array .int
  | 2 => .array .int
  | 3 => .int
  | _ => .int
abbrev wsX00 : List Cond := u_ws RX0 TX0 5
theorem nmX0 : ∀ a, a < 5 → ∀ b, b < 5 → a ≠ b → (TX0 a).2.1 ≠ (TX0 b).2.1 := by decide +kernel
theorem tyX0_ok : ∀ k, k < 5 → parseFieldDescriptor (TX0 k).2.2.1 = some (tyX0 k) := by decide +kernel
abbrev cX0_init : ByteArray := prog_2_method_1_code
def yX0_init : MethodName := ⟨RX0, "<init>", "()V"⟩
abbrev cX0_copyFrom : ByteArray := prog_2_method_2_code
def yX0_copyFrom : MethodName := ⟨RX0, "copyFrom", "(LCrustBlocks$Column;)V"⟩
abbrev cX0_hasLayer : ByteArray := prog_2_method_3_code
def yX0_hasLayer : MethodName := ⟨RX0, "hasLayer", "(I)Z"⟩
abbrev cX0_hasIceOnTop : ByteArray := prog_2_method_4_code
def yX0_hasIceOnTop : MethodName := ⟨RX0, "hasIceOnTop", "()Z"⟩
abbrev cX0_weightOf : ByteArray := prog_2_method_5_code
def yX0_weightOf : MethodName := ⟨RX0, "weightOf", "(I)I"⟩
abbrev cX0_weight : ByteArray := prog_2_method_6_code
def yX0_weight : MethodName := ⟨RX0, "weight", "()I"⟩
abbrev cX0_allThicknesses : ByteArray := prog_2_method_7_code
def yX0_allThicknesses : MethodName := ⟨RX0, "allThicknesses", "()I"⟩
abbrev cX0_iceThickness : ByteArray := prog_2_method_8_code
def yX0_iceThickness : MethodName := ⟨RX0, "iceThickness", "()I"⟩
abbrev cX0_balance : ByteArray := prog_2_method_9_code
def yX0_balance : MethodName := ⟨RX0, "balance", "()I"⟩
abbrev cX0_top : ByteArray := prog_2_method_10_code
def yX0_top : MethodName := ⟨RX0, "top", "()I"⟩
abbrev cX0_upperSide : ByteArray := prog_2_method_11_code
def yX0_upperSide : MethodName := ⟨RX0, "upperSide", "(I)I"⟩
abbrev cX0_firstBelowIce : ByteArray := prog_2_method_12_code
def yX0_firstBelowIce : MethodName := ⟨RX0, "firstBelowIce", "()I"⟩
abbrev cX0_insert : ByteArray := prog_2_method_13_code
def yX0_insert : MethodName := ⟨RX0, "insert", "(IIII)V"⟩
abbrev cX0_delete : ByteArray := prog_2_method_14_code
def yX0_delete : MethodName := ⟨RX0, "delete", "(I)V"⟩
abbrev cX0_moveLayer : ByteArray := prog_2_method_15_code
def yX0_moveLayer : MethodName := ⟨RX0, "moveLayer", "(II)V"⟩
abbrev cX0_deleteKind : ByteArray := prog_2_method_16_code
def yX0_deleteKind : MethodName := ⟨RX0, "deleteKind", "(I)V"⟩
abbrev cX0_thin : ByteArray := prog_2_method_17_code
def yX0_thin : MethodName := ⟨RX0, "thin", "(II)V"⟩
abbrev cX0_balanceBase : ByteArray := prog_2_method_18_code
def yX0_balanceBase : MethodName := ⟨RX0, "balanceBase", "()V"⟩
abbrev cX0_floatOnce : ByteArray := prog_2_method_19_code
def yX0_floatOnce : MethodName := ⟨RX0, "floatOnce", "(I)V"⟩
abbrev cX0_stepsOfFloating : ByteArray := prog_2_method_20_code
def yX0_stepsOfFloating : MethodName := ⟨RX0, "stepsOfFloating", "(I)I"⟩
abbrev cX0_floated : ByteArray := prog_2_method_21_code
def yX0_floated : MethodName := ⟨RX0, "floated", "(III)I"⟩
abbrev cX0_balancedTopWithoutIce : ByteArray := prog_2_method_22_code
def yX0_balancedTopWithoutIce : MethodName := ⟨RX0, "balancedTopWithoutIce", "()I"⟩
abbrev cX0_densityAt : ByteArray := prog_2_method_23_code
def yX0_densityAt : MethodName := ⟨RX0, "densityAt", "(I)I"⟩
abbrev cX0_pressureAt : ByteArray := prog_2_method_24_code
def yX0_pressureAt : MethodName := ⟨RX0, "pressureAt", "(I)I"⟩
def RX1 : String := "CrustBlocks$Crust"
def TX1 : u_T := fun k => match k with
  | _ => ("CrustBlocks$Crust", "columns", "[LCrustBlocks$Column;", true)
def tyX1 : Nat → FieldType := fun k => match k with
  | _ => .array (.object "CrustBlocks$Column")
abbrev wsX10 : List Cond := u_ws RX1 TX1 1
theorem nmX1 : ∀ a, a < 1 → ∀ b, b < 1 → a ≠ b → (TX1 a).2.1 ≠ (TX1 b).2.1 := by decide +kernel
theorem tyX1_ok : ∀ k, k < 1 → parseFieldDescriptor (TX1 k).2.2.1 = some (tyX1 k) := by decide +kernel
abbrev cX1_init : ByteArray := prog_3_method_1_code
def yX1_init : MethodName := ⟨RX1, "<init>", "()V"⟩
abbrev cX1_copyFrom : ByteArray := prog_3_method_2_code
def yX1_copyFrom : MethodName := ⟨RX1, "copyFrom", "(LCrustBlocks$Crust;)V"⟩
abbrev cX1_allLayers : ByteArray := prog_3_method_3_code
def yX1_allLayers : MethodName := ⟨RX1, "allLayers", "()I"⟩
abbrev cX1_allWeights : ByteArray := prog_3_method_4_code
def yX1_allWeights : MethodName := ⟨RX1, "allWeights", "()I"⟩
abbrev cX1_withLayers : ByteArray := prog_3_method_5_code
def yX1_withLayers : MethodName := ⟨RX1, "withLayers", "()I"⟩
abbrev cX1_withIceOnTop : ByteArray := prog_3_method_6_code
def yX1_withIceOnTop : MethodName := ⟨RX1, "withIceOnTop", "()I"⟩
abbrev cX1_unbalanced : ByteArray := prog_3_method_7_code
def yX1_unbalanced : MethodName := ⟨RX1, "unbalanced", "()I"⟩
abbrev cX1_highest : ByteArray := prog_3_method_8_code
def yX1_highest : MethodName := ⟨RX1, "highest", "()I"⟩
abbrev cX1_lowerNeighbor : ByteArray := prog_3_method_9_code
def yX1_lowerNeighbor : MethodName := ⟨RX1, "lowerNeighbor", "(I)I"⟩
abbrev cX1_reason : ByteArray := prog_3_method_10_code
def yX1_reason : MethodName := ⟨RX1, "reason", "(II)I"⟩
abbrev cX1_takenBetween : ByteArray := prog_3_method_11_code
def yX1_takenBetween : MethodName := ⟨RX1, "takenBetween", "(III)I"⟩
def RX2 : String := "CrustBlocks$History"
def TX2 : u_T := fun k => match k with
  | 0 => ("CrustBlocks$History", "states", "[LCrustBlocks$State;", true)
  | 1 => ("CrustBlocks$History", "oldest", "I", false)
  | _ => ("CrustBlocks$History", "size", "I", false)
def tyX2 : Nat → FieldType := fun k => match k with
  | 0 => .array (.object "CrustBlocks$State")
  | 1 => .int
  | _ => .int
abbrev wsX20 : List Cond := u_ws RX2 TX2 3
theorem nmX2 : ∀ a, a < 3 → ∀ b, b < 3 → a ≠ b → (TX2 a).2.1 ≠ (TX2 b).2.1 := by decide +kernel
theorem tyX2_ok : ∀ k, k < 3 → parseFieldDescriptor (TX2 k).2.2.1 = some (tyX2 k) := by decide +kernel
abbrev cX2_init : ByteArray := prog_4_method_1_code
def yX2_init : MethodName := ⟨RX2, "<init>", "()V"⟩
abbrev cX2_keep : ByteArray := prog_4_method_2_code
def yX2_keep : MethodName := ⟨RX2, "keep", "(LCrustBlocks$State;)V"⟩
abbrev cX2_giveBack : ByteArray := prog_4_method_3_code
def yX2_giveBack : MethodName := ⟨RX2, "giveBack", "(LCrustBlocks$State;)V"⟩
def RX3 : String := "CrustBlocks$State"
def TX3 : u_T := fun k => match k with
  | 0 => ("CrustBlocks$State", "crust", "LCrustBlocks$Crust;", true)
  | 1 => ("CrustBlocks$State", "snapshots", "[LCrustBlocks$Crust;", true)
  | 2 => ("CrustBlocks$State", "filled", "[I", true)
  | 3 => ("CrustBlocks$State", "settings", "[I", true)
  | 4 => ("CrustBlocks$State", "accounts", "[I", true)
  | _ => ("CrustBlocks$State", "steps", "I", false)
def tyX3 : Nat → FieldType := fun k => match k with
  | 0 => .object "CrustBlocks$Crust"
  | 1 => .array (.object "CrustBlocks$Crust")
  | 2 => .array .int
  | 3 => .array .int
  | 4 => .array .int
  | _ => .int
abbrev wsX30 : List Cond := u_ws RX3 TX3 6
theorem nmX3 : ∀ a, a < 6 → ∀ b, b < 6 → a ≠ b → (TX3 a).2.1 ≠ (TX3 b).2.1 := by decide +kernel
theorem tyX3_ok : ∀ k, k < 6 → parseFieldDescriptor (TX3 k).2.2.1 = some (tyX3 k) := by decide +kernel
abbrev cX3_init : ByteArray := prog_5_method_1_code
def yX3_init : MethodName := ⟨RX3, "<init>", "()V"⟩
abbrev cX3_copyFrom : ByteArray := prog_5_method_2_code
def yX3_copyFrom : MethodName := ⟨RX3, "copyFrom", "(LCrustBlocks$State;)V"⟩
abbrev cX3_filledPlaces : ByteArray := prog_5_method_3_code
def yX3_filledPlaces : MethodName := ⟨RX3, "filledPlaces", "()I"⟩
def RX4 : String := "CrustBlocks$Stepper"
def TX4 : u_T := fun k => match k with
  | 0 => ("CrustBlocks$Stepper", "valleys", "[I", true)
  | 1 => ("CrustBlocks$Stepper", "taken", "[I", true)
  | _ => ("CrustBlocks$Stepper", "places", "[I", true)
def tyX4 : Nat → FieldType := fun k => match k with
  | 0 => .array .int
  | 1 => .array .int
  | _ => .array .int
abbrev wsX40 : List Cond := u_ws RX4 TX4 3
theorem nmX4 : ∀ a, a < 3 → ∀ b, b < 3 → a ≠ b → (TX4 a).2.1 ≠ (TX4 b).2.1 := by decide +kernel
theorem tyX4_ok : ∀ k, k < 3 → parseFieldDescriptor (TX4 k).2.2.1 = some (tyX4 k) := by decide +kernel
abbrev cX4_init : ByteArray := prog_6_method_1_code
def yX4_init : MethodName := ⟨RX4, "<init>", "()V"⟩
abbrev cX4_makeStep : ByteArray := prog_6_method_2_code
def yX4_makeStep : MethodName := ⟨RX4, "makeStep", "(LCrustBlocks$State;)V"⟩
abbrev cX4_changeIce : ByteArray := prog_6_method_3_code
def yX4_changeIce : MethodName := ⟨RX4, "changeIce", "(LCrustBlocks$State;LCrustBlocks$Column;)V"⟩
abbrev cX4_growIce : ByteArray := prog_6_method_4_code
def yX4_growIce : MethodName := ⟨RX4, "growIce", "(LCrustBlocks$State;LCrustBlocks$Column;I)V"⟩
abbrev cX4_findErosion : ByteArray := prog_6_method_5_code
def yX4_findErosion : MethodName := ⟨RX4, "findErosion", "(LCrustBlocks$State;)V"⟩
abbrev cX4_erode : ByteArray := prog_6_method_6_code
def yX4_erode : MethodName := ⟨RX4, "erode", "(LCrustBlocks$State;I)V"⟩
abbrev cX4_laidDown : ByteArray := prog_6_method_7_code
def yX4_laidDown : MethodName := ⟨RX4, "laidDown", "(LCrustBlocks$Column;II)I"⟩
def RX5 : String := "CrustBlocks$Text"
def TX5 : u_T := fun k => match k with
  | 0 => ("CrustBlocks$Text", "characters", "[I", true)
  | 1 => ("CrustBlocks$Text", "length", "I", false)
  | 2 => ("CrustBlocks$Text", "position", "I", false)
  | _ => ("CrustBlocks$Text", "errorAt", "I", false)
def tyX5 : Nat → FieldType := fun k => match k with
  | 0 => .array .int
  | 1 => .int
  | 2 => .int
  | _ => .int
abbrev wsX50 : List Cond := u_ws RX5 TX5 4
theorem nmX5 : ∀ a, a < 4 → ∀ b, b < 4 → a ≠ b → (TX5 a).2.1 ≠ (TX5 b).2.1 := by decide +kernel
theorem tyX5_ok : ∀ k, k < 4 → parseFieldDescriptor (TX5 k).2.2.1 = some (tyX5 k) := by decide +kernel
abbrev cX5_init : ByteArray := prog_7_method_1_code
def yX5_init : MethodName := ⟨RX5, "<init>", "()V"⟩
abbrev cX5_isWrong : ByteArray := prog_7_method_2_code
def yX5_isWrong : MethodName := ⟨RX5, "isWrong", "()Z"⟩
abbrev cX5_readInto : ByteArray := prog_7_method_3_code
def yX5_readInto : MethodName := ⟨RX5, "readInto", "(LCrustBlocks$State;)I"⟩
abbrev cX5_readItem : ByteArray := prog_7_method_4_code
def yX5_readItem : MethodName := ⟨RX5, "readItem", "(LCrustBlocks$State;)V"⟩
abbrev cX5_readLayers : ByteArray := prog_7_method_5_code
def yX5_readLayers : MethodName := ⟨RX5, "readLayers", "(LCrustBlocks$Column;)V"⟩
abbrev cX5_readLayer : ByteArray := prog_7_method_6_code
def yX5_readLayer : MethodName := ⟨RX5, "readLayer", "(LCrustBlocks$Column;)V"⟩
abbrev cX5_readNumber : ByteArray := prog_7_method_7_code
def yX5_readNumber : MethodName := ⟨RX5, "readNumber", "(II)I"⟩
abbrev cX5_expect : ByteArray := prog_7_method_8_code
def yX5_expect : MethodName := ⟨RX5, "expect", "(I)V"⟩
abbrev cX5_fail : ByteArray := prog_7_method_9_code
def yX5_fail : MethodName := ⟨RX5, "fail", "(I)V"⟩
abbrev cX5_nextSign : ByteArray := prog_7_method_10_code
def yX5_nextSign : MethodName := ⟨RX5, "nextSign", "()I"⟩
abbrev cX5_kindOf : ByteArray := prog_7_method_11_code
def yX5_kindOf : MethodName := ⟨RX5, "kindOf", "(I)I"⟩
def RX6 : String := "CrustBlocks"
def TX6 : u_T := fun k => match k with
  | 0 => ("CrustBlocks", "state", "LCrustBlocks$State;", true)
  | 1 => ("CrustBlocks", "draft", "LCrustBlocks$State;", true)
  | 2 => ("CrustBlocks", "history", "LCrustBlocks$History;", true)
  | 3 => ("CrustBlocks", "text", "LCrustBlocks$Text;", true)
  | _ => ("CrustBlocks", "stepper", "LCrustBlocks$Stepper;", true)
def tyX6 : Nat → FieldType := fun k => match k with
  | 0 => .object "CrustBlocks$State"
  | 1 => .object "CrustBlocks$State"
  | 2 => .object "CrustBlocks$History"
  | 3 => .object "CrustBlocks$Text"
  | _ => .object "CrustBlocks$Stepper"
abbrev wsX60 : List Cond := u_ws RX6 TX6 5
theorem nmX6 : ∀ a, a < 5 → ∀ b, b < 5 → a ≠ b → (TX6 a).2.1 ≠ (TX6 b).2.1 := by decide +kernel
theorem tyX6_ok : ∀ k, k < 5 → parseFieldDescriptor (TX6 k).2.2.1 = some (tyX6 k) := by decide +kernel
abbrev cX6_init : ByteArray := prog_1_method_1_code
def yX6_init : MethodName := ⟨RX6, "<init>", "()V"⟩
abbrev cX6_addLayer : ByteArray := prog_1_method_2_code
def yX6_addLayer : MethodName := ⟨RX6, "addLayer", "(IIIII)I"⟩
abbrev cX6_removeLayer : ByteArray := prog_1_method_3_code
def yX6_removeLayer : MethodName := ⟨RX6, "removeLayer", "(II)I"⟩
abbrev cX6_strip : ByteArray := prog_1_method_4_code
def yX6_strip : MethodName := ⟨RX6, "strip", "(I)I"⟩
abbrev cX6_settle : ByteArray := prog_1_method_5_code
def yX6_settle : MethodName := ⟨RX6, "settle", "()I"⟩
abbrev cX6_set : ByteArray := prog_1_method_6_code
def yX6_set : MethodName := ⟨RX6, "set", "(II)I"⟩
abbrev cX6_run : ByteArray := prog_1_method_7_code
def yX6_run : MethodName := ⟨RX6, "run", "(I)I"⟩
abbrev cX6_take : ByteArray := prog_1_method_8_code
def yX6_take : MethodName := ⟨RX6, "take", "(I)I"⟩
abbrev cX6_restore : ByteArray := prog_1_method_9_code
def yX6_restore : MethodName := ⟨RX6, "restore", "(I)I"⟩
abbrev cX6_undo : ByteArray := prog_1_method_10_code
def yX6_undo : MethodName := ⟨RX6, "undo", "()I"⟩
abbrev cX6_append : ByteArray := prog_1_method_11_code
def yX6_append : MethodName := ⟨RX6, "append", "(I)I"⟩
abbrev cX6_clearText : ByteArray := prog_1_method_12_code
def yX6_clearText : MethodName := ⟨RX6, "clearText", "()I"⟩
abbrev cX6_load : ByteArray := prog_1_method_13_code
def yX6_load : MethodName := ⟨RX6, "load", "()I"⟩
abbrev cX6_count : ByteArray := prog_1_method_14_code
def yX6_count : MethodName := ⟨RX6, "count", "(I)I"⟩
abbrev cX6_block : ByteArray := prog_1_method_15_code
def yX6_block : MethodName := ⟨RX6, "block", "(II)I"⟩
abbrev cX6_layer : ByteArray := prog_1_method_16_code
def yX6_layer : MethodName := ⟨RX6, "layer", "(III)I"⟩
abbrev cX6_account : ByteArray := prog_1_method_17_code
def yX6_account : MethodName := ⟨RX6, "account", "(I)I"⟩
abbrev cX6_density : ByteArray := prog_1_method_18_code
def yX6_density : MethodName := ⟨RX6, "density", "(II)I"⟩
abbrev cX6_pressure : ByteArray := prog_1_method_19_code
def yX6_pressure : MethodName := ⟨RX6, "pressure", "(II)I"⟩
abbrev cX6_why : ByteArray := prog_1_method_20_code
def yX6_why : MethodName := ⟨RX6, "why", "(I)I"⟩
abbrev cX6_valley : ByteArray := prog_1_method_21_code
def yX6_valley : MethodName := ⟨RX6, "valley", "(I)I"⟩
abbrev cX6_stepsToBalance : ByteArray := prog_1_method_22_code
def yX6_stepsToBalance : MethodName := ⟨RX6, "stepsToBalance", "(I)I"⟩
abbrev cX6_bareTop : ByteArray := prog_1_method_23_code
def yX6_bareTop : MethodName := ⟨RX6, "bareTop", "(I)I"⟩
abbrev cX6_topIn : ByteArray := prog_1_method_24_code
def yX6_topIn : MethodName := ⟨RX6, "topIn", "(II)I"⟩
abbrev cX6_uneven : ByteArray := prog_1_method_25_code
def yX6_uneven : MethodName := ⟨RX6, "uneven", "(II)I"⟩
abbrev cX6_isWithin : ByteArray := prog_1_method_26_code
def yX6_isWithin : MethodName := ⟨RX6, "isWithin", "(III)Z"⟩
abbrev cX6_isBlock : ByteArray := prog_1_method_27_code
def yX6_isBlock : MethodName := ⟨RX6, "isBlock", "(I)Z"⟩
abbrev cX6_isKind : ByteArray := prog_1_method_28_code
def yX6_isKind : MethodName := ⟨RX6, "isKind", "(I)Z"⟩
abbrev cX6_isPlace : ByteArray := prog_1_method_29_code
def yX6_isPlace : MethodName := ⟨RX6, "isPlace", "(I)Z"⟩
def RX7 : String := "CrustBlocksModel"
def TX7 : u_T := fun k => match k with
  | 0 => ("CrustBlocksModel", "thrown", "I", false)
  | 1 => ("CrustBlocksModel", "s", "[I", true)
  | 2 => ("CrustBlocksModel", "aside", "[I", true)
  | 3 => ("CrustBlocksModel", "saved", "[I", true)
  | 4 => ("CrustBlocksModel", "savedMany", "I", false)
  | 5 => ("CrustBlocksModel", "text", "[I", true)
  | 6 => ("CrustBlocksModel", "length", "I", false)
  | 7 => ("CrustBlocksModel", "valleys", "[I", true)
  | 8 => ("CrustBlocksModel", "taken", "[I", true)
  | 9 => ("CrustBlocksModel", "losing", "[I", true)
  | 10 => ("CrustBlocksModel", "next", "I", false)
  | _ => ("CrustBlocksModel", "number", "I", false)
def tyX7 : Nat → FieldType := fun k => match k with
  | 0 => .int
  | 1 => .array .int
  | 2 => .array .int
  | 3 => .array .int
  | 4 => .int
  | 5 => .array .int
  | 6 => .int
  | 7 => .array .int
  | 8 => .array .int
  | 9 => .array .int
  | 10 => .int
  | _ => .int
abbrev wsX70 : List Cond := u_ws RX7 TX7 12
theorem nmX7 : ∀ a, a < 12 → ∀ b, b < 12 → a ≠ b → (TX7 a).2.1 ≠ (TX7 b).2.1 := by decide +kernel
theorem tyX7_ok : ∀ k, k < 12 → parseFieldDescriptor (TX7 k).2.2.1 = some (tyX7 k) := by decide +kernel
abbrev cX7_init : ByteArray := prog_9_method_1_code
def yX7_init : MethodName := ⟨RX7, "<init>", "()V"⟩
abbrev cX7_in : ByteArray := prog_9_method_3_code
def yX7_in : MethodName := ⟨RX7, "in", "(III)Z"⟩
abbrev cX7_less : ByteArray := prog_9_method_4_code
def yX7_less : MethodName := ⟨RX7, "less", "(II)I"⟩
abbrev cX7_more : ByteArray := prog_9_method_5_code
def yX7_more : MethodName := ⟨RX7, "more", "(II)I"⟩
abbrev cX7_act : ByteArray := prog_9_method_6_code
def yX7_act : MethodName := ⟨RX7, "act", "()V"⟩
abbrev cX7_hold : ByteArray := prog_9_method_7_code
def yX7_hold : MethodName := ⟨RX7, "hold", "()V"⟩
abbrev cX7_release : ByteArray := prog_9_method_8_code
def yX7_release : MethodName := ⟨RX7, "release", "()V"⟩
abbrev cX7_exchange : ByteArray := prog_9_method_9_code
def yX7_exchange : MethodName := ⟨RX7, "exchange", "()V"⟩
abbrev cX7_isBlock : ByteArray := prog_9_method_10_code
def yX7_isBlock : MethodName := ⟨RX7, "isBlock", "(I)Z"⟩
abbrev cX7_of : ByteArray := prog_9_method_11_code
def yX7_of : MethodName := ⟨RX7, "of", "(II)I"⟩
abbrev cX7_at : ByteArray := prog_9_method_12_code
def yX7_at : MethodName := ⟨RX7, "at", "(II)I"⟩
abbrev cX7_kindOf : ByteArray := prog_9_method_13_code
def yX7_kindOf : MethodName := ⟨RX7, "kindOf", "(II)I"⟩
abbrev cX7_weightOf : ByteArray := prog_9_method_14_code
def yX7_weightOf : MethodName := ⟨RX7, "weightOf", "(II)I"⟩
abbrev cX7_isLayer : ByteArray := prog_9_method_15_code
def yX7_isLayer : MethodName := ⟨RX7, "isLayer", "(II)Z"⟩
abbrev cX7_weight : ByteArray := prog_9_method_16_code
def yX7_weight : MethodName := ⟨RX7, "weight", "(I)I"⟩
abbrev cX7_thick : ByteArray := prog_9_method_17_code
def yX7_thick : MethodName := ⟨RX7, "thick", "(I)I"⟩
abbrev cX7_balance : ByteArray := prog_9_method_18_code
def yX7_balance : MethodName := ⟨RX7, "balance", "(I)I"⟩
abbrev cX7_top : ByteArray := prog_9_method_19_code
def yX7_top : MethodName := ⟨RX7, "top", "(I)I"⟩
abbrev cX7_insert : ByteArray := prog_9_method_20_code
def yX7_insert : MethodName := ⟨RX7, "insert", "(IIIII)V"⟩
abbrev cX7_takeOut : ByteArray := prog_9_method_21_code
def yX7_takeOut : MethodName := ⟨RX7, "takeOut", "(II)V"⟩
abbrev cX7_grow : ByteArray := prog_9_method_22_code
def yX7_grow : MethodName := ⟨RX7, "grow", "(III)V"⟩
abbrev cX7_isDensity : ByteArray := prog_9_method_23_code
def yX7_isDensity : MethodName := ⟨RX7, "isDensity", "(II)Z"⟩
abbrev cX7_addLayer : ByteArray := prog_9_method_24_code
def yX7_addLayer : MethodName := ⟨RX7, "addLayer", "(IIIII)I"⟩
abbrev cX7_removeLayer : ByteArray := prog_9_method_25_code
def yX7_removeLayer : MethodName := ⟨RX7, "removeLayer", "(II)I"⟩
abbrev cX7_strip : ByteArray := prog_9_method_26_code
def yX7_strip : MethodName := ⟨RX7, "strip", "(I)I"⟩
abbrev cX7_settle : ByteArray := prog_9_method_27_code
def yX7_settle : MethodName := ⟨RX7, "settle", "()I"⟩
abbrev cX7_isSetting : ByteArray := prog_9_method_28_code
def yX7_isSetting : MethodName := ⟨RX7, "isSetting", "(II)Z"⟩
abbrev cX7_set : ByteArray := prog_9_method_29_code
def yX7_set : MethodName := ⟨RX7, "set", "(II)I"⟩
abbrev cX7_isIcy : ByteArray := prog_9_method_30_code
def yX7_isIcy : MethodName := ⟨RX7, "isIcy", "(I)Z"⟩
abbrev cX7_freeze : ByteArray := prog_9_method_31_code
def yX7_freeze : MethodName := ⟨RX7, "freeze", "(I)V"⟩
abbrev cX7_melt : ByteArray := prog_9_method_32_code
def yX7_melt : MethodName := ⟨RX7, "melt", "(I)V"⟩
abbrev cX7_makeIce : ByteArray := prog_9_method_33_code
def yX7_makeIce : MethodName := ⟨RX7, "makeIce", "()V"⟩
abbrev cX7_valleyOf : ByteArray := prog_9_method_34_code
def yX7_valleyOf : MethodName := ⟨RX7, "valleyOf", "(I)I"⟩
abbrev cX7_takenFrom : ByteArray := prog_9_method_35_code
def yX7_takenFrom : MethodName := ⟨RX7, "takenFrom", "(I)I"⟩
abbrev cX7_lay : ByteArray := prog_9_method_36_code
def yX7_lay : MethodName := ⟨RX7, "lay", "(II)I"⟩
abbrev cX7_erode : ByteArray := prog_9_method_37_code
def yX7_erode : MethodName := ⟨RX7, "erode", "()V"⟩
abbrev cX7_floats : ByteArray := prog_9_method_38_code
def yX7_floats : MethodName := ⟨RX7, "floats", "(I)V"⟩
abbrev cX7_step : ByteArray := prog_9_method_39_code
def yX7_step : MethodName := ⟨RX7, "step", "()V"⟩
abbrev cX7_run : ByteArray := prog_9_method_40_code
def yX7_run : MethodName := ⟨RX7, "run", "(I)I"⟩
abbrev cX7_allLayers : ByteArray := prog_9_method_41_code
def yX7_allLayers : MethodName := ⟨RX7, "allLayers", "()I"⟩
abbrev cX7_allWeights : ByteArray := prog_9_method_42_code
def yX7_allWeights : MethodName := ⟨RX7, "allWeights", "()I"⟩
abbrev cX7_take : ByteArray := prog_9_method_43_code
def yX7_take : MethodName := ⟨RX7, "take", "(I)I"⟩
abbrev cX7_restore : ByteArray := prog_9_method_44_code
def yX7_restore : MethodName := ⟨RX7, "restore", "(I)I"⟩
abbrev cX7_undo : ByteArray := prog_9_method_45_code
def yX7_undo : MethodName := ⟨RX7, "undo", "()I"⟩
abbrev cX7_append : ByteArray := prog_9_method_46_code
def yX7_append : MethodName := ⟨RX7, "append", "(I)I"⟩
abbrev cX7_clearText : ByteArray := prog_9_method_47_code
def yX7_clearText : MethodName := ⟨RX7, "clearText", "()I"⟩
abbrev cX7_here : ByteArray := prog_9_method_48_code
def yX7_here : MethodName := ⟨RX7, "here", "()I"⟩
abbrev cX7_reads : ByteArray := prog_9_method_49_code
def yX7_reads : MethodName := ⟨RX7, "reads", "(II)Z"⟩
abbrev cX7_takes : ByteArray := prog_9_method_50_code
def yX7_takes : MethodName := ⟨RX7, "takes", "(I)Z"⟩
abbrev cX7_readsLayer : ByteArray := prog_9_method_51_code
def yX7_readsLayer : MethodName := ⟨RX7, "readsLayer", "(I)Z"⟩
abbrev cX7_readsLayers : ByteArray := prog_9_method_52_code
def yX7_readsLayers : MethodName := ⟨RX7, "readsLayers", "(I)Z"⟩
abbrev cX7_readsItem : ByteArray := prog_9_method_53_code
def yX7_readsItem : MethodName := ⟨RX7, "readsItem", "()Z"⟩
abbrev cX7_load : ByteArray := prog_9_method_54_code
def yX7_load : MethodName := ⟨RX7, "load", "()I"⟩
abbrev cX7_highest : ByteArray := prog_9_method_55_code
def yX7_highest : MethodName := ⟨RX7, "highest", "()I"⟩
abbrev cX7_icyMany : ByteArray := prog_9_method_56_code
def yX7_icyMany : MethodName := ⟨RX7, "icyMany", "()I"⟩
abbrev cX7_unbalanced : ByteArray := prog_9_method_57_code
def yX7_unbalanced : MethodName := ⟨RX7, "unbalanced", "()I"⟩
abbrev cX7_filled : ByteArray := prog_9_method_58_code
def yX7_filled : MethodName := ⟨RX7, "filled", "()I"⟩
abbrev cX7_count : ByteArray := prog_9_method_59_code
def yX7_count : MethodName := ⟨RX7, "count", "(I)I"⟩
abbrev cX7_iceWeight : ByteArray := prog_9_method_60_code
def yX7_iceWeight : MethodName := ⟨RX7, "iceWeight", "(I)I"⟩
abbrev cX7_block : ByteArray := prog_9_method_61_code
def yX7_block : MethodName := ⟨RX7, "block", "(II)I"⟩
abbrev cX7_upper : ByteArray := prog_9_method_62_code
def yX7_upper : MethodName := ⟨RX7, "upper", "(II)I"⟩
abbrev cX7_layer : ByteArray := prog_9_method_63_code
def yX7_layer : MethodName := ⟨RX7, "layer", "(III)I"⟩
abbrev cX7_account : ByteArray := prog_9_method_64_code
def yX7_account : MethodName := ⟨RX7, "account", "(I)I"⟩
abbrev cX7_density : ByteArray := prog_9_method_65_code
def yX7_density : MethodName := ⟨RX7, "density", "(II)I"⟩
abbrev cX7_pressureOf : ByteArray := prog_9_method_66_code
def yX7_pressureOf : MethodName := ⟨RX7, "pressureOf", "(II)I"⟩
abbrev cX7_pressure : ByteArray := prog_9_method_67_code
def yX7_pressure : MethodName := ⟨RX7, "pressure", "(II)I"⟩
abbrev cX7_why : ByteArray := prog_9_method_68_code
def yX7_why : MethodName := ⟨RX7, "why", "(I)I"⟩
abbrev cX7_valley : ByteArray := prog_9_method_69_code
def yX7_valley : MethodName := ⟨RX7, "valley", "(I)I"⟩
abbrev cX7_stepsToBalance : ByteArray := prog_9_method_70_code
def yX7_stepsToBalance : MethodName := ⟨RX7, "stepsToBalance", "(I)I"⟩
abbrev cX7_iceThick : ByteArray := prog_9_method_71_code
def yX7_iceThick : MethodName := ⟨RX7, "iceThick", "(I)I"⟩
abbrev cX7_bareTop : ByteArray := prog_9_method_72_code
def yX7_bareTop : MethodName := ⟨RX7, "bareTop", "(I)I"⟩
abbrev cX7_topIn : ByteArray := prog_9_method_73_code
def yX7_topIn : MethodName := ⟨RX7, "topIn", "(II)I"⟩
abbrev cX7_uneven : ByteArray := prog_9_method_74_code
def yX7_uneven : MethodName := ⟨RX7, "uneven", "(II)I"⟩
def RJ6 : String := "java/lang/Integer"
def TJ6 : u_T := fun k => match k with
  | _ => ("", "", "", false)
def tyJ6 : Nat → FieldType := fun k => match k with
  | _ => .int
abbrev wsJ60 : List Cond := u_ws RJ6 TJ6 0
theorem nmJ6 : ∀ a, a < 0 → ∀ b, b < 0 → a ≠ b → (TJ6 a).2.1 ≠ (TJ6 b).2.1 := by decide +kernel
theorem tyJ6_ok : ∀ k, k < 0 → parseFieldDescriptor (TJ6 k).2.2.1 = some (tyJ6 k) := by decide +kernel
abbrev cJ6_compare_7cf53 : ByteArray := prog_10_method_40_code
def yJ6_compare_7cf53 : MethodName := ⟨RJ6, "compare", "(II)I"⟩
def RJ9 : String := "java/lang/Math"
def TJ9 : u_T := fun k => match k with
  | _ => ("", "", "", false)
def tyJ9 : Nat → FieldType := fun k => match k with
  | _ => .int
abbrev wsJ90 : List Cond := u_ws RJ9 TJ9 0
theorem nmJ9 : ∀ a, a < 0 → ∀ b, b < 0 → a ≠ b → (TJ9 a).2.1 ≠ (TJ9 b).2.1 := by decide +kernel
theorem tyJ9_ok : ∀ k, k < 0 → parseFieldDescriptor (TJ9 k).2.2.1 = some (tyJ9 k) := by decide +kernel
abbrev cJ9_max_7cf53 : ByteArray := prog_11_method_65_code
def yJ9_max_7cf53 : MethodName := ⟨RJ9, "max", "(II)I"⟩
abbrev cJ9_min_7cf53 : ByteArray := prog_11_method_69_code
def yJ9_min_7cf53 : MethodName := ⟨RJ9, "min", "(II)I"⟩
abbrev cJ9_min_f86c9 : ByteArray := prog_11_method_70_code
def yJ9_min_f86c9 : MethodName := ⟨RJ9, "min", "(JJ)J"⟩
def RJ10 : String := "java/lang/System"
def TJ10 : u_T := fun k => match k with
  | _ => ("", "", "", false)
def tyJ10 : Nat → FieldType := fun k => match k with
  | _ => .int
abbrev wsJ100 : List Cond := u_ws RJ10 TJ10 0
theorem nmJ10 : ∀ a, a < 0 → ∀ b, b < 0 → a ≠ b → (TJ10 a).2.1 ≠ (TJ10 b).2.1 := by decide +kernel
theorem tyJ10_ok : ∀ k, k < 0 → parseFieldDescriptor (TJ10 k).2.2.1 = some (tyJ10 k) := by decide +kernel
def RL : String := "CrustBlocksLaw"
abbrev cL_law : ByteArray := code
def yL_law : MethodName := ⟨RL, "law", "([I)Z"⟩
abbrev vwCl : List vw_C := [(RX0, TX0, 5), (RX1, TX1, 1), (RX2, TX2, 3), (RX3, TX3, 6), (RX4, TX4, 3), (RX5, TX5, 4), (RX6, TX6, 5), (RX7, TX7, 12)]
/-- the words that may be handed to a callee -/
def gA : List Cond := lw_tbl.filter goodWord
theorem gA_good : ∀ w ∈ gA, w ∈ lw_tbl ∧ ((w.onTables && w.keeps) = true ∨ ∃ ty, w = .arrayClass ty) := fun w h => ⟨(List.mem_filter.mp h).1, good_of_word (List.mem_filter.mp h).2⟩
theorem tb_1 {w : Cond} (i : Nat) (h : tables_1_1[i]? = some w) : w ∈ lw_tbl := by
  have h1 := List.mem_of_getElem? h
  exact List.mem_append_right _ (List.mem_append_left _ h1)
theorem ga_1 {w : Cond} (i : Nat) (h : tables_1_1[i]? = some w) (hg : goodWord w = true) : w ∈ gA := List.mem_filter.mpr ⟨tb_1 i h, hg⟩
theorem tb_2 {w : Cond} (i : Nat) (h : tables_1_2[i]? = some w) : w ∈ lw_tbl := by
  have h1 := List.mem_of_getElem? h
  exact List.mem_append_right _ (List.mem_append_right _ (List.mem_append_left _ h1))
theorem ga_2 {w : Cond} (i : Nat) (h : tables_1_2[i]? = some w) (hg : goodWord w = true) : w ∈ gA := List.mem_filter.mpr ⟨tb_2 i h, hg⟩
theorem tb_3 {w : Cond} (i : Nat) (h : tables_1_3[i]? = some w) : w ∈ lw_tbl := by
  have h1 := List.mem_of_getElem? h
  exact List.mem_append_right _ (List.mem_append_right _ (List.mem_append_right _ (List.mem_append_left _ h1)))
theorem ga_3 {w : Cond} (i : Nat) (h : tables_1_3[i]? = some w) (hg : goodWord w = true) : w ∈ gA := List.mem_filter.mpr ⟨tb_3 i h, hg⟩
theorem tb_4 {w : Cond} (i : Nat) (h : tables_1_4[i]? = some w) : w ∈ lw_tbl := by
  have h1 := List.mem_of_getElem? h
  exact List.mem_append_right _ (List.mem_append_right _ (List.mem_append_right _ (List.mem_append_right _ (h1))))
theorem ga_4 {w : Cond} (i : Nat) (h : tables_1_4[i]? = some w) (hg : goodWord w = true) : w ∈ gA := List.mem_filter.mpr ⟨tb_4 i h, hg⟩
theorem tb_s {w : Cond} (i : Nat) (h : (k2_sels lw_privs)[i]? = some w) : w ∈ lw_tbl := List.mem_append_left _ (List.mem_of_getElem? h)
theorem ga_s {w : Cond} (i : Nat) (h : (k2_sels lw_privs)[i]? = some w) (hg : goodWord w = true) : w ∈ gA := List.mem_filter.mpr ⟨tb_s i h, hg⟩
