-- ===== PART A: goes FIRST, ahead of the names: the tables' words, and 'selects' of the private methods out of them =====
/-- a private method of a class that the tables say can be made, by its rows of tables_1 -/
def lw_okq (q : MethodName × Nat) : Prop := (q.1.cls ≠ "java/lang/invoke/MethodHandle" ∧ q.1.cls ≠ "java/lang/invoke/VarHandle") ∧ Cond.instantiable q.1.cls q.2 ∈ tables_1 ∧ Cond.privateMethod q.1 ∈ tables_1 ∧ Cond.instanceMethod q.1 ∈ tables_1
theorem lw_p0 : lw_okq (⟨"DeafAuction", "sheetOf", "(I)LDeafAuction$Sheet;"⟩, 6) := ⟨⟨by decide +kernel, by decide +kernel⟩, List.mem_of_getElem? (i := 14) (by decide +kernel), List.mem_of_getElem? (i := 180) (by decide +kernel), List.mem_of_getElem? (i := 181) (by decide +kernel)⟩
theorem lw_p1 : lw_okq (⟨"DeafAuction", "meet", "(I)I"⟩, 6) := ⟨⟨by decide +kernel, by decide +kernel⟩, List.mem_of_getElem? (i := 14) (by decide +kernel), List.mem_of_getElem? (i := 198) (by decide +kernel), List.mem_of_getElem? (i := 199) (by decide +kernel)⟩
theorem lw_p2 : lw_okq (⟨"DeafAuction", "fillRoom", "(LDeafAuction$Sheet;II)V"⟩, 6) := ⟨⟨by decide +kernel, by decide +kernel⟩, List.mem_of_getElem? (i := 14) (by decide +kernel), List.mem_of_getElem? (i := 222) (by decide +kernel), List.mem_of_getElem? (i := 223) (by decide +kernel)⟩
theorem lw_p3 : lw_okq (⟨"DeafAuction", "sellTo", "(II)V"⟩, 6) := ⟨⟨by decide +kernel, by decide +kernel⟩, List.mem_of_getElem? (i := 14) (by decide +kernel), List.mem_of_getElem? (i := 372) (by decide +kernel), List.mem_of_getElem? (i := 373) (by decide +kernel)⟩
theorem lw_p4 : lw_okq (⟨"DeafAuction$Bidding", "lineUp", "()V"⟩, 13) := ⟨⟨by decide +kernel, by decide +kernel⟩, List.mem_of_getElem? (i := 88) (by decide +kernel), List.mem_of_getElem? (i := 399) (by decide +kernel), List.mem_of_getElem? (i := 400) (by decide +kernel)⟩
theorem lw_p5 : lw_okq (⟨"DeafAuction$Bidding", "nextBidder", "()I"⟩, 13) := ⟨⟨by decide +kernel, by decide +kernel⟩, List.mem_of_getElem? (i := 88) (by decide +kernel), List.mem_of_getElem? (i := 403) (by decide +kernel), List.mem_of_getElem? (i := 404) (by decide +kernel)⟩
theorem lw_p6 : lw_okq (⟨"DeafAuction$Bidding", "riseBy", "(I)I"⟩, 13) := ⟨⟨by decide +kernel, by decide +kernel⟩, List.mem_of_getElem? (i := 88) (by decide +kernel), List.mem_of_getElem? (i := 407) (by decide +kernel), List.mem_of_getElem? (i := 408) (by decide +kernel)⟩
theorem lw_p7 : lw_okq (⟨"DeafAuction$Bidding", "isSeen", "(I)Z"⟩, 13) := ⟨⟨by decide +kernel, by decide +kernel⟩, List.mem_of_getElem? (i := 88) (by decide +kernel), List.mem_of_getElem? (i := 411) (by decide +kernel), List.mem_of_getElem? (i := 412) (by decide +kernel)⟩
theorem lw_p8 : lw_okq (⟨"DeafAuction$Bidding", "takeBidOf", "(I)V"⟩, 13) := ⟨⟨by decide +kernel, by decide +kernel⟩, List.mem_of_getElem? (i := 88) (by decide +kernel), List.mem_of_getElem? (i := 415) (by decide +kernel), List.mem_of_getElem? (i := 416) (by decide +kernel)⟩
theorem lw_p9 : lw_okq (⟨"DeafAuction", "sellRow", "(LDeafAuction$Sheet;II)I"⟩, 6) := ⟨⟨by decide +kernel, by decide +kernel⟩, List.mem_of_getElem? (i := 14) (by decide +kernel), List.mem_of_getElem? (i := 439) (by decide +kernel), List.mem_of_getElem? (i := 440) (by decide +kernel)⟩
theorem lw_p10 : lw_okq (⟨"DeafAuction", "gainFrom", "(LDeafAuction$Buyer;II)I"⟩, 6) := ⟨⟨by decide +kernel, by decide +kernel⟩, List.mem_of_getElem? (i := 14) (by decide +kernel), List.mem_of_getElem? (i := 453) (by decide +kernel), List.mem_of_getElem? (i := 454) (by decide +kernel)⟩
theorem lw_p11 : lw_okq (⟨"DeafAuction", "sellFrom", "(III)V"⟩, 6) := ⟨⟨by decide +kernel, by decide +kernel⟩, List.mem_of_getElem? (i := 14) (by decide +kernel), List.mem_of_getElem? (i := 457) (by decide +kernel), List.mem_of_getElem? (i := 458) (by decide +kernel)⟩
theorem lw_p12 : lw_okq (⟨"DeafAuction", "sellOrder", "(I)I"⟩, 6) := ⟨⟨by decide +kernel, by decide +kernel⟩, List.mem_of_getElem? (i := 14) (by decide +kernel), List.mem_of_getElem? (i := 475) (by decide +kernel), List.mem_of_getElem? (i := 476) (by decide +kernel)⟩
theorem lw_p13 : lw_okq (⟨"DeafAuction", "areReadingsSo", "(III)Z"⟩, 6) := ⟨⟨by decide +kernel, by decide +kernel⟩, List.mem_of_getElem? (i := 14) (by decide +kernel), List.mem_of_getElem? (i := 516) (by decide +kernel), List.mem_of_getElem? (i := 517) (by decide +kernel)⟩
theorem lw_p14 : lw_okq (⟨"DeafAuction", "isReadingSo", "(III)Z"⟩, 6) := ⟨⟨by decide +kernel, by decide +kernel⟩, List.mem_of_getElem? (i := 14) (by decide +kernel), List.mem_of_getElem? (i := 528) (by decide +kernel), List.mem_of_getElem? (i := 529) (by decide +kernel)⟩
theorem lw_p15 : lw_okq (⟨"DeafAuction$Sheet", "cut", "(I)I"⟩, 3) := ⟨⟨by decide +kernel, by decide +kernel⟩, List.mem_of_getElem? (i := 23) (by decide +kernel), List.mem_of_getElem? (i := 556) (by decide +kernel), List.mem_of_getElem? (i := 557) (by decide +kernel)⟩
def lw_privs_1 : List (MethodName × Nat) := [(⟨"DeafAuction", "sheetOf", "(I)LDeafAuction$Sheet;"⟩, 6), (⟨"DeafAuction", "meet", "(I)I"⟩, 6), (⟨"DeafAuction", "fillRoom", "(LDeafAuction$Sheet;II)V"⟩, 6), (⟨"DeafAuction", "sellTo", "(II)V"⟩, 6), (⟨"DeafAuction$Bidding", "lineUp", "()V"⟩, 13), (⟨"DeafAuction$Bidding", "nextBidder", "()I"⟩, 13), (⟨"DeafAuction$Bidding", "riseBy", "(I)I"⟩, 13), (⟨"DeafAuction$Bidding", "isSeen", "(I)Z"⟩, 13), (⟨"DeafAuction$Bidding", "takeBidOf", "(I)V"⟩, 13), (⟨"DeafAuction", "sellRow", "(LDeafAuction$Sheet;II)I"⟩, 6), (⟨"DeafAuction", "gainFrom", "(LDeafAuction$Buyer;II)I"⟩, 6), (⟨"DeafAuction", "sellFrom", "(III)V"⟩, 6), (⟨"DeafAuction", "sellOrder", "(I)I"⟩, 6), (⟨"DeafAuction", "areReadingsSo", "(III)Z"⟩, 6), (⟨"DeafAuction", "isReadingSo", "(III)Z"⟩, 6), (⟨"DeafAuction$Sheet", "cut", "(I)I"⟩, 3)]
theorem lw_r1 : ∀ q ∈ lw_privs_1, lw_okq q := List.forall_mem_cons.mpr ⟨lw_p0, List.forall_mem_cons.mpr ⟨lw_p1, List.forall_mem_cons.mpr ⟨lw_p2, List.forall_mem_cons.mpr ⟨lw_p3, List.forall_mem_cons.mpr ⟨lw_p4, List.forall_mem_cons.mpr ⟨lw_p5, List.forall_mem_cons.mpr ⟨lw_p6, List.forall_mem_cons.mpr ⟨lw_p7, List.forall_mem_cons.mpr ⟨lw_p8, List.forall_mem_cons.mpr ⟨lw_p9, List.forall_mem_cons.mpr ⟨lw_p10, List.forall_mem_cons.mpr ⟨lw_p11, List.forall_mem_cons.mpr ⟨lw_p12, List.forall_mem_cons.mpr ⟨lw_p13, List.forall_mem_cons.mpr ⟨lw_p14, List.forall_mem_cons.mpr ⟨lw_p15, fun _ h => absurd h List.not_mem_nil⟩⟩⟩⟩⟩⟩⟩⟩⟩⟩⟩⟩⟩⟩⟩⟩
theorem lw_p16 : lw_okq (⟨"DeafAuctionModel", "refused", "(I)I"⟩, 32) := ⟨⟨by decide +kernel, by decide +kernel⟩, List.mem_of_getElem? (i := 634) (by decide +kernel), List.mem_of_getElem? (i := 748) (by decide +kernel), List.mem_of_getElem? (i := 749) (by decide +kernel)⟩
theorem lw_p17 : lw_okq (⟨"DeafAuctionModel", "cellsBarred", "(IIIJ)I"⟩, 32) := ⟨⟨by decide +kernel, by decide +kernel⟩, List.mem_of_getElem? (i := 634) (by decide +kernel), List.mem_of_getElem? (i := 753) (by decide +kernel), List.mem_of_getElem? (i := 754) (by decide +kernel)⟩
theorem lw_p18 : lw_okq (⟨"DeafAuctionModel", "failed", "(I)I"⟩, 32) := ⟨⟨by decide +kernel, by decide +kernel⟩, List.mem_of_getElem? (i := 634) (by decide +kernel), List.mem_of_getElem? (i := 757) (by decide +kernel), List.mem_of_getElem? (i := 758) (by decide +kernel)⟩
theorem lw_p19 : lw_okq (⟨"DeafAuctionModel", "readsHall", "(II)Z"⟩, 32) := ⟨⟨by decide +kernel, by decide +kernel⟩, List.mem_of_getElem? (i := 634) (by decide +kernel), List.mem_of_getElem? (i := 764) (by decide +kernel), List.mem_of_getElem? (i := 765) (by decide +kernel)⟩
theorem lw_p20 : lw_okq (⟨"DeafAuctionModel", "codeAt", "(II)I"⟩, 32) := ⟨⟨by decide +kernel, by decide +kernel⟩, List.mem_of_getElem? (i := 634) (by decide +kernel), List.mem_of_getElem? (i := 768) (by decide +kernel), List.mem_of_getElem? (i := 769) (by decide +kernel)⟩
theorem lw_p21 : lw_okq (⟨"DeafAuctionModel", "figure", "(IIII)I"⟩, 32) := ⟨⟨by decide +kernel, by decide +kernel⟩, List.mem_of_getElem? (i := 634) (by decide +kernel), List.mem_of_getElem? (i := 772) (by decide +kernel), List.mem_of_getElem? (i := 773) (by decide +kernel)⟩
theorem lw_p22 : lw_okq (⟨"DeafAuctionModel", "readsBuyer", "(II)Z"⟩, 32) := ⟨⟨by decide +kernel, by decide +kernel⟩, List.mem_of_getElem? (i := 634) (by decide +kernel), List.mem_of_getElem? (i := 776) (by decide +kernel), List.mem_of_getElem? (i := 777) (by decide +kernel)⟩
theorem lw_p23 : lw_okq (⟨"DeafAuctionModel", "noBuyer", "(I)Z"⟩, 32) := ⟨⟨by decide +kernel, by decide +kernel⟩, List.mem_of_getElem? (i := 634) (by decide +kernel), List.mem_of_getElem? (i := 787) (by decide +kernel), List.mem_of_getElem? (i := 788) (by decide +kernel)⟩
theorem lw_p24 : lw_okq (⟨"DeafAuctionModel", "sitDown", "(I)V"⟩, 32) := ⟨⟨by decide +kernel, by decide +kernel⟩, List.mem_of_getElem? (i := 634) (by decide +kernel), List.mem_of_getElem? (i := 791) (by decide +kernel), List.mem_of_getElem? (i := 792) (by decide +kernel)⟩
theorem lw_p25 : lw_okq (⟨"DeafAuctionModel", "isSeen", "(I)Z"⟩, 32) := ⟨⟨by decide +kernel, by decide +kernel⟩, List.mem_of_getElem? (i := 634) (by decide +kernel), List.mem_of_getElem? (i := 798) (by decide +kernel), List.mem_of_getElem? (i := 799) (by decide +kernel)⟩
theorem lw_p26 : lw_okq (⟨"DeafAuctionModel", "isTaken", "(I)Z"⟩, 32) := ⟨⟨by decide +kernel, by decide +kernel⟩, List.mem_of_getElem? (i := 634) (by decide +kernel), List.mem_of_getElem? (i := 802) (by decide +kernel), List.mem_of_getElem? (i := 803) (by decide +kernel)⟩
theorem lw_p27 : lw_okq (⟨"DeafAuctionModel", "limitOf", "(II)I"⟩, 32) := ⟨⟨by decide +kernel, by decide +kernel⟩, List.mem_of_getElem? (i := 634) (by decide +kernel), List.mem_of_getElem? (i := 818) (by decide +kernel), List.mem_of_getElem? (i := 819) (by decide +kernel)⟩
theorem lw_p28 : lw_okq (⟨"DeafAuctionModel", "noSeat", "(I)Z"⟩, 32) := ⟨⟨by decide +kernel, by decide +kernel⟩, List.mem_of_getElem? (i := 634) (by decide +kernel), List.mem_of_getElem? (i := 826) (by decide +kernel), List.mem_of_getElem? (i := 827) (by decide +kernel)⟩
theorem lw_p29 : lw_okq (⟨"DeafAuctionModel", "sitterIn", "(I)I"⟩, 32) := ⟨⟨by decide +kernel, by decide +kernel⟩, List.mem_of_getElem? (i := 634) (by decide +kernel), List.mem_of_getElem? (i := 830) (by decide +kernel), List.mem_of_getElem? (i := 831) (by decide +kernel)⟩
theorem lw_p30 : lw_okq (⟨"DeafAuctionModel", "all", "()I"⟩, 32) := ⟨⟨by decide +kernel, by decide +kernel⟩, List.mem_of_getElem? (i := 634) (by decide +kernel), List.mem_of_getElem? (i := 842) (by decide +kernel), List.mem_of_getElem? (i := 843) (by decide +kernel)⟩
theorem lw_p31 : lw_okq (⟨"DeafAuctionModel", "sellTo", "(II)V"⟩, 32) := ⟨⟨by decide +kernel, by decide +kernel⟩, List.mem_of_getElem? (i := 634) (by decide +kernel), List.mem_of_getElem? (i := 846) (by decide +kernel), List.mem_of_getElem? (i := 847) (by decide +kernel)⟩
def lw_privs_2 : List (MethodName × Nat) := [(⟨"DeafAuctionModel", "refused", "(I)I"⟩, 32), (⟨"DeafAuctionModel", "cellsBarred", "(IIIJ)I"⟩, 32), (⟨"DeafAuctionModel", "failed", "(I)I"⟩, 32), (⟨"DeafAuctionModel", "readsHall", "(II)Z"⟩, 32), (⟨"DeafAuctionModel", "codeAt", "(II)I"⟩, 32), (⟨"DeafAuctionModel", "figure", "(IIII)I"⟩, 32), (⟨"DeafAuctionModel", "readsBuyer", "(II)Z"⟩, 32), (⟨"DeafAuctionModel", "noBuyer", "(I)Z"⟩, 32), (⟨"DeafAuctionModel", "sitDown", "(I)V"⟩, 32), (⟨"DeafAuctionModel", "isSeen", "(I)Z"⟩, 32), (⟨"DeafAuctionModel", "isTaken", "(I)Z"⟩, 32), (⟨"DeafAuctionModel", "limitOf", "(II)I"⟩, 32), (⟨"DeafAuctionModel", "noSeat", "(I)Z"⟩, 32), (⟨"DeafAuctionModel", "sitterIn", "(I)I"⟩, 32), (⟨"DeafAuctionModel", "all", "()I"⟩, 32), (⟨"DeafAuctionModel", "sellTo", "(II)V"⟩, 32)]
theorem lw_r2 : ∀ q ∈ lw_privs_2, lw_okq q := List.forall_mem_cons.mpr ⟨lw_p16, List.forall_mem_cons.mpr ⟨lw_p17, List.forall_mem_cons.mpr ⟨lw_p18, List.forall_mem_cons.mpr ⟨lw_p19, List.forall_mem_cons.mpr ⟨lw_p20, List.forall_mem_cons.mpr ⟨lw_p21, List.forall_mem_cons.mpr ⟨lw_p22, List.forall_mem_cons.mpr ⟨lw_p23, List.forall_mem_cons.mpr ⟨lw_p24, List.forall_mem_cons.mpr ⟨lw_p25, List.forall_mem_cons.mpr ⟨lw_p26, List.forall_mem_cons.mpr ⟨lw_p27, List.forall_mem_cons.mpr ⟨lw_p28, List.forall_mem_cons.mpr ⟨lw_p29, List.forall_mem_cons.mpr ⟨lw_p30, List.forall_mem_cons.mpr ⟨lw_p31, fun _ h => absurd h List.not_mem_nil⟩⟩⟩⟩⟩⟩⟩⟩⟩⟩⟩⟩⟩⟩⟩⟩
theorem lw_p32 : lw_okq (⟨"DeafAuctionModel", "sell", "(II)V"⟩, 32) := ⟨⟨by decide +kernel, by decide +kernel⟩, List.mem_of_getElem? (i := 634) (by decide +kernel), List.mem_of_getElem? (i := 850) (by decide +kernel), List.mem_of_getElem? (i := 851) (by decide +kernel)⟩
theorem lw_p33 : lw_okq (⟨"DeafAuctionModel", "nextBidder", "(II)I"⟩, 32) := ⟨⟨by decide +kernel, by decide +kernel⟩, List.mem_of_getElem? (i := 634) (by decide +kernel), List.mem_of_getElem? (i := 854) (by decide +kernel), List.mem_of_getElem? (i := 855) (by decide +kernel)⟩
theorem lw_p34 : lw_okq (⟨"DeafAuctionModel", "step", "(I)I"⟩, 32) := ⟨⟨by decide +kernel, by decide +kernel⟩, List.mem_of_getElem? (i := 634) (by decide +kernel), List.mem_of_getElem? (i := 858) (by decide +kernel), List.mem_of_getElem? (i := 859) (by decide +kernel)⟩
theorem lw_p35 : lw_okq (⟨"DeafAuctionModel", "brings", "(I)I"⟩, 32) := ⟨⟨by decide +kernel, by decide +kernel⟩, List.mem_of_getElem? (i := 634) (by decide +kernel), List.mem_of_getElem? (i := 874) (by decide +kernel), List.mem_of_getElem? (i := 875) (by decide +kernel)⟩
theorem lw_p36 : lw_okq (⟨"DeafAuctionModel", "gainOf", "(II)I"⟩, 32) := ⟨⟨by decide +kernel, by decide +kernel⟩, List.mem_of_getElem? (i := 634) (by decide +kernel), List.mem_of_getElem? (i := 882) (by decide +kernel), List.mem_of_getElem? (i := 883) (by decide +kernel)⟩
theorem lw_p37 : lw_okq (⟨"DeafAuctionModel", "areSo", "()Z"⟩, 32) := ⟨⟨by decide +kernel, by decide +kernel⟩, List.mem_of_getElem? (i := 634) (by decide +kernel), List.mem_of_getElem? (i := 926) (by decide +kernel), List.mem_of_getElem? (i := 927) (by decide +kernel)⟩
theorem lw_p38 : lw_okq (⟨"DeafAuctionModel", "noCell", "(II)I"⟩, 32) := ⟨⟨by decide +kernel, by decide +kernel⟩, List.mem_of_getElem? (i := 634) (by decide +kernel), List.mem_of_getElem? (i := 946) (by decide +kernel), List.mem_of_getElem? (i := 947) (by decide +kernel)⟩
theorem lw_p39 : lw_okq (⟨"DeafAuctionModel", "failedLong", "(I)J"⟩, 32) := ⟨⟨by decide +kernel, by decide +kernel⟩, List.mem_of_getElem? (i := 634) (by decide +kernel), List.mem_of_getElem? (i := 954) (by decide +kernel), List.mem_of_getElem? (i := 955) (by decide +kernel)⟩
theorem lw_p40 : lw_okq (⟨"DeafAuctionModel", "traced", "(I)V"⟩, 32) := ⟨⟨by decide +kernel, by decide +kernel⟩, List.mem_of_getElem? (i := 634) (by decide +kernel), List.mem_of_getElem? (i := 966) (by decide +kernel), List.mem_of_getElem? (i := 967) (by decide +kernel)⟩
def lw_privs_3 : List (MethodName × Nat) := [(⟨"DeafAuctionModel", "sell", "(II)V"⟩, 32), (⟨"DeafAuctionModel", "nextBidder", "(II)I"⟩, 32), (⟨"DeafAuctionModel", "step", "(I)I"⟩, 32), (⟨"DeafAuctionModel", "brings", "(I)I"⟩, 32), (⟨"DeafAuctionModel", "gainOf", "(II)I"⟩, 32), (⟨"DeafAuctionModel", "areSo", "()Z"⟩, 32), (⟨"DeafAuctionModel", "noCell", "(II)I"⟩, 32), (⟨"DeafAuctionModel", "failedLong", "(I)J"⟩, 32), (⟨"DeafAuctionModel", "traced", "(I)V"⟩, 32)]
theorem lw_r3 : ∀ q ∈ lw_privs_3, lw_okq q := List.forall_mem_cons.mpr ⟨lw_p32, List.forall_mem_cons.mpr ⟨lw_p33, List.forall_mem_cons.mpr ⟨lw_p34, List.forall_mem_cons.mpr ⟨lw_p35, List.forall_mem_cons.mpr ⟨lw_p36, List.forall_mem_cons.mpr ⟨lw_p37, List.forall_mem_cons.mpr ⟨lw_p38, List.forall_mem_cons.mpr ⟨lw_p39, List.forall_mem_cons.mpr ⟨lw_p40, fun _ h => absurd h List.not_mem_nil⟩⟩⟩⟩⟩⟩⟩⟩⟩
def lw_privs : List (MethodName × Nat) := lw_privs_1 ++ (lw_privs_2 ++ (lw_privs_3))
def lw_tbl : List Cond := k2_sels lw_privs ++ tables_1
theorem lw_privs_ok : ∀ q ∈ lw_privs, lw_okq q := by
  show ∀ q ∈ lw_privs_1 ++ (lw_privs_2 ++ (lw_privs_3)), lw_okq q
  exact List.forall_mem_append.mpr ⟨lw_r1, List.forall_mem_append.mpr ⟨lw_r2, lw_r3⟩⟩
-- ===== end of PART A; then your names; then what follows =====
/-! THE CLAIM OUT OF ONE WALK OF THE LAW'S BODY. Your part is whole_start (and what it stands on); all else here is the same for every law, but numbers. -/
def R_law : String := "DeafAuctionLaw"
def lw_P (b : Addr) (xs : List Int32) (args : Array Value) (s : State) : Prop := args = #[.ref b] ∧ s.IntsAt b xs ∧ xs.length ≤ 3072 ∧ (Jvm.Cond.and given_1 narrow_1).before args s = true
def lw_Q (_ : Array Value) (s : State) (o : Outcome) (t : State) : Prop := o = .returned (some (.int 1)) ∧ Framed s o t [] 600000 7302250
def lw_Z (below : List Frame) (a : Array Value) (s : State) : State → Prop := fun t => ∃ o, t.status = .running ∧ Ended t below o ∧ lw_Q a s o t
/-- the law's own end, with 1 on the stack, nothing written that was there before, its room as the claim has it -/
theorem lw_ret {p : Program} {l : Launch} {e : Env} {s : State} {m : MethodId} {below : List Frame} {meth : Method} {c : Code} {b : Nat} (hx : p.tables.exec = Jvm.exec) (hb : c.code = code) (hr : meth.sig.returnType = ret) (hlocks : meth.locks = false) {pc : Nat} {H : Heap} {ls : Array Slot} (hdg : decode code pc = .ok (.ireturn, 1)) : W p l e room_1 s m #[Value.ref b] below meth c H [] 600000 7302250 (lw_Z below #[Value.ref b] s) (F0 m pc ls [.int 1]) := by
  intro T hT X
  obtain ⟨fs, hret, hrun, hended, hW, hframe⟩ := X.leave (v := some (.int 1)) (hlocks := hlocks) (fun h => by rw [hr] at h; cases h)
  have hmeth' : T.vm.method? m = some meth := X.method'
  refine ⟨T.setFrames fs, ?_, .returned (some (.int 1)), hrun, hended, rfl, ⟨_, rfl⟩, hW, hframe⟩
  jvm_step X.here [X.here.top, hx, hb, hdg, hmeth', hr, ret, narrow_b1]
  (try refine ⟨rfl, ?_⟩); (try refine ⟨rfl, ?_⟩)
  first | (intro acts; rw [hret _ acts rfl rfl rfl]) | rw [hret _ _ rfl rfl rfl]
  exact Steps.refl _
/-- what holds at the law's entry: the machine, the code, the tables' words (any of lw_tbl by 'hts w (by decide +kernel)'), the script of L ints xs at the cell b, what the Statement gives of the start (any of its parts by flat_of_before) -/
def lw_At (p : Program) (s : State) (m : MethodId) (meth : Method) (c : Code) (b L : Nat) (xs : Nat → Int32) : Prop :=
  p.tables.exec = Jvm.exec ∧ c.code = code ∧ meth.sig.returnType = ret ∧ c.maxLocals = 4 ∧ s.vm.findClass R_law = some m.cls ∧ (∀ w ∈ lw_tbl, w.before #[Value.ref b] s = true) ∧ va_X b L xs s s.heap ∧ b < s.heap.size ∧ meth.locks = false ∧ (Jvm.Cond.and given_1 narrow_1).before #[Value.ref b] s = true
def RX0 : String := "DeafAuction$Bidding"
def TX0 : u_T := fun k => match k with
  | 0 => ("DeafAuction$Bidding", "room", "LDeafAuction$Room;", true)
  | 1 => ("DeafAuction$Bidding", "places", "[I", true)
  | 2 => ("DeafAuction$Bidding", "purses", "[I", true)
  | 3 => ("DeafAuction$Bidding", "limits", "[I", true)
  | 4 => ("DeafAuction$Bidding", "line", "[I", true)
  | 5 => ("DeafAuction$Bidding", "told", "[I", true)
  | 6 => ("DeafAuction$Bidding", "inLine", "I", false)
  | 7 => ("DeafAuction$Bidding", "hats", "I", false)
  | 8 => ("DeafAuction$Bidding", "taken", "I", false)
  | 9 => ("DeafAuction$Bidding", "twice", "I", false)
  | 10 => ("DeafAuction$Bidding", "price", "I", false)
  | 11 => ("DeafAuction$Bidding", "owner", "I", false)
  | _ => ("DeafAuction$Bidding", "bids", "I", false)
def tyX0 : Nat → FieldType := fun k => match k with
  | 0 => .object "DeafAuction$Room"
  | 1 => .array .int
  | 2 => .array .int
  | 3 => .array .int
  | 4 => .array .int
  | 5 => .array .int
  | 6 => .int
  | 7 => .int
  | 8 => .int
  | 9 => .int
  | 10 => .int
  | 11 => .int
  | _ => .int
abbrev wsX00 : List Cond := u_ws RX0 TX0 13
theorem nmX0 : ∀ a, a < 13 → ∀ b, b < 13 → a ≠ b → (TX0 a).2.1 ≠ (TX0 b).2.1 := by decide +kernel
theorem tyX0_ok : ∀ k, k < 13 → parseFieldDescriptor (TX0 k).2.2.1 = some (tyX0 k) := by decide +kernel
abbrev cX0_init : ByteArray := prog_2_method_1_code
def yX0_init : MethodName := ⟨RX0, "<init>", "(LDeafAuction$Room;)V"⟩
abbrev cX0_gather : ByteArray := prog_2_method_2_code
def yX0_gather : MethodName := ⟨RX0, "gather", "(I)V"⟩
abbrev cX0_offer : ByteArray := prog_2_method_3_code
def yX0_offer : MethodName := ⟨RX0, "offer", "(I)V"⟩
abbrev cX0_silenceAllButFirst : ByteArray := prog_2_method_4_code
def yX0_silenceAllButFirst : MethodName := ⟨RX0, "silenceAllButFirst", "(I)V"⟩
abbrev cX0_hold : ByteArray := prog_2_method_5_code
def yX0_hold : MethodName := ⟨RX0, "hold", "()V"⟩
abbrev cX0_sellOn : ByteArray := prog_2_method_6_code
def yX0_sellOn : MethodName := ⟨RX0, "sellOn", "(I)I"⟩
abbrev cX0_bidOf : ByteArray := prog_2_method_7_code
def yX0_bidOf : MethodName := ⟨RX0, "bidOf", "(I)I"⟩
abbrev cX0_lineUp : ByteArray := prog_2_method_8_code
def yX0_lineUp : MethodName := ⟨RX0, "lineUp", "()V"⟩
abbrev cX0_nextBidder : ByteArray := prog_2_method_9_code
def yX0_nextBidder : MethodName := ⟨RX0, "nextBidder", "()I"⟩
abbrev cX0_riseBy : ByteArray := prog_2_method_10_code
def yX0_riseBy : MethodName := ⟨RX0, "riseBy", "(I)I"⟩
abbrev cX0_isSeen : ByteArray := prog_2_method_11_code
def yX0_isSeen : MethodName := ⟨RX0, "isSeen", "(I)Z"⟩
abbrev cX0_takeBidOf : ByteArray := prog_2_method_12_code
def yX0_takeBidOf : MethodName := ⟨RX0, "takeBidOf", "(I)V"⟩
def RX1 : String := "DeafAuction$Buyer"
def TX1 : u_T := fun k => match k with
  | 0 => ("DeafAuction$Buyer", "number", "I", true)
  | 1 => ("DeafAuction$Buyer", "purse", "I", true)
  | 2 => ("DeafAuction$Buyer", "worths", "[I", true)
  | _ => ("DeafAuction$Buyer", "seat", "I", false)
def tyX1 : Nat → FieldType := fun k => match k with
  | 0 => .int
  | 1 => .int
  | 2 => .array .int
  | _ => .int
abbrev wsX10 : List Cond := u_ws RX1 TX1 4
theorem nmX1 : ∀ a, a < 4 → ∀ b, b < 4 → a ≠ b → (TX1 a).2.1 ≠ (TX1 b).2.1 := by decide +kernel
theorem tyX1_ok : ∀ k, k < 4 → parseFieldDescriptor (TX1 k).2.2.1 = some (tyX1 k) := by decide +kernel
abbrev cX1_init : ByteArray := prog_3_method_1_code
def yX1_init : MethodName := ⟨RX1, "<init>", "(II)V"⟩
abbrev cX1_kind : ByteArray := prog_3_method_2_code
def yX1_kind : MethodName := ⟨RX1, "kind", "()I"⟩
abbrev cX1_wearsHat : ByteArray := prog_3_method_3_code
def yX1_wearsHat : MethodName := ⟨RX1, "wearsHat", "()Z"⟩
abbrev cX1_limitBy : ByteArray := prog_3_method_4_code
def yX1_limitBy : MethodName := ⟨RX1, "limitBy", "(II)I"⟩
abbrev cX1_telling : ByteArray := prog_3_method_5_code
def yX1_telling : MethodName := ⟨RX1, "telling", "(LDeafAuction$Trail;)I"⟩
abbrev cX1_plainTelling : ByteArray := prog_3_method_6_code
def yX1_plainTelling : MethodName := ⟨RX1, "plainTelling", "(LDeafAuction$Trail;)I"⟩
abbrev cX1_nodding : ByteArray := prog_3_method_7_code
def yX1_nodding : MethodName := ⟨RX1, "nodding", "(LDeafAuction$Trail;)I"⟩
def RX2 : String := "DeafAuction$Clerk"
def TX2 : u_T := fun k => match k with
  | 0 => ("DeafAuction$Clerk", "lots", "[I", true)
  | 1 => ("DeafAuction$Clerk", "prices", "[I", true)
  | _ => ("DeafAuction$Clerk", "count", "I", false)
def tyX2 : Nat → FieldType := fun k => match k with
  | 0 => .array .int
  | 1 => .array .int
  | _ => .int
abbrev wsX20 : List Cond := u_ws RX2 TX2 3
theorem nmX2 : ∀ a, a < 3 → ∀ b, b < 3 → a ≠ b → (TX2 a).2.1 ≠ (TX2 b).2.1 := by decide +kernel
theorem tyX2_ok : ∀ k, k < 3 → parseFieldDescriptor (TX2 k).2.2.1 = some (tyX2 k) := by decide +kernel
abbrev cX2_init : ByteArray := prog_4_method_1_code
def yX2_init : MethodName := ⟨RX2, "<init>", "()V"⟩
abbrev cX2_write : ByteArray := prog_4_method_2_code
def yX2_write : MethodName := ⟨RX2, "write", "(II)V"⟩
abbrev cX2_keepOnly : ByteArray := prog_4_method_3_code
def yX2_keepOnly : MethodName := ⟨RX2, "keepOnly", "(I)V"⟩
abbrev cX2_hasOf : ByteArray := prog_4_method_4_code
def yX2_hasOf : MethodName := ⟨RX2, "hasOf", "(I)Z"⟩
abbrev cX2_agrees : ByteArray := prog_4_method_5_code
def yX2_agrees : MethodName := ⟨RX2, "agrees", "(II)Z"⟩
def RX3 : String := "DeafAuction$Hatted"
def TX3 : u_T := fun k => match k with
  | 0 => ("DeafAuction$Buyer", "number", "I", true)
  | 1 => ("DeafAuction$Buyer", "purse", "I", true)
  | 2 => ("DeafAuction$Buyer", "worths", "[I", true)
  | _ => ("DeafAuction$Buyer", "seat", "I", false)
def tyX3 : Nat → FieldType := fun k => match k with
  | 0 => .int
  | 1 => .int
  | 2 => .array .int
  | _ => .int
abbrev wsX30 : List Cond := u_ws RX3 TX3 4
theorem nmX3 : ∀ a, a < 4 → ∀ b, b < 4 → a ≠ b → (TX3 a).2.1 ≠ (TX3 b).2.1 := by decide +kernel
theorem tyX3_ok : ∀ k, k < 4 → parseFieldDescriptor (TX3 k).2.2.1 = some (tyX3 k) := by decide +kernel
abbrev cX3_init : ByteArray := prog_5_method_1_code
def yX3_init : MethodName := ⟨RX3, "<init>", "(II)V"⟩
abbrev cX3_kind : ByteArray := prog_5_method_2_code
def yX3_kind : MethodName := ⟨RX3, "kind", "()I"⟩
abbrev cX3_wearsHat : ByteArray := prog_5_method_3_code
def yX3_wearsHat : MethodName := ⟨RX3, "wearsHat", "()Z"⟩
abbrev cX3_telling : ByteArray := prog_5_method_4_code
def yX3_telling : MethodName := ⟨RX3, "telling", "(LDeafAuction$Trail;)I"⟩
def RX4 : String := "DeafAuction$Nervous"
def TX4 : u_T := fun k => match k with
  | 0 => ("DeafAuction$Buyer", "number", "I", true)
  | 1 => ("DeafAuction$Buyer", "purse", "I", true)
  | 2 => ("DeafAuction$Buyer", "worths", "[I", true)
  | _ => ("DeafAuction$Buyer", "seat", "I", false)
def tyX4 : Nat → FieldType := fun k => match k with
  | 0 => .int
  | 1 => .int
  | 2 => .array .int
  | _ => .int
abbrev wsX40 : List Cond := u_ws RX4 TX4 4
theorem nmX4 : ∀ a, a < 4 → ∀ b, b < 4 → a ≠ b → (TX4 a).2.1 ≠ (TX4 b).2.1 := by decide +kernel
theorem tyX4_ok : ∀ k, k < 4 → parseFieldDescriptor (TX4 k).2.2.1 = some (tyX4 k) := by decide +kernel
abbrev cX4_init : ByteArray := prog_6_method_1_code
def yX4_init : MethodName := ⟨RX4, "<init>", "(II)V"⟩
abbrev cX4_kind : ByteArray := prog_6_method_2_code
def yX4_kind : MethodName := ⟨RX4, "kind", "()I"⟩
abbrev cX4_limitBy : ByteArray := prog_6_method_3_code
def yX4_limitBy : MethodName := ⟨RX4, "limitBy", "(II)I"⟩
abbrev cX4_telling : ByteArray := prog_6_method_4_code
def yX4_telling : MethodName := ⟨RX4, "telling", "(LDeafAuction$Trail;)I"⟩
abbrev cX4_nodding : ByteArray := prog_6_method_5_code
def yX4_nodding : MethodName := ⟨RX4, "nodding", "(LDeafAuction$Trail;)I"⟩
def RX5 : String := "DeafAuction$Room"
def TX5 : u_T := fun k => match k with
  | 0 => ("DeafAuction$Room", "buyers", "[LDeafAuction$Buyer;", true)
  | 1 => ("DeafAuction$Room", "count", "I", false)
  | 2 => ("DeafAuction$Room", "seats", "I", false)
  | 3 => ("DeafAuction$Room", "wide", "I", false)
  | 4 => ("DeafAuction$Room", "deafness", "I", false)
  | 5 => ("DeafAuction$Room", "leftSeats", "I", false)
  | _ => ("DeafAuction$Room", "lastSeats", "I", false)
def tyX5 : Nat → FieldType := fun k => match k with
  | 0 => .array (.object "DeafAuction$Buyer")
  | 1 => .int
  | 2 => .int
  | 3 => .int
  | 4 => .int
  | 5 => .int
  | _ => .int
abbrev wsX50 : List Cond := u_ws RX5 TX5 7
theorem nmX5 : ∀ a, a < 7 → ∀ b, b < 7 → a ≠ b → (TX5 a).2.1 ≠ (TX5 b).2.1 := by decide +kernel
theorem tyX5_ok : ∀ k, k < 7 → parseFieldDescriptor (TX5 k).2.2.1 = some (tyX5 k) := by decide +kernel
abbrev cX5_init : ByteArray := prog_7_method_1_code
def yX5_init : MethodName := ⟨RX5, "<init>", "()V"⟩
abbrev cX5_lay : ByteArray := prog_7_method_2_code
def yX5_lay : MethodName := ⟨RX5, "lay", "(II)V"⟩
abbrev cX5_welcome : ByteArray := prog_7_method_3_code
def yX5_welcome : MethodName := ⟨RX5, "welcome", "(LDeafAuction$Buyer;)V"⟩
abbrev cX5_isThere : ByteArray := prog_7_method_4_code
def yX5_isThere : MethodName := ⟨RX5, "isThere", "()Z"⟩
abbrev cX5_buyerOf : ByteArray := prog_7_method_5_code
def yX5_buyerOf : MethodName := ⟨RX5, "buyerOf", "(I)LDeafAuction$Buyer;"⟩
abbrev cX5_setOfAll : ByteArray := prog_7_method_6_code
def yX5_setOfAll : MethodName := ⟨RX5, "setOfAll", "()I"⟩
abbrev cX5_seatsTwice : ByteArray := prog_7_method_7_code
def yX5_seatsTwice : MethodName := ⟨RX5, "seatsTwice", "()I"⟩
abbrev cX5_isFreeFor : ByteArray := prog_7_method_8_code
def yX5_isFreeFor : MethodName := ⟨RX5, "isFreeFor", "(LDeafAuction$Buyer;I)Z"⟩
abbrev cX5_shows : ByteArray := prog_7_method_9_code
def yX5_shows : MethodName := ⟨RX5, "shows", "(LDeafAuction$Buyer;)Z"⟩
def RX6 : String := "DeafAuction$Sheet"
def TX6 : u_T := fun k => match k with
  | 0 => ("DeafAuction$Sheet", "cells", "[I", true)
  | 1 => ("DeafAuction$Sheet", "lane", "I", false)
  | _ => ("DeafAuction$Sheet", "length", "I", false)
def tyX6 : Nat → FieldType := fun k => match k with
  | 0 => .array .int
  | 1 => .int
  | _ => .int
abbrev wsX60 : List Cond := u_ws RX6 TX6 3
theorem nmX6 : ∀ a, a < 3 → ∀ b, b < 3 → a ≠ b → (TX6 a).2.1 ≠ (TX6 b).2.1 := by decide +kernel
theorem tyX6_ok : ∀ k, k < 3 → parseFieldDescriptor (TX6 k).2.2.1 = some (tyX6 k) := by decide +kernel
abbrev cX6_init : ByteArray := prog_8_method_1_code
def yX6_init : MethodName := ⟨RX6, "<init>", "()V"⟩
abbrev cX6_lay : ByteArray := prog_8_method_2_code
def yX6_lay : MethodName := ⟨RX6, "lay", "(II)V"⟩
abbrev cX6_holds : ByteArray := prog_8_method_3_code
def yX6_holds : MethodName := ⟨RX6, "holds", "(II)Z"⟩
abbrev cX6_faultOfTaking : ByteArray := prog_8_method_4_code
def yX6_faultOfTaking : MethodName := ⟨RX6, "faultOfTaking", "(III)I"⟩
abbrev cX6_at : ByteArray := prog_8_method_5_code
def yX6_at : MethodName := ⟨RX6, "at", "(I)I"⟩
abbrev cX6_write : ByteArray := prog_8_method_6_code
def yX6_write : MethodName := ⟨RX6, "write", "(II)V"⟩
abbrev cX6_cut : ByteArray := prog_8_method_7_code
def yX6_cut : MethodName := ⟨RX6, "cut", "(I)I"⟩
def RX7 : String := "DeafAuction$Trail"
def TX7 : u_T := fun k => match k with
  | _ => ("DeafAuction$Trail", "left", "I", false)
def tyX7 : Nat → FieldType := fun k => match k with
  | _ => .int
abbrev wsX70 : List Cond := u_ws RX7 TX7 1
theorem nmX7 : ∀ a, a < 1 → ∀ b, b < 1 → a ≠ b → (TX7 a).2.1 ≠ (TX7 b).2.1 := by decide +kernel
theorem tyX7_ok : ∀ k, k < 1 → parseFieldDescriptor (TX7 k).2.2.1 = some (tyX7 k) := by decide +kernel
abbrev cX7_init : ByteArray := prog_9_method_1_code
def yX7_init : MethodName := ⟨RX7, "<init>", "()V"⟩
abbrev cX7_leave : ByteArray := prog_9_method_2_code
def yX7_leave : MethodName := ⟨RX7, "leave", "(I)V"⟩
def RX8 : String := "DeafAuction"
def TX8 : u_T := fun k => match k with
  | 0 => ("DeafAuction", "sheets", "[LDeafAuction$Sheet;", true)
  | 1 => ("DeafAuction", "trail", "LDeafAuction$Trail;", true)
  | 2 => ("DeafAuction", "room", "LDeafAuction$Room;", true)
  | 3 => ("DeafAuction", "bidding", "LDeafAuction$Bidding;", true)
  | 4 => ("DeafAuction", "clerk", "LDeafAuction$Clerk;", true)
  | _ => ("DeafAuction", "latestFault", "I", false)
def tyX8 : Nat → FieldType := fun k => match k with
  | 0 => .array (.object "DeafAuction$Sheet")
  | 1 => .object "DeafAuction$Trail"
  | 2 => .object "DeafAuction$Room"
  | 3 => .object "DeafAuction$Bidding"
  | 4 => .object "DeafAuction$Clerk"
  | _ => .int
abbrev wsX80 : List Cond := u_ws RX8 TX8 6
theorem nmX8 : ∀ a, a < 6 → ∀ b, b < 6 → a ≠ b → (TX8 a).2.1 ≠ (TX8 b).2.1 := by decide +kernel
theorem tyX8_ok : ∀ k, k < 6 → parseFieldDescriptor (TX8 k).2.2.1 = some (tyX8 k) := by decide +kernel
abbrev cX8_init : ByteArray := prog_1_method_1_code
def yX8_init : MethodName := ⟨RX8, "<init>", "()V"⟩
abbrev cX8_hall : ByteArray := prog_1_method_2_code
def yX8_hall : MethodName := ⟨RX8, "hall", "(IIII)I"⟩
abbrev cX8_ofBuyer : ByteArray := prog_1_method_3_code
def yX8_ofBuyer : MethodName := ⟨RX8, "ofBuyer", "(II)I"⟩
abbrev cX8_worth : ByteArray := prog_1_method_4_code
def yX8_worth : MethodName := ⟨RX8, "worth", "(III)I"⟩
abbrev cX8_limit : ByteArray := prog_1_method_5_code
def yX8_limit : MethodName := ⟨RX8, "limit", "(II)I"⟩
abbrev cX8_sit : ByteArray := prog_1_method_6_code
def yX8_sit : MethodName := ⟨RX8, "sit", "(II)I"⟩
abbrev cX8_law : ByteArray := prog_1_method_7_code
def yX8_law : MethodName := ⟨RX8, "law", "(I)I"⟩
abbrev cX8_sale : ByteArray := prog_1_method_8_code
def yX8_sale : MethodName := ⟨RX8, "sale", "(II)I"⟩
abbrev cX8_bid : ByteArray := prog_1_method_9_code
def yX8_bid : MethodName := ⟨RX8, "bid", "(II)I"⟩
abbrev cX8_ends : ByteArray := prog_1_method_10_code
def yX8_ends : MethodName := ⟨RX8, "ends", "(II)I"⟩
abbrev cX8_row : ByteArray := prog_1_method_11_code
def yX8_row : MethodName := ⟨RX8, "row", "(IIIII)I"⟩
abbrev cX8_gain : ByteArray := prog_1_method_12_code
def yX8_gain : MethodName := ⟨RX8, "gain", "(II)I"⟩
abbrev cX8_best : ByteArray := prog_1_method_13_code
def yX8_best : MethodName := ⟨RX8, "best", "(III)I"⟩
abbrev cX8_order : ByteArray := prog_1_method_14_code
def yX8_order : MethodName := ⟨RX8, "order", "(I)I"⟩
abbrev cX8_ring : ByteArray := prog_1_method_15_code
def yX8_ring : MethodName := ⟨RX8, "ring", "(II)I"⟩
abbrev cX8_mean : ByteArray := prog_1_method_16_code
def yX8_mean : MethodName := ⟨RX8, "mean", "(II)J"⟩
abbrev cX8_hangs : ByteArray := prog_1_method_17_code
def yX8_hangs : MethodName := ⟨RX8, "hangs", "(I)I"⟩
abbrev cX8_reading : ByteArray := prog_1_method_18_code
def yX8_reading : MethodName := ⟨RX8, "reading", "(II)I"⟩
abbrev cX8_back : ByteArray := prog_1_method_19_code
def yX8_back : MethodName := ⟨RX8, "back", "(I)I"⟩
abbrev cX8_values : ByteArray := prog_1_method_20_code
def yX8_values : MethodName := ⟨RX8, "values", "(III)I"⟩
abbrev cX8_places : ByteArray := prog_1_method_21_code
def yX8_places : MethodName := ⟨RX8, "places", "(I)I"⟩
abbrev cX8_sheet : ByteArray := prog_1_method_22_code
def yX8_sheet : MethodName := ⟨RX8, "sheet", "(III)I"⟩
abbrev cX8_lose : ByteArray := prog_1_method_23_code
def yX8_lose : MethodName := ⟨RX8, "lose", "(I)I"⟩
abbrev cX8_put : ByteArray := prog_1_method_24_code
def yX8_put : MethodName := ⟨RX8, "put", "(III)I"⟩
abbrev cX8_cell : ByteArray := prog_1_method_25_code
def yX8_cell : MethodName := ⟨RX8, "cell", "(III)J"⟩
abbrev cX8_copy : ByteArray := prog_1_method_26_code
def yX8_copy : MethodName := ⟨RX8, "copy", "(IIIII)I"⟩
abbrev cX8_tell : ByteArray := prog_1_method_27_code
def yX8_tell : MethodName := ⟨RX8, "tell", "(I)I"⟩
abbrev cX8_nod : ByteArray := prog_1_method_28_code
def yX8_nod : MethodName := ⟨RX8, "nod", "(I)I"⟩
abbrev cX8_as : ByteArray := prog_1_method_29_code
def yX8_as : MethodName := ⟨RX8, "as", "(II)I"⟩
abbrev cX8_trace : ByteArray := prog_1_method_30_code
def yX8_trace : MethodName := ⟨RX8, "trace", "()I"⟩
abbrev cX8_fault : ByteArray := prog_1_method_31_code
def yX8_fault : MethodName := ⟨RX8, "fault", "()I"⟩
abbrev cX8_many : ByteArray := prog_1_method_32_code
def yX8_many : MethodName := ⟨RX8, "many", "(I)I"⟩
abbrev cX8_isBelow : ByteArray := prog_1_method_33_code
def yX8_isBelow : MethodName := ⟨RX8, "isBelow", "(II)Z"⟩
abbrev cX8_isIn : ByteArray := prog_1_method_34_code
def yX8_isIn : MethodName := ⟨RX8, "isIn", "(II)Z"⟩
abbrev cX8_isLot : ByteArray := prog_1_method_35_code
def yX8_isLot : MethodName := ⟨RX8, "isLot", "(I)Z"⟩
abbrev cX8_isLane : ByteArray := prog_1_method_36_code
def yX8_isLane : MethodName := ⟨RX8, "isLane", "(I)Z"⟩
abbrev cX8_sheetOf : ByteArray := prog_1_method_37_code
def yX8_sheetOf : MethodName := ⟨RX8, "sheetOf", "(I)LDeafAuction$Sheet;"⟩
abbrev cX8_meet : ByteArray := prog_1_method_38_code
def yX8_meet : MethodName := ⟨RX8, "meet", "(I)I"⟩
abbrev cX8_firstFault : ByteArray := prog_1_method_39_code
def yX8_firstFault : MethodName := ⟨RX8, "firstFault", "(LDeafAuction$Sheet;II)I"⟩
abbrev cX8_goesOn : ByteArray := prog_1_method_40_code
def yX8_goesOn : MethodName := ⟨RX8, "goesOn", "(LDeafAuction$Sheet;II)Z"⟩
abbrev cX8_isAmong : ByteArray := prog_1_method_41_code
def yX8_isAmong : MethodName := ⟨RX8, "isAmong", "(III)Z"⟩
abbrev cX8_isOneMoreLetIn : ByteArray := prog_1_method_42_code
def yX8_isOneMoreLetIn : MethodName := ⟨RX8, "isOneMoreLetIn", "(LDeafAuction$Sheet;II)Z"⟩
abbrev cX8_digitAt : ByteArray := prog_1_method_43_code
def yX8_digitAt : MethodName := ⟨RX8, "digitAt", "(LDeafAuction$Sheet;I)I"⟩
abbrev cX8_fillRoom : ByteArray := prog_1_method_44_code
def yX8_fillRoom : MethodName := ⟨RX8, "fillRoom", "(LDeafAuction$Sheet;II)V"⟩
abbrev cX8_buyerBy : ByteArray := prog_1_method_45_code
def yX8_buyerBy : MethodName := ⟨RX8, "buyerBy", "(III)LDeafAuction$Buyer;"⟩
abbrev cX8_sellTo : ByteArray := prog_1_method_46_code
def yX8_sellTo : MethodName := ⟨RX8, "sellTo", "(II)V"⟩
abbrev cX8_sellFrom : ByteArray := prog_1_method_47_code
def yX8_sellFrom : MethodName := ⟨RX8, "sellFrom", "(III)V"⟩
abbrev cX8_gainFrom : ByteArray := prog_1_method_48_code
def yX8_gainFrom : MethodName := ⟨RX8, "gainFrom", "(LDeafAuction$Buyer;II)I"⟩
abbrev cX8_areLotsOnce : ByteArray := prog_1_method_49_code
def yX8_areLotsOnce : MethodName := ⟨RX8, "areLotsOnce", "(LDeafAuction$Sheet;II)Z"⟩
abbrev cX8_sellRow : ByteArray := prog_1_method_50_code
def yX8_sellRow : MethodName := ⟨RX8, "sellRow", "(LDeafAuction$Sheet;II)I"⟩
abbrev cX8_lotOfOrder : ByteArray := prog_1_method_51_code
def yX8_lotOfOrder : MethodName := ⟨RX8, "lotOfOrder", "(II)I"⟩
abbrev cX8_isEachLotOnce : ByteArray := prog_1_method_52_code
def yX8_isEachLotOnce : MethodName := ⟨RX8, "isEachLotOnce", "(I)Z"⟩
abbrev cX8_sellOrder : ByteArray := prog_1_method_53_code
def yX8_sellOrder : MethodName := ⟨RX8, "sellOrder", "(I)I"⟩
abbrev cX8_areReadingsSo : ByteArray := prog_1_method_54_code
def yX8_areReadingsSo : MethodName := ⟨RX8, "areReadingsSo", "(III)Z"⟩
abbrev cX8_isReadingSo : ByteArray := prog_1_method_55_code
def yX8_isReadingSo : MethodName := ⟨RX8, "isReadingSo", "(III)Z"⟩
def RX9 : String := "DeafAuctionModel"
def TX9 : u_T := fun k => match k with
  | 0 => ("DeafAuctionModel", "fault", "I", false)
  | 1 => ("DeafAuctionModel", "rows", "I", false)
  | 2 => ("DeafAuctionModel", "wide", "I", false)
  | 3 => ("DeafAuctionModel", "buyers", "I", false)
  | 4 => ("DeafAuctionModel", "kindOf", "[I", true)
  | 5 => ("DeafAuctionModel", "purseOf", "[I", true)
  | 6 => ("DeafAuctionModel", "seatOf", "[I", true)
  | 7 => ("DeafAuctionModel", "worthOf", "[I", true)
  | 8 => ("DeafAuctionModel", "lawNow", "I", false)
  | 9 => ("DeafAuctionModel", "readAt", "I", false)
  | 10 => ("DeafAuctionModel", "readRows", "I", false)
  | 11 => ("DeafAuctionModel", "readWide", "I", false)
  | 12 => ("DeafAuctionModel", "readBuyers", "I", false)
  | 13 => ("DeafAuctionModel", "readKind", "[I", true)
  | 14 => ("DeafAuctionModel", "readPurse", "[I", true)
  | 15 => ("DeafAuctionModel", "sits", "[I", true)
  | 16 => ("DeafAuctionModel", "price", "I", false)
  | 17 => ("DeafAuctionModel", "owner", "I", false)
  | 18 => ("DeafAuctionModel", "bids", "I", false)
  | 19 => ("DeafAuctionModel", "bidOf", "[I", true)
  | 20 => ("DeafAuctionModel", "lotRow", "[I", true)
  | 21 => ("DeafAuctionModel", "purseWas", "[I", true)
  | 22 => ("DeafAuctionModel", "purseLeft", "[I", true)
  | 23 => ("DeafAuctionModel", "bestRow", "[I", true)
  | 24 => ("DeafAuctionModel", "readings", "I", false)
  | 25 => ("DeafAuctionModel", "readingOf", "[I", true)
  | 26 => ("DeafAuctionModel", "readingTo", "[I", true)
  | 27 => ("DeafAuctionModel", "sheetSize", "[I", true)
  | 28 => ("DeafAuctionModel", "sheetLane", "[I", true)
  | 29 => ("DeafAuctionModel", "sheet", "[I", true)
  | 30 => ("DeafAuctionModel", "hands", "[I", true)
  | _ => ("DeafAuctionModel", "traceNow", "I", false)
def tyX9 : Nat → FieldType := fun k => match k with
  | 0 => .int
  | 1 => .int
  | 2 => .int
  | 3 => .int
  | 4 => .array .int
  | 5 => .array .int
  | 6 => .array .int
  | 7 => .array .int
  | 8 => .int
  | 9 => .int
  | 10 => .int
  | 11 => .int
  | 12 => .int
  | 13 => .array .int
  | 14 => .array .int
  | 15 => .array .int
  | 16 => .int
  | 17 => .int
  | 18 => .int
  | 19 => .array .int
  | 20 => .array .int
  | 21 => .array .int
  | 22 => .array .int
  | 23 => .array .int
  | 24 => .int
  | 25 => .array .int
  | 26 => .array .int
  | 27 => .array .int
  | 28 => .array .int
  | 29 => .array .int
  | 30 => .array .int
  | _ => .int
abbrev wsX90 : List Cond := u_ws RX9 TX9 32
theorem nmX9 : ∀ a, a < 32 → ∀ b, b < 32 → a ≠ b → (TX9 a).2.1 ≠ (TX9 b).2.1 := by decide +kernel
theorem tyX9_ok : ∀ k, k < 32 → parseFieldDescriptor (TX9 k).2.2.1 = some (tyX9 k) := by decide +kernel
abbrev cX9_init : ByteArray := prog_11_method_1_code
def yX9_init : MethodName := ⟨RX9, "<init>", "()V"⟩
abbrev cX9_in : ByteArray := prog_11_method_2_code
def yX9_in : MethodName := ⟨RX9, "in", "(JJJ)Z"⟩
abbrev cX9_lost : ByteArray := prog_11_method_3_code
def yX9_lost : MethodName := ⟨RX9, "lost", "()J"⟩
abbrev cX9_isIn : ByteArray := prog_11_method_4_code
def yX9_isIn : MethodName := ⟨RX9, "isIn", "(II)Z"⟩
abbrev cX9_lesser : ByteArray := prog_11_method_5_code
def yX9_lesser : MethodName := ⟨RX9, "lesser", "(II)I"⟩
abbrev cX9_told : ByteArray := prog_11_method_6_code
def yX9_told : MethodName := ⟨RX9, "told", "(JJI)J"⟩
abbrev cX9_refused : ByteArray := prog_11_method_7_code
def yX9_refused : MethodName := ⟨RX9, "refused", "(I)I"⟩
abbrev cX9_failed : ByteArray := prog_11_method_8_code
def yX9_failed : MethodName := ⟨RX9, "failed", "(I)I"⟩
abbrev cX9_failedLong : ByteArray := prog_11_method_9_code
def yX9_failedLong : MethodName := ⟨RX9, "failedLong", "(I)J"⟩
abbrev cX9_noSeat : ByteArray := prog_11_method_10_code
def yX9_noSeat : MethodName := ⟨RX9, "noSeat", "(I)Z"⟩
abbrev cX9_noBuyer : ByteArray := prog_11_method_11_code
def yX9_noBuyer : MethodName := ⟨RX9, "noBuyer", "(I)Z"⟩
abbrev cX9_noLot : ByteArray := prog_11_method_12_code
def yX9_noLot : MethodName := ⟨RX9, "noLot", "(I)Z"⟩
abbrev cX9_codeAt : ByteArray := prog_11_method_13_code
def yX9_codeAt : MethodName := ⟨RX9, "codeAt", "(II)I"⟩
abbrev cX9_figure : ByteArray := prog_11_method_14_code
def yX9_figure : MethodName := ⟨RX9, "figure", "(IIII)I"⟩
abbrev cX9_readsBuyer : ByteArray := prog_11_method_15_code
def yX9_readsBuyer : MethodName := ⟨RX9, "readsBuyer", "(II)Z"⟩
abbrev cX9_readsHall : ByteArray := prog_11_method_16_code
def yX9_readsHall : MethodName := ⟨RX9, "readsHall", "(II)Z"⟩
abbrev cX9_cellsBarred : ByteArray := prog_11_method_17_code
def yX9_cellsBarred : MethodName := ⟨RX9, "cellsBarred", "(IIIJ)I"⟩
abbrev cX9_hall : ByteArray := prog_11_method_18_code
def yX9_hall : MethodName := ⟨RX9, "hall", "(IIII)I"⟩
abbrev cX9_ofBuyer : ByteArray := prog_11_method_19_code
def yX9_ofBuyer : MethodName := ⟨RX9, "ofBuyer", "(II)I"⟩
abbrev cX9_worth : ByteArray := prog_11_method_20_code
def yX9_worth : MethodName := ⟨RX9, "worth", "(III)I"⟩
abbrev cX9_limitOf : ByteArray := prog_11_method_21_code
def yX9_limitOf : MethodName := ⟨RX9, "limitOf", "(II)I"⟩
abbrev cX9_limit : ByteArray := prog_11_method_22_code
def yX9_limit : MethodName := ⟨RX9, "limit", "(II)I"⟩
abbrev cX9_sitterIn : ByteArray := prog_11_method_23_code
def yX9_sitterIn : MethodName := ⟨RX9, "sitterIn", "(I)I"⟩
abbrev cX9_sit : ByteArray := prog_11_method_24_code
def yX9_sit : MethodName := ⟨RX9, "sit", "(II)I"⟩
abbrev cX9_law : ByteArray := prog_11_method_25_code
def yX9_law : MethodName := ⟨RX9, "law", "(I)I"⟩
abbrev cX9_sitDown : ByteArray := prog_11_method_26_code
def yX9_sitDown : MethodName := ⟨RX9, "sitDown", "(I)V"⟩
abbrev cX9_isTaken : ByteArray := prog_11_method_27_code
def yX9_isTaken : MethodName := ⟨RX9, "isTaken", "(I)Z"⟩
abbrev cX9_isSeen : ByteArray := prog_11_method_28_code
def yX9_isSeen : MethodName := ⟨RX9, "isSeen", "(I)Z"⟩
abbrev cX9_step : ByteArray := prog_11_method_29_code
def yX9_step : MethodName := ⟨RX9, "step", "(I)I"⟩
abbrev cX9_nextBidder : ByteArray := prog_11_method_30_code
def yX9_nextBidder : MethodName := ⟨RX9, "nextBidder", "(II)I"⟩
abbrev cX9_sell : ByteArray := prog_11_method_31_code
def yX9_sell : MethodName := ⟨RX9, "sell", "(II)V"⟩
abbrev cX9_all : ByteArray := prog_11_method_32_code
def yX9_all : MethodName := ⟨RX9, "all", "()I"⟩
abbrev cX9_sellTo : ByteArray := prog_11_method_33_code
def yX9_sellTo : MethodName := ⟨RX9, "sellTo", "(II)V"⟩
abbrev cX9_sale : ByteArray := prog_11_method_34_code
def yX9_sale : MethodName := ⟨RX9, "sale", "(II)I"⟩
abbrev cX9_bid : ByteArray := prog_11_method_35_code
def yX9_bid : MethodName := ⟨RX9, "bid", "(II)I"⟩
abbrev cX9_ends : ByteArray := prog_11_method_36_code
def yX9_ends : MethodName := ⟨RX9, "ends", "(II)I"⟩
abbrev cX9_brings : ByteArray := prog_11_method_37_code
def yX9_brings : MethodName := ⟨RX9, "brings", "(I)I"⟩
abbrev cX9_row : ByteArray := prog_11_method_38_code
def yX9_row : MethodName := ⟨RX9, "row", "(IIIII)I"⟩
abbrev cX9_gainOf : ByteArray := prog_11_method_39_code
def yX9_gainOf : MethodName := ⟨RX9, "gainOf", "(II)I"⟩
abbrev cX9_gain : ByteArray := prog_11_method_40_code
def yX9_gain : MethodName := ⟨RX9, "gain", "(II)I"⟩
abbrev cX9_best : ByteArray := prog_11_method_41_code
def yX9_best : MethodName := ⟨RX9, "best", "(III)I"⟩
abbrev cX9_order : ByteArray := prog_11_method_42_code
def yX9_order : MethodName := ⟨RX9, "order", "(I)I"⟩
abbrev cX9_ring : ByteArray := prog_11_method_43_code
def yX9_ring : MethodName := ⟨RX9, "ring", "(II)I"⟩
abbrev cX9_mean : ByteArray := prog_11_method_44_code
def yX9_mean : MethodName := ⟨RX9, "mean", "(II)J"⟩
abbrev cX9_hangs : ByteArray := prog_11_method_45_code
def yX9_hangs : MethodName := ⟨RX9, "hangs", "(I)I"⟩
abbrev cX9_reading : ByteArray := prog_11_method_46_code
def yX9_reading : MethodName := ⟨RX9, "reading", "(II)I"⟩
abbrev cX9_back : ByteArray := prog_11_method_47_code
def yX9_back : MethodName := ⟨RX9, "back", "(I)I"⟩
abbrev cX9_areSo : ByteArray := prog_11_method_48_code
def yX9_areSo : MethodName := ⟨RX9, "areSo", "()Z"⟩
abbrev cX9_values : ByteArray := prog_11_method_49_code
def yX9_values : MethodName := ⟨RX9, "values", "(III)I"⟩
abbrev cX9_places : ByteArray := prog_11_method_50_code
def yX9_places : MethodName := ⟨RX9, "places", "(I)I"⟩
abbrev cX9_noSheet : ByteArray := prog_11_method_51_code
def yX9_noSheet : MethodName := ⟨RX9, "noSheet", "(I)Z"⟩
abbrev cX9_sheet : ByteArray := prog_11_method_52_code
def yX9_sheet : MethodName := ⟨RX9, "sheet", "(III)I"⟩
abbrev cX9_lose : ByteArray := prog_11_method_53_code
def yX9_lose : MethodName := ⟨RX9, "lose", "(I)I"⟩
abbrev cX9_noCell : ByteArray := prog_11_method_54_code
def yX9_noCell : MethodName := ⟨RX9, "noCell", "(II)I"⟩
abbrev cX9_put : ByteArray := prog_11_method_55_code
def yX9_put : MethodName := ⟨RX9, "put", "(III)I"⟩
abbrev cX9_cell : ByteArray := prog_11_method_56_code
def yX9_cell : MethodName := ⟨RX9, "cell", "(III)J"⟩
abbrev cX9_isBeyond : ByteArray := prog_11_method_57_code
def yX9_isBeyond : MethodName := ⟨RX9, "isBeyond", "(IJI)Z"⟩
abbrev cX9_copy : ByteArray := prog_11_method_58_code
def yX9_copy : MethodName := ⟨RX9, "copy", "(IIIII)I"⟩
abbrev cX9_traced : ByteArray := prog_11_method_59_code
def yX9_traced : MethodName := ⟨RX9, "traced", "(I)V"⟩
abbrev cX9_tell : ByteArray := prog_11_method_60_code
def yX9_tell : MethodName := ⟨RX9, "tell", "(I)I"⟩
abbrev cX9_nod : ByteArray := prog_11_method_61_code
def yX9_nod : MethodName := ⟨RX9, "nod", "(I)I"⟩
abbrev cX9_as : ByteArray := prog_11_method_62_code
def yX9_as : MethodName := ⟨RX9, "as", "(II)I"⟩
abbrev cX9_trace : ByteArray := prog_11_method_63_code
def yX9_trace : MethodName := ⟨RX9, "trace", "()I"⟩
abbrev cX9_fault : ByteArray := prog_11_method_64_code
def yX9_fault : MethodName := ⟨RX9, "fault", "()I"⟩
abbrev cX9_many : ByteArray := prog_11_method_65_code
def yX9_many : MethodName := ⟨RX9, "many", "(I)I"⟩
def RJ9 : String := "java/lang/Math"
def TJ9 : u_T := fun k => match k with
  | _ => ("", "", "", false)
def tyJ9 : Nat → FieldType := fun k => match k with
  | _ => .int
abbrev wsJ90 : List Cond := u_ws RJ9 TJ9 0
theorem nmJ9 : ∀ a, a < 0 → ∀ b, b < 0 → a ≠ b → (TJ9 a).2.1 ≠ (TJ9 b).2.1 := by decide +kernel
theorem tyJ9_ok : ∀ k, k < 0 → parseFieldDescriptor (TJ9 k).2.2.1 = some (tyJ9 k) := by decide +kernel
abbrev cJ9_max_7cf53 : ByteArray := prog_12_method_65_code
def yJ9_max_7cf53 : MethodName := ⟨RJ9, "max", "(II)I"⟩
abbrev cJ9_min_7cf53 : ByteArray := prog_12_method_69_code
def yJ9_min_7cf53 : MethodName := ⟨RJ9, "min", "(II)I"⟩
def RJ10 : String := "java/lang/System"
def TJ10 : u_T := fun k => match k with
  | _ => ("", "", "", false)
def tyJ10 : Nat → FieldType := fun k => match k with
  | _ => .int
abbrev wsJ100 : List Cond := u_ws RJ10 TJ10 0
theorem nmJ10 : ∀ a, a < 0 → ∀ b, b < 0 → a ≠ b → (TJ10 a).2.1 ≠ (TJ10 b).2.1 := by decide +kernel
theorem tyJ10_ok : ∀ k, k < 0 → parseFieldDescriptor (TJ10 k).2.2.1 = some (tyJ10 k) := by decide +kernel
def RL : String := "DeafAuctionLaw"
abbrev cL_law : ByteArray := code
def yL_law : MethodName := ⟨RL, "law", "([I)Z"⟩
abbrev vwCl : List vw_C := [(RX0, TX0, 13), (RX1, TX1, 4), (RX2, TX2, 3), (RX3, TX3, 4), (RX4, TX4, 4), (RX5, TX5, 7), (RX6, TX6, 3), (RX7, TX7, 1), (RX8, TX8, 6), (RX9, TX9, 32)]
