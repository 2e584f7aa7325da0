section
-- ===== PART A: goes FIRST, ahead of the names: the tables' words, and 'selects' of the private methods out of them =====
/-- a private method of a class that the tables say can be made, by its rows of tables_1 -/
def lw_okq (q : MethodName × Nat) : Prop := (q.1.cls ≠ "java/lang/invoke/MethodHandle" ∧ q.1.cls ≠ "java/lang/invoke/VarHandle") ∧ Cond.instantiable q.1.cls q.2 ∈ tables_1 ∧ Cond.privateMethod q.1 ∈ tables_1 ∧ Cond.instanceMethod q.1 ∈ tables_1
theorem lw_p0 : lw_okq (⟨"DeafAuction", "sheetOf", "(I)LDeafAuction$Sheet;"⟩, 6) := ⟨⟨by decide +kernel, by decide +kernel⟩, List.mem_of_getElem? (i := 14) (by decide +kernel), List.mem_of_getElem? (i := 180) (by decide +kernel), List.mem_of_getElem? (i := 181) (by decide +kernel)⟩
theorem lw_p1 : lw_okq (⟨"DeafAuction", "meet", "(I)I"⟩, 6) := ⟨⟨by decide +kernel, by decide +kernel⟩, List.mem_of_getElem? (i := 14) (by decide +kernel), List.mem_of_getElem? (i := 198) (by decide +kernel), List.mem_of_getElem? (i := 199) (by decide +kernel)⟩
theorem lw_p2 : lw_okq (⟨"DeafAuction", "fillRoom", "(LDeafAuction$Sheet;II)V"⟩, 6) := ⟨⟨by decide +kernel, by decide +kernel⟩, List.mem_of_getElem? (i := 14) (by decide +kernel), List.mem_of_getElem? (i := 222) (by decide +kernel), List.mem_of_getElem? (i := 223) (by decide +kernel)⟩
theorem lw_p3 : lw_okq (⟨"DeafAuction", "sellTo", "(II)V"⟩, 6) := ⟨⟨by decide +kernel, by decide +kernel⟩, List.mem_of_getElem? (i := 14) (by decide +kernel), List.mem_of_getElem? (i := 372) (by decide +kernel), List.mem_of_getElem? (i := 373) (by decide +kernel)⟩
theorem lw_p4 : lw_okq (⟨"DeafAuction$Bidding", "lineUp", "()V"⟩, 13) := ⟨⟨by decide +kernel, by decide +kernel⟩, List.mem_of_getElem? (i := 88) (by decide +kernel), List.mem_of_getElem? (i := 399) (by decide +kernel), List.mem_of_getElem? (i := 400) (by decide +kernel)⟩
theorem lw_p5 : lw_okq (⟨"DeafAuction$Bidding", "nextBidder", "()I"⟩, 13) := ⟨⟨by decide +kernel, by decide +kernel⟩, List.mem_of_getElem? (i := 88) (by decide +kernel), List.mem_of_getElem? (i := 403) (by decide +kernel), List.mem_of_getElem? (i := 404) (by decide +kernel)⟩
theorem lw_p6 : lw_okq (⟨"DeafAuction$Bidding", "riseBy", "(I)I"⟩, 13) := ⟨⟨by decide +kernel, by decide +kernel⟩, List.mem_of_getElem? (i := 88) (by decide +kernel), List.mem_of_getElem? (i := 407) (by decide +kernel), List.mem_of_getElem? (i := 408) (by decide +kernel)⟩
theorem lw_p7 : lw_okq (⟨"DeafAuction$Bidding", "isSeen", "(I)Z"⟩, 13) := ⟨⟨by decide +kernel, by decide +kernel⟩, List.mem_of_getElem? (i := 88) (by decide +kernel), List.mem_of_getElem? (i := 411) (by decide +kernel), List.mem_of_getElem? (i := 412) (by decide +kernel)⟩
theorem lw_p8 : lw_okq (⟨"DeafAuction$Bidding", "takeBidOf", "(I)V"⟩, 13) := ⟨⟨by decide +kernel, by decide +kernel⟩, List.mem_of_getElem? (i := 88) (by decide +kernel), List.mem_of_getElem? (i := 415) (by decide +kernel), List.mem_of_getElem? (i := 416) (by decide +kernel)⟩
theorem lw_p9 : lw_okq (⟨"DeafAuction", "sellRow", "(LDeafAuction$Sheet;II)I"⟩, 6) := ⟨⟨by decide +kernel, by decide +kernel⟩, List.mem_of_getElem? (i := 14) (by decide +kernel), List.mem_of_getElem? (i := 439) (by decide +kernel), List.mem_of_getElem? (i := 440) (by decide +kernel)⟩
theorem lw_p10 : lw_okq (⟨"DeafAuction", "gainFrom", "(LDeafAuction$Buyer;II)I"⟩, 6) := ⟨⟨by decide +kernel, by decide +kernel⟩, List.mem_of_getElem? (i := 14) (by decide +kernel), List.mem_of_getElem? (i := 453) (by decide +kernel), List.mem_of_getElem? (i := 454) (by decide +kernel)⟩
theorem lw_p11 : lw_okq (⟨"DeafAuction", "sellFrom", "(III)V"⟩, 6) := ⟨⟨by decide +kernel, by decide +kernel⟩, List.mem_of_getElem? (i := 14) (by decide +kernel), List.mem_of_getElem? (i := 457) (by decide +kernel), List.mem_of_getElem? (i := 458) (by decide +kernel)⟩
theorem lw_p12 : lw_okq (⟨"DeafAuction", "sellOrder", "(I)I"⟩, 6) := ⟨⟨by decide +kernel, by decide +kernel⟩, List.mem_of_getElem? (i := 14) (by decide +kernel), List.mem_of_getElem? (i := 475) (by decide +kernel), List.mem_of_getElem? (i := 476) (by decide +kernel)⟩
theorem lw_p13 : lw_okq (⟨"DeafAuction", "areReadingsSo", "(III)Z"⟩, 6) := ⟨⟨by decide +kernel, by decide +kernel⟩, List.mem_of_getElem? (i := 14) (by decide +kernel), List.mem_of_getElem? (i := 516) (by decide +kernel), List.mem_of_getElem? (i := 517) (by decide +kernel)⟩
theorem lw_p14 : lw_okq (⟨"DeafAuction", "isReadingSo", "(III)Z"⟩, 6) := ⟨⟨by decide +kernel, by decide +kernel⟩, List.mem_of_getElem? (i := 14) (by decide +kernel), List.mem_of_getElem? (i := 528) (by decide +kernel), List.mem_of_getElem? (i := 529) (by decide +kernel)⟩
theorem lw_p15 : lw_okq (⟨"DeafAuction$Sheet", "cut", "(I)I"⟩, 3) := ⟨⟨by decide +kernel, by decide +kernel⟩, List.mem_of_getElem? (i := 23) (by decide +kernel), List.mem_of_getElem? (i := 556) (by decide +kernel), List.mem_of_getElem? (i := 557) (by decide +kernel)⟩
def lw_privs_1 : List (MethodName × Nat) := [(⟨"DeafAuction", "sheetOf", "(I)LDeafAuction$Sheet;"⟩, 6), (⟨"DeafAuction", "meet", "(I)I"⟩, 6), (⟨"DeafAuction", "fillRoom", "(LDeafAuction$Sheet;II)V"⟩, 6), (⟨"DeafAuction", "sellTo", "(II)V"⟩, 6), (⟨"DeafAuction$Bidding", "lineUp", "()V"⟩, 13), (⟨"DeafAuction$Bidding", "nextBidder", "()I"⟩, 13), (⟨"DeafAuction$Bidding", "riseBy", "(I)I"⟩, 13), (⟨"DeafAuction$Bidding", "isSeen", "(I)Z"⟩, 13), (⟨"DeafAuction$Bidding", "takeBidOf", "(I)V"⟩, 13), (⟨"DeafAuction", "sellRow", "(LDeafAuction$Sheet;II)I"⟩, 6), (⟨"DeafAuction", "gainFrom", "(LDeafAuction$Buyer;II)I"⟩, 6), (⟨"DeafAuction", "sellFrom", "(III)V"⟩, 6), (⟨"DeafAuction", "sellOrder", "(I)I"⟩, 6), (⟨"DeafAuction", "areReadingsSo", "(III)Z"⟩, 6), (⟨"DeafAuction", "isReadingSo", "(III)Z"⟩, 6), (⟨"DeafAuction$Sheet", "cut", "(I)I"⟩, 3)]
theorem lw_r1 : ∀ q ∈ lw_privs_1, lw_okq q := List.forall_mem_cons.mpr ⟨lw_p0, List.forall_mem_cons.mpr ⟨lw_p1, List.forall_mem_cons.mpr ⟨lw_p2, List.forall_mem_cons.mpr ⟨lw_p3, List.forall_mem_cons.mpr ⟨lw_p4, List.forall_mem_cons.mpr ⟨lw_p5, List.forall_mem_cons.mpr ⟨lw_p6, List.forall_mem_cons.mpr ⟨lw_p7, List.forall_mem_cons.mpr ⟨lw_p8, List.forall_mem_cons.mpr ⟨lw_p9, List.forall_mem_cons.mpr ⟨lw_p10, List.forall_mem_cons.mpr ⟨lw_p11, List.forall_mem_cons.mpr ⟨lw_p12, List.forall_mem_cons.mpr ⟨lw_p13, List.forall_mem_cons.mpr ⟨lw_p14, List.forall_mem_cons.mpr ⟨lw_p15, fun _ h => absurd h List.not_mem_nil⟩⟩⟩⟩⟩⟩⟩⟩⟩⟩⟩⟩⟩⟩⟩⟩
theorem lw_p16 : lw_okq (⟨"DeafAuctionModel", "refused", "(I)I"⟩, 32) := ⟨⟨by decide +kernel, by decide +kernel⟩, List.mem_of_getElem? (i := 634) (by decide +kernel), List.mem_of_getElem? (i := 748) (by decide +kernel), List.mem_of_getElem? (i := 749) (by decide +kernel)⟩
theorem lw_p17 : lw_okq (⟨"DeafAuctionModel", "cellsBarred", "(IIIJ)I"⟩, 32) := ⟨⟨by decide +kernel, by decide +kernel⟩, List.mem_of_getElem? (i := 634) (by decide +kernel), List.mem_of_getElem? (i := 753) (by decide +kernel), List.mem_of_getElem? (i := 754) (by decide +kernel)⟩
theorem lw_p18 : lw_okq (⟨"DeafAuctionModel", "failed", "(I)I"⟩, 32) := ⟨⟨by decide +kernel, by decide +kernel⟩, List.mem_of_getElem? (i := 634) (by decide +kernel), List.mem_of_getElem? (i := 757) (by decide +kernel), List.mem_of_getElem? (i := 758) (by decide +kernel)⟩
theorem lw_p19 : lw_okq (⟨"DeafAuctionModel", "readsHall", "(II)Z"⟩, 32) := ⟨⟨by decide +kernel, by decide +kernel⟩, List.mem_of_getElem? (i := 634) (by decide +kernel), List.mem_of_getElem? (i := 764) (by decide +kernel), List.mem_of_getElem? (i := 765) (by decide +kernel)⟩
theorem lw_p20 : lw_okq (⟨"DeafAuctionModel", "codeAt", "(II)I"⟩, 32) := ⟨⟨by decide +kernel, by decide +kernel⟩, List.mem_of_getElem? (i := 634) (by decide +kernel), List.mem_of_getElem? (i := 768) (by decide +kernel), List.mem_of_getElem? (i := 769) (by decide +kernel)⟩
theorem lw_p21 : lw_okq (⟨"DeafAuctionModel", "figure", "(IIII)I"⟩, 32) := ⟨⟨by decide +kernel, by decide +kernel⟩, List.mem_of_getElem? (i := 634) (by decide +kernel), List.mem_of_getElem? (i := 772) (by decide +kernel), List.mem_of_getElem? (i := 773) (by decide +kernel)⟩
theorem lw_p22 : lw_okq (⟨"DeafAuctionModel", "readsBuyer", "(II)Z"⟩, 32) := ⟨⟨by decide +kernel, by decide +kernel⟩, List.mem_of_getElem? (i := 634) (by decide +kernel), List.mem_of_getElem? (i := 776) (by decide +kernel), List.mem_of_getElem? (i := 777) (by decide +kernel)⟩
theorem lw_p23 : lw_okq (⟨"DeafAuctionModel", "noBuyer", "(I)Z"⟩, 32) := ⟨⟨by decide +kernel, by decide +kernel⟩, List.mem_of_getElem? (i := 634) (by decide +kernel), List.mem_of_getElem? (i := 787) (by decide +kernel), List.mem_of_getElem? (i := 788) (by decide +kernel)⟩
theorem lw_p24 : lw_okq (⟨"DeafAuctionModel", "sitDown", "(I)V"⟩, 32) := ⟨⟨by decide +kernel, by decide +kernel⟩, List.mem_of_getElem? (i := 634) (by decide +kernel), List.mem_of_getElem? (i := 791) (by decide +kernel), List.mem_of_getElem? (i := 792) (by decide +kernel)⟩
theorem lw_p25 : lw_okq (⟨"DeafAuctionModel", "isSeen", "(I)Z"⟩, 32) := ⟨⟨by decide +kernel, by decide +kernel⟩, List.mem_of_getElem? (i := 634) (by decide +kernel), List.mem_of_getElem? (i := 798) (by decide +kernel), List.mem_of_getElem? (i := 799) (by decide +kernel)⟩
theorem lw_p26 : lw_okq (⟨"DeafAuctionModel", "isTaken", "(I)Z"⟩, 32) := ⟨⟨by decide +kernel, by decide +kernel⟩, List.mem_of_getElem? (i := 634) (by decide +kernel), List.mem_of_getElem? (i := 802) (by decide +kernel), List.mem_of_getElem? (i := 803) (by decide +kernel)⟩
theorem lw_p27 : lw_okq (⟨"DeafAuctionModel", "limitOf", "(II)I"⟩, 32) := ⟨⟨by decide +kernel, by decide +kernel⟩, List.mem_of_getElem? (i := 634) (by decide +kernel), List.mem_of_getElem? (i := 818) (by decide +kernel), List.mem_of_getElem? (i := 819) (by decide +kernel)⟩
theorem lw_p28 : lw_okq (⟨"DeafAuctionModel", "noSeat", "(I)Z"⟩, 32) := ⟨⟨by decide +kernel, by decide +kernel⟩, List.mem_of_getElem? (i := 634) (by decide +kernel), List.mem_of_getElem? (i := 826) (by decide +kernel), List.mem_of_getElem? (i := 827) (by decide +kernel)⟩
theorem lw_p29 : lw_okq (⟨"DeafAuctionModel", "sitterIn", "(I)I"⟩, 32) := ⟨⟨by decide +kernel, by decide +kernel⟩, List.mem_of_getElem? (i := 634) (by decide +kernel), List.mem_of_getElem? (i := 830) (by decide +kernel), List.mem_of_getElem? (i := 831) (by decide +kernel)⟩
theorem lw_p30 : lw_okq (⟨"DeafAuctionModel", "all", "()I"⟩, 32) := ⟨⟨by decide +kernel, by decide +kernel⟩, List.mem_of_getElem? (i := 634) (by decide +kernel), List.mem_of_getElem? (i := 842) (by decide +kernel), List.mem_of_getElem? (i := 843) (by decide +kernel)⟩
theorem lw_p31 : lw_okq (⟨"DeafAuctionModel", "sellTo", "(II)V"⟩, 32) := ⟨⟨by decide +kernel, by decide +kernel⟩, List.mem_of_getElem? (i := 634) (by decide +kernel), List.mem_of_getElem? (i := 846) (by decide +kernel), List.mem_of_getElem? (i := 847) (by decide +kernel)⟩
def lw_privs_2 : List (MethodName × Nat) := [(⟨"DeafAuctionModel", "refused", "(I)I"⟩, 32), (⟨"DeafAuctionModel", "cellsBarred", "(IIIJ)I"⟩, 32), (⟨"DeafAuctionModel", "failed", "(I)I"⟩, 32), (⟨"DeafAuctionModel", "readsHall", "(II)Z"⟩, 32), (⟨"DeafAuctionModel", "codeAt", "(II)I"⟩, 32), (⟨"DeafAuctionModel", "figure", "(IIII)I"⟩, 32), (⟨"DeafAuctionModel", "readsBuyer", "(II)Z"⟩, 32), (⟨"DeafAuctionModel", "noBuyer", "(I)Z"⟩, 32), (⟨"DeafAuctionModel", "sitDown", "(I)V"⟩, 32), (⟨"DeafAuctionModel", "isSeen", "(I)Z"⟩, 32), (⟨"DeafAuctionModel", "isTaken", "(I)Z"⟩, 32), (⟨"DeafAuctionModel", "limitOf", "(II)I"⟩, 32), (⟨"DeafAuctionModel", "noSeat", "(I)Z"⟩, 32), (⟨"DeafAuctionModel", "sitterIn", "(I)I"⟩, 32), (⟨"DeafAuctionModel", "all", "()I"⟩, 32), (⟨"DeafAuctionModel", "sellTo", "(II)V"⟩, 32)]
theorem lw_r2 : ∀ q ∈ lw_privs_2, lw_okq q := List.forall_mem_cons.mpr ⟨lw_p16, List.forall_mem_cons.mpr ⟨lw_p17, List.forall_mem_cons.mpr ⟨lw_p18, List.forall_mem_cons.mpr ⟨lw_p19, List.forall_mem_cons.mpr ⟨lw_p20, List.forall_mem_cons.mpr ⟨lw_p21, List.forall_mem_cons.mpr ⟨lw_p22, List.forall_mem_cons.mpr ⟨lw_p23, List.forall_mem_cons.mpr ⟨lw_p24, List.forall_mem_cons.mpr ⟨lw_p25, List.forall_mem_cons.mpr ⟨lw_p26, List.forall_mem_cons.mpr ⟨lw_p27, List.forall_mem_cons.mpr ⟨lw_p28, List.forall_mem_cons.mpr ⟨lw_p29, List.forall_mem_cons.mpr ⟨lw_p30, List.forall_mem_cons.mpr ⟨lw_p31, fun _ h => absurd h List.not_mem_nil⟩⟩⟩⟩⟩⟩⟩⟩⟩⟩⟩⟩⟩⟩⟩⟩
theorem lw_p32 : lw_okq (⟨"DeafAuctionModel", "sell", "(II)V"⟩, 32) := ⟨⟨by decide +kernel, by decide +kernel⟩, List.mem_of_getElem? (i := 634) (by decide +kernel), List.mem_of_getElem? (i := 850) (by decide +kernel), List.mem_of_getElem? (i := 851) (by decide +kernel)⟩
theorem lw_p33 : lw_okq (⟨"DeafAuctionModel", "nextBidder", "(II)I"⟩, 32) := ⟨⟨by decide +kernel, by decide +kernel⟩, List.mem_of_getElem? (i := 634) (by decide +kernel), List.mem_of_getElem? (i := 854) (by decide +kernel), List.mem_of_getElem? (i := 855) (by decide +kernel)⟩
theorem lw_p34 : lw_okq (⟨"DeafAuctionModel", "step", "(I)I"⟩, 32) := ⟨⟨by decide +kernel, by decide +kernel⟩, List.mem_of_getElem? (i := 634) (by decide +kernel), List.mem_of_getElem? (i := 858) (by decide +kernel), List.mem_of_getElem? (i := 859) (by decide +kernel)⟩
theorem lw_p35 : lw_okq (⟨"DeafAuctionModel", "brings", "(I)I"⟩, 32) := ⟨⟨by decide +kernel, by decide +kernel⟩, List.mem_of_getElem? (i := 634) (by decide +kernel), List.mem_of_getElem? (i := 874) (by decide +kernel), List.mem_of_getElem? (i := 875) (by decide +kernel)⟩
theorem lw_p36 : lw_okq (⟨"DeafAuctionModel", "gainOf", "(II)I"⟩, 32) := ⟨⟨by decide +kernel, by decide +kernel⟩, List.mem_of_getElem? (i := 634) (by decide +kernel), List.mem_of_getElem? (i := 882) (by decide +kernel), List.mem_of_getElem? (i := 883) (by decide +kernel)⟩
theorem lw_p37 : lw_okq (⟨"DeafAuctionModel", "areSo", "()Z"⟩, 32) := ⟨⟨by decide +kernel, by decide +kernel⟩, List.mem_of_getElem? (i := 634) (by decide +kernel), List.mem_of_getElem? (i := 926) (by decide +kernel), List.mem_of_getElem? (i := 927) (by decide +kernel)⟩
theorem lw_p38 : lw_okq (⟨"DeafAuctionModel", "noCell", "(II)I"⟩, 32) := ⟨⟨by decide +kernel, by decide +kernel⟩, List.mem_of_getElem? (i := 634) (by decide +kernel), List.mem_of_getElem? (i := 946) (by decide +kernel), List.mem_of_getElem? (i := 947) (by decide +kernel)⟩
theorem lw_p39 : lw_okq (⟨"DeafAuctionModel", "failedLong", "(I)J"⟩, 32) := ⟨⟨by decide +kernel, by decide +kernel⟩, List.mem_of_getElem? (i := 634) (by decide +kernel), List.mem_of_getElem? (i := 954) (by decide +kernel), List.mem_of_getElem? (i := 955) (by decide +kernel)⟩
theorem lw_p40 : lw_okq (⟨"DeafAuctionModel", "traced", "(I)V"⟩, 32) := ⟨⟨by decide +kernel, by decide +kernel⟩, List.mem_of_getElem? (i := 634) (by decide +kernel), List.mem_of_getElem? (i := 966) (by decide +kernel), List.mem_of_getElem? (i := 967) (by decide +kernel)⟩
def lw_privs_3 : List (MethodName × Nat) := [(⟨"DeafAuctionModel", "sell", "(II)V"⟩, 32), (⟨"DeafAuctionModel", "nextBidder", "(II)I"⟩, 32), (⟨"DeafAuctionModel", "step", "(I)I"⟩, 32), (⟨"DeafAuctionModel", "brings", "(I)I"⟩, 32), (⟨"DeafAuctionModel", "gainOf", "(II)I"⟩, 32), (⟨"DeafAuctionModel", "areSo", "()Z"⟩, 32), (⟨"DeafAuctionModel", "noCell", "(II)I"⟩, 32), (⟨"DeafAuctionModel", "failedLong", "(I)J"⟩, 32), (⟨"DeafAuctionModel", "traced", "(I)V"⟩, 32)]
theorem lw_r3 : ∀ q ∈ lw_privs_3, lw_okq q := List.forall_mem_cons.mpr ⟨lw_p32, List.forall_mem_cons.mpr ⟨lw_p33, List.forall_mem_cons.mpr ⟨lw_p34, List.forall_mem_cons.mpr ⟨lw_p35, List.forall_mem_cons.mpr ⟨lw_p36, List.forall_mem_cons.mpr ⟨lw_p37, List.forall_mem_cons.mpr ⟨lw_p38, List.forall_mem_cons.mpr ⟨lw_p39, List.forall_mem_cons.mpr ⟨lw_p40, fun _ h => absurd h List.not_mem_nil⟩⟩⟩⟩⟩⟩⟩⟩⟩
def lw_privs : List (MethodName × Nat) := lw_privs_1 ++ (lw_privs_2 ++ (lw_privs_3))
def lw_tbl : List Cond := k2_sels lw_privs ++ tables_1
theorem lw_privs_ok : ∀ q ∈ lw_privs, lw_okq q := by
  show ∀ q ∈ lw_privs_1 ++ (lw_privs_2 ++ (lw_privs_3)), lw_okq q
  exact List.forall_mem_append.mpr ⟨lw_r1, List.forall_mem_append.mpr ⟨lw_r2, lw_r3⟩⟩
-- ===== end of PART A; then your names; then what follows =====
/-! THE CLAIM OUT OF ONE WALK OF THE LAW'S BODY. Your part is whole_start (and what it stands on); all else here is the same for every law, but numbers. -/
def R_law : String := "DeafAuctionLaw"
def lw_P (b : Addr) (xs : List Int32) (args : Array Value) (s : State) : Prop := args = #[.ref b] ∧ s.IntsAt b xs ∧ xs.length ≤ 3072 ∧ (Jvm.Cond.and given_1 narrow_1).before args s = true
def lw_Q (_ : Array Value) (s : State) (o : Outcome) (t : State) : Prop := o = .returned (some (.int 1)) ∧ Framed s o t [] 600000 7302250
def lw_Z (below : List Frame) (a : Array Value) (s : State) : State → Prop := fun t => ∃ o, t.status = .running ∧ Ended t below o ∧ lw_Q a s o t
/-- the law's own end, with 1 on the stack, nothing written that was there before, its room as the claim has it -/
theorem lw_ret {p : Program} {l : Launch} {e : Env} {s : State} {m : MethodId} {below : List Frame} {meth : Method} {c : Code} {b : Nat} (hx : p.tables.exec = Jvm.exec) (hb : c.code = code) (hr : meth.sig.returnType = ret) (hlocks : meth.locks = false) {pc : Nat} {H : Heap} {ls : Array Slot} (hdg : decode code pc = .ok (.ireturn, 1)) : W p l e room_1 s m #[Value.ref b] below meth c H [] 600000 7302250 (lw_Z below #[Value.ref b] s) (F0 m pc ls [.int 1]) := by
  intro T hT X
  obtain ⟨fs, hret, hrun, hended, hW, hframe⟩ := X.leave (v := some (.int 1)) (hlocks := hlocks) (fun h => by rw [hr] at h; cases h)
  have hmeth' : T.vm.method? m = some meth := X.method'
  refine ⟨T.setFrames fs, ?_, .returned (some (.int 1)), hrun, hended, rfl, ⟨_, rfl⟩, hW, hframe⟩
  jvm_step X.here [X.here.top, hx, hb, hdg, hmeth', hr, ret, narrow_b1]
  (try refine ⟨rfl, ?_⟩); (try refine ⟨rfl, ?_⟩)
  first | (intro acts; rw [hret _ acts rfl rfl rfl]) | rw [hret _ _ rfl rfl rfl]
  exact Steps.refl _
/-- what holds at the law's entry: the machine, the code, the tables' words (any of lw_tbl by 'hts w (by decide +kernel)'), the script of L ints xs at the cell b, what the Statement gives of the start (any of its parts by flat_of_before) -/
def lw_At (p : Program) (s : State) (m : MethodId) (meth : Method) (c : Code) (b L : Nat) (xs : Nat → Int32) : Prop :=
  p.tables.exec = Jvm.exec ∧ c.code = code ∧ meth.sig.returnType = ret ∧ c.maxLocals = 4 ∧ s.vm.findClass R_law = some m.cls ∧ (∀ w ∈ lw_tbl, w.before #[Value.ref b] s = true) ∧ va_X b L xs s s.heap ∧ b < s.heap.size ∧ meth.locks = false ∧ (Jvm.Cond.and given_1 narrow_1).before #[Value.ref b] s = true
def RX0 : String := "DeafAuction$Bidding"
def TX0 : u_T := fun k => match k with
  | 0 => ("DeafAuction$Bidding", "room", "LDeafAuction$Room;", true)
  | 1 => ("DeafAuction$Bidding", "places", "[I", true)
  | 2 => ("DeafAuction$Bidding", "purses", "[I", true)
  | 3 => ("DeafAuction$Bidding", "limits", "[I", true)
  | 4 => ("DeafAuction$Bidding", "line", "[I", true)
  | 5 => ("DeafAuction$Bidding", "told", "[I", true)
  | 6 => ("DeafAuction$Bidding", "inLine", "I", false)
  | 7 => ("DeafAuction$Bidding", "hats", "I", false)
  | 8 => ("DeafAuction$Bidding", "taken", "I", false)
  | 9 => ("DeafAuction$Bidding", "twice", "I", false)
  | 10 => ("DeafAuction$Bidding", "price", "I", false)
  | 11 => ("DeafAuction$Bidding", "owner", "I", false)
  | _ => ("DeafAuction$Bidding", "bids", "I", false)
def tyX0 : Nat → FieldType := fun k => match k with
  | 0 => .object "DeafAuction$Room"
  | 1 => .array .int
  | 2 => .array .int
  | 3 => .array .int
  | 4 => .array .int
  | 5 => .array .int
  | 6 => .int
  | 7 => .int
  | 8 => .int
  | 9 => .int
  | 10 => .int
  | 11 => .int
  | _ => .int
abbrev wsX00 : List Cond := u_ws RX0 TX0 13
theorem nmX0 : ∀ a, a < 13 → ∀ b, b < 13 → a ≠ b → (TX0 a).2.1 ≠ (TX0 b).2.1 := by decide +kernel
theorem tyX0_ok : ∀ k, k < 13 → parseFieldDescriptor (TX0 k).2.2.1 = some (tyX0 k) := by decide +kernel
abbrev cX0_init : ByteArray := prog_2_method_1_code
def yX0_init : MethodName := ⟨RX0, "<init>", "(LDeafAuction$Room;)V"⟩
abbrev cX0_gather : ByteArray := prog_2_method_2_code
def yX0_gather : MethodName := ⟨RX0, "gather", "(I)V"⟩
abbrev cX0_offer : ByteArray := prog_2_method_3_code
def yX0_offer : MethodName := ⟨RX0, "offer", "(I)V"⟩
abbrev cX0_silenceAllButFirst : ByteArray := prog_2_method_4_code
def yX0_silenceAllButFirst : MethodName := ⟨RX0, "silenceAllButFirst", "(I)V"⟩
abbrev cX0_hold : ByteArray := prog_2_method_5_code
def yX0_hold : MethodName := ⟨RX0, "hold", "()V"⟩
abbrev cX0_sellOn : ByteArray := prog_2_method_6_code
def yX0_sellOn : MethodName := ⟨RX0, "sellOn", "(I)I"⟩
abbrev cX0_bidOf : ByteArray := prog_2_method_7_code
def yX0_bidOf : MethodName := ⟨RX0, "bidOf", "(I)I"⟩
abbrev cX0_lineUp : ByteArray := prog_2_method_8_code
def yX0_lineUp : MethodName := ⟨RX0, "lineUp", "()V"⟩
abbrev cX0_nextBidder : ByteArray := prog_2_method_9_code
def yX0_nextBidder : MethodName := ⟨RX0, "nextBidder", "()I"⟩
abbrev cX0_riseBy : ByteArray := prog_2_method_10_code
def yX0_riseBy : MethodName := ⟨RX0, "riseBy", "(I)I"⟩
abbrev cX0_isSeen : ByteArray := prog_2_method_11_code
def yX0_isSeen : MethodName := ⟨RX0, "isSeen", "(I)Z"⟩
abbrev cX0_takeBidOf : ByteArray := prog_2_method_12_code
def yX0_takeBidOf : MethodName := ⟨RX0, "takeBidOf", "(I)V"⟩
def RX1 : String := "DeafAuction$Buyer"
def TX1 : u_T := fun k => match k with
  | 0 => ("DeafAuction$Buyer", "number", "I", true)
  | 1 => ("DeafAuction$Buyer", "purse", "I", true)
  | 2 => ("DeafAuction$Buyer", "worths", "[I", true)
  | _ => ("DeafAuction$Buyer", "seat", "I", false)
def tyX1 : Nat → FieldType := fun k => match k with
  | 0 => .int
  | 1 => .int
  | 2 => .array .int
  | _ => .int
abbrev wsX10 : List Cond := u_ws RX1 TX1 4
theorem nmX1 : ∀ a, a < 4 → ∀ b, b < 4 → a ≠ b → (TX1 a).2.1 ≠ (TX1 b).2.1 := by decide +kernel
theorem tyX1_ok : ∀ k, k < 4 → parseFieldDescriptor (TX1 k).2.2.1 = some (tyX1 k) := by decide +kernel
abbrev cX1_init : ByteArray := prog_3_method_1_code
def yX1_init : MethodName := ⟨RX1, "<init>", "(II)V"⟩
abbrev cX1_kind : ByteArray := prog_3_method_2_code
def yX1_kind : MethodName := ⟨RX1, "kind", "()I"⟩
abbrev cX1_wearsHat : ByteArray := prog_3_method_3_code
def yX1_wearsHat : MethodName := ⟨RX1, "wearsHat", "()Z"⟩
abbrev cX1_limitBy : ByteArray := prog_3_method_4_code
def yX1_limitBy : MethodName := ⟨RX1, "limitBy", "(II)I"⟩
abbrev cX1_telling : ByteArray := prog_3_method_5_code
def yX1_telling : MethodName := ⟨RX1, "telling", "(LDeafAuction$Trail;)I"⟩
abbrev cX1_plainTelling : ByteArray := prog_3_method_6_code
def yX1_plainTelling : MethodName := ⟨RX1, "plainTelling", "(LDeafAuction$Trail;)I"⟩
abbrev cX1_nodding : ByteArray := prog_3_method_7_code
def yX1_nodding : MethodName := ⟨RX1, "nodding", "(LDeafAuction$Trail;)I"⟩
def RX2 : String := "DeafAuction$Clerk"
def TX2 : u_T := fun k => match k with
  | 0 => ("DeafAuction$Clerk", "lots", "[I", true)
  | 1 => ("DeafAuction$Clerk", "prices", "[I", true)
  | _ => ("DeafAuction$Clerk", "count", "I", false)
def tyX2 : Nat → FieldType := fun k => match k with
  | 0 => .array .int
  | 1 => .array .int
  | _ => .int
abbrev wsX20 : List Cond := u_ws RX2 TX2 3
theorem nmX2 : ∀ a, a < 3 → ∀ b, b < 3 → a ≠ b → (TX2 a).2.1 ≠ (TX2 b).2.1 := by decide +kernel
theorem tyX2_ok : ∀ k, k < 3 → parseFieldDescriptor (TX2 k).2.2.1 = some (tyX2 k) := by decide +kernel
abbrev cX2_init : ByteArray := prog_4_method_1_code
def yX2_init : MethodName := ⟨RX2, "<init>", "()V"⟩
abbrev cX2_write : ByteArray := prog_4_method_2_code
def yX2_write : MethodName := ⟨RX2, "write", "(II)V"⟩
abbrev cX2_keepOnly : ByteArray := prog_4_method_3_code
def yX2_keepOnly : MethodName := ⟨RX2, "keepOnly", "(I)V"⟩
abbrev cX2_hasOf : ByteArray := prog_4_method_4_code
def yX2_hasOf : MethodName := ⟨RX2, "hasOf", "(I)Z"⟩
abbrev cX2_agrees : ByteArray := prog_4_method_5_code
def yX2_agrees : MethodName := ⟨RX2, "agrees", "(II)Z"⟩
def RX3 : String := "DeafAuction$Hatted"
def TX3 : u_T := fun k => match k with
  | 0 => ("DeafAuction$Buyer", "number", "I", true)
  | 1 => ("DeafAuction$Buyer", "purse", "I", true)
  | 2 => ("DeafAuction$Buyer", "worths", "[I", true)
  | _ => ("DeafAuction$Buyer", "seat", "I", false)
def tyX3 : Nat → FieldType := fun k => match k with
  | 0 => .int
  | 1 => .int
  | 2 => .array .int
  | _ => .int
abbrev wsX30 : List Cond := u_ws RX3 TX3 4
theorem nmX3 : ∀ a, a < 4 → ∀ b, b < 4 → a ≠ b → (TX3 a).2.1 ≠ (TX3 b).2.1 := by decide +kernel
theorem tyX3_ok : ∀ k, k < 4 → parseFieldDescriptor (TX3 k).2.2.1 = some (tyX3 k) := by decide +kernel
abbrev cX3_init : ByteArray := prog_5_method_1_code
def yX3_init : MethodName := ⟨RX3, "<init>", "(II)V"⟩
abbrev cX3_kind : ByteArray := prog_5_method_2_code
def yX3_kind : MethodName := ⟨RX3, "kind", "()I"⟩
abbrev cX3_wearsHat : ByteArray := prog_5_method_3_code
def yX3_wearsHat : MethodName := ⟨RX3, "wearsHat", "()Z"⟩
abbrev cX3_telling : ByteArray := prog_5_method_4_code
def yX3_telling : MethodName := ⟨RX3, "telling", "(LDeafAuction$Trail;)I"⟩
def RX4 : String := "DeafAuction$Nervous"
def TX4 : u_T := fun k => match k with
  | 0 => ("DeafAuction$Buyer", "number", "I", true)
  | 1 => ("DeafAuction$Buyer", "purse", "I", true)
  | 2 => ("DeafAuction$Buyer", "worths", "[I", true)
  | _ => ("DeafAuction$Buyer", "seat", "I", false)
def tyX4 : Nat → FieldType := fun k => match k with
  | 0 => .int
  | 1 => .int
  | 2 => .array .int
  | _ => .int
abbrev wsX40 : List Cond := u_ws RX4 TX4 4
theorem nmX4 : ∀ a, a < 4 → ∀ b, b < 4 → a ≠ b → (TX4 a).2.1 ≠ (TX4 b).2.1 := by decide +kernel
theorem tyX4_ok : ∀ k, k < 4 → parseFieldDescriptor (TX4 k).2.2.1 = some (tyX4 k) := by decide +kernel
abbrev cX4_init : ByteArray := prog_6_method_1_code
def yX4_init : MethodName := ⟨RX4, "<init>", "(II)V"⟩
abbrev cX4_kind : ByteArray := prog_6_method_2_code
def yX4_kind : MethodName := ⟨RX4, "kind", "()I"⟩
abbrev cX4_limitBy : ByteArray := prog_6_method_3_code
def yX4_limitBy : MethodName := ⟨RX4, "limitBy", "(II)I"⟩
abbrev cX4_telling : ByteArray := prog_6_method_4_code
def yX4_telling : MethodName := ⟨RX4, "telling", "(LDeafAuction$Trail;)I"⟩
abbrev cX4_nodding : ByteArray := prog_6_method_5_code
def yX4_nodding : MethodName := ⟨RX4, "nodding", "(LDeafAuction$Trail;)I"⟩
def RX5 : String := "DeafAuction$Room"
def TX5 : u_T := fun k => match k with
  | 0 => ("DeafAuction$Room", "buyers", "[LDeafAuction$Buyer;", true)
  | 1 => ("DeafAuction$Room", "count", "I", false)
  | 2 => ("DeafAuction$Room", "seats", "I", false)
  | 3 => ("DeafAuction$Room", "wide", "I", false)
  | 4 => ("DeafAuction$Room", "deafness", "I", false)
  | 5 => ("DeafAuction$Room", "leftSeats", "I", false)
  | _ => ("DeafAuction$Room", "lastSeats", "I", false)
def tyX5 : Nat → FieldType := fun k => match k with
  | 0 => .array (.object "DeafAuction$Buyer")
  | 1 => .int
  | 2 => .int
  | 3 => .int
  | 4 => .int
  | 5 => .int
  | _ => .int
abbrev wsX50 : List Cond := u_ws RX5 TX5 7
theorem nmX5 : ∀ a, a < 7 → ∀ b, b < 7 → a ≠ b → (TX5 a).2.1 ≠ (TX5 b).2.1 := by decide +kernel
theorem tyX5_ok : ∀ k, k < 7 → parseFieldDescriptor (TX5 k).2.2.1 = some (tyX5 k) := by decide +kernel
abbrev cX5_init : ByteArray := prog_7_method_1_code
def yX5_init : MethodName := ⟨RX5, "<init>", "()V"⟩
abbrev cX5_lay : ByteArray := prog_7_method_2_code
def yX5_lay : MethodName := ⟨RX5, "lay", "(II)V"⟩
abbrev cX5_welcome : ByteArray := prog_7_method_3_code
def yX5_welcome : MethodName := ⟨RX5, "welcome", "(LDeafAuction$Buyer;)V"⟩
abbrev cX5_isThere : ByteArray := prog_7_method_4_code
def yX5_isThere : MethodName := ⟨RX5, "isThere", "()Z"⟩
abbrev cX5_buyerOf : ByteArray := prog_7_method_5_code
def yX5_buyerOf : MethodName := ⟨RX5, "buyerOf", "(I)LDeafAuction$Buyer;"⟩
abbrev cX5_setOfAll : ByteArray := prog_7_method_6_code
def yX5_setOfAll : MethodName := ⟨RX5, "setOfAll", "()I"⟩
abbrev cX5_seatsTwice : ByteArray := prog_7_method_7_code
def yX5_seatsTwice : MethodName := ⟨RX5, "seatsTwice", "()I"⟩
abbrev cX5_isFreeFor : ByteArray := prog_7_method_8_code
def yX5_isFreeFor : MethodName := ⟨RX5, "isFreeFor", "(LDeafAuction$Buyer;I)Z"⟩
abbrev cX5_shows : ByteArray := prog_7_method_9_code
def yX5_shows : MethodName := ⟨RX5, "shows", "(LDeafAuction$Buyer;)Z"⟩
def RX6 : String := "DeafAuction$Sheet"
def TX6 : u_T := fun k => match k with
  | 0 => ("DeafAuction$Sheet", "cells", "[I", true)
  | 1 => ("DeafAuction$Sheet", "lane", "I", false)
  | _ => ("DeafAuction$Sheet", "length", "I", false)
def tyX6 : Nat → FieldType := fun k => match k with
  | 0 => .array .int
  | 1 => .int
  | _ => .int
abbrev wsX60 : List Cond := u_ws RX6 TX6 3
theorem nmX6 : ∀ a, a < 3 → ∀ b, b < 3 → a ≠ b → (TX6 a).2.1 ≠ (TX6 b).2.1 := by decide +kernel
theorem tyX6_ok : ∀ k, k < 3 → parseFieldDescriptor (TX6 k).2.2.1 = some (tyX6 k) := by decide +kernel
abbrev cX6_init : ByteArray := prog_8_method_1_code
def yX6_init : MethodName := ⟨RX6, "<init>", "()V"⟩
abbrev cX6_lay : ByteArray := prog_8_method_2_code
def yX6_lay : MethodName := ⟨RX6, "lay", "(II)V"⟩
abbrev cX6_holds : ByteArray := prog_8_method_3_code
def yX6_holds : MethodName := ⟨RX6, "holds", "(II)Z"⟩
abbrev cX6_faultOfTaking : ByteArray := prog_8_method_4_code
def yX6_faultOfTaking : MethodName := ⟨RX6, "faultOfTaking", "(III)I"⟩
abbrev cX6_at : ByteArray := prog_8_method_5_code
def yX6_at : MethodName := ⟨RX6, "at", "(I)I"⟩
abbrev cX6_write : ByteArray := prog_8_method_6_code
def yX6_write : MethodName := ⟨RX6, "write", "(II)V"⟩
abbrev cX6_cut : ByteArray := prog_8_method_7_code
def yX6_cut : MethodName := ⟨RX6, "cut", "(I)I"⟩
def RX7 : String := "DeafAuction$Trail"
def TX7 : u_T := fun k => match k with
  | _ => ("DeafAuction$Trail", "left", "I", false)
def tyX7 : Nat → FieldType := fun k => match k with
  | _ => .int
abbrev wsX70 : List Cond := u_ws RX7 TX7 1
theorem nmX7 : ∀ a, a < 1 → ∀ b, b < 1 → a ≠ b → (TX7 a).2.1 ≠ (TX7 b).2.1 := by decide +kernel
theorem tyX7_ok : ∀ k, k < 1 → parseFieldDescriptor (TX7 k).2.2.1 = some (tyX7 k) := by decide +kernel
abbrev cX7_init : ByteArray := prog_9_method_1_code
def yX7_init : MethodName := ⟨RX7, "<init>", "()V"⟩
abbrev cX7_leave : ByteArray := prog_9_method_2_code
def yX7_leave : MethodName := ⟨RX7, "leave", "(I)V"⟩
def RX8 : String := "DeafAuction"
def TX8 : u_T := fun k => match k with
  | 0 => ("DeafAuction", "sheets", "[LDeafAuction$Sheet;", true)
  | 1 => ("DeafAuction", "trail", "LDeafAuction$Trail;", true)
  | 2 => ("DeafAuction", "room", "LDeafAuction$Room;", true)
  | 3 => ("DeafAuction", "bidding", "LDeafAuction$Bidding;", true)
  | 4 => ("DeafAuction", "clerk", "LDeafAuction$Clerk;", true)
  | _ => ("DeafAuction", "latestFault", "I", false)
def tyX8 : Nat → FieldType := fun k => match k with
  | 0 => .array (.object "DeafAuction$Sheet")
  | 1 => .object "DeafAuction$Trail"
  | 2 => .object "DeafAuction$Room"
  | 3 => .object "DeafAuction$Bidding"
  | 4 => .object "DeafAuction$Clerk"
  | _ => .int
abbrev wsX80 : List Cond := u_ws RX8 TX8 6
theorem nmX8 : ∀ a, a < 6 → ∀ b, b < 6 → a ≠ b → (TX8 a).2.1 ≠ (TX8 b).2.1 := by decide +kernel
theorem tyX8_ok : ∀ k, k < 6 → parseFieldDescriptor (TX8 k).2.2.1 = some (tyX8 k) := by decide +kernel
abbrev cX8_init : ByteArray := prog_1_method_1_code
def yX8_init : MethodName := ⟨RX8, "<init>", "()V"⟩
abbrev cX8_hall : ByteArray := prog_1_method_2_code
def yX8_hall : MethodName := ⟨RX8, "hall", "(IIII)I"⟩
abbrev cX8_ofBuyer : ByteArray := prog_1_method_3_code
def yX8_ofBuyer : MethodName := ⟨RX8, "ofBuyer", "(II)I"⟩
abbrev cX8_worth : ByteArray := prog_1_method_4_code
def yX8_worth : MethodName := ⟨RX8, "worth", "(III)I"⟩
abbrev cX8_limit : ByteArray := prog_1_method_5_code
def yX8_limit : MethodName := ⟨RX8, "limit", "(II)I"⟩
abbrev cX8_sit : ByteArray := prog_1_method_6_code
def yX8_sit : MethodName := ⟨RX8, "sit", "(II)I"⟩
abbrev cX8_law : ByteArray := prog_1_method_7_code
def yX8_law : MethodName := ⟨RX8, "law", "(I)I"⟩
abbrev cX8_sale : ByteArray := prog_1_method_8_code
def yX8_sale : MethodName := ⟨RX8, "sale", "(II)I"⟩
abbrev cX8_bid : ByteArray := prog_1_method_9_code
def yX8_bid : MethodName := ⟨RX8, "bid", "(II)I"⟩
abbrev cX8_ends : ByteArray := prog_1_method_10_code
def yX8_ends : MethodName := ⟨RX8, "ends", "(II)I"⟩
abbrev cX8_row : ByteArray := prog_1_method_11_code
def yX8_row : MethodName := ⟨RX8, "row", "(IIIII)I"⟩
abbrev cX8_gain : ByteArray := prog_1_method_12_code
def yX8_gain : MethodName := ⟨RX8, "gain", "(II)I"⟩
abbrev cX8_best : ByteArray := prog_1_method_13_code
def yX8_best : MethodName := ⟨RX8, "best", "(III)I"⟩
abbrev cX8_order : ByteArray := prog_1_method_14_code
def yX8_order : MethodName := ⟨RX8, "order", "(I)I"⟩
abbrev cX8_ring : ByteArray := prog_1_method_15_code
def yX8_ring : MethodName := ⟨RX8, "ring", "(II)I"⟩
abbrev cX8_mean : ByteArray := prog_1_method_16_code
def yX8_mean : MethodName := ⟨RX8, "mean", "(II)J"⟩
abbrev cX8_hangs : ByteArray := prog_1_method_17_code
def yX8_hangs : MethodName := ⟨RX8, "hangs", "(I)I"⟩
abbrev cX8_reading : ByteArray := prog_1_method_18_code
def yX8_reading : MethodName := ⟨RX8, "reading", "(II)I"⟩
abbrev cX8_back : ByteArray := prog_1_method_19_code
def yX8_back : MethodName := ⟨RX8, "back", "(I)I"⟩
abbrev cX8_values : ByteArray := prog_1_method_20_code
def yX8_values : MethodName := ⟨RX8, "values", "(III)I"⟩
abbrev cX8_places : ByteArray := prog_1_method_21_code
def yX8_places : MethodName := ⟨RX8, "places", "(I)I"⟩
abbrev cX8_sheet : ByteArray := prog_1_method_22_code
def yX8_sheet : MethodName := ⟨RX8, "sheet", "(III)I"⟩
abbrev cX8_lose : ByteArray := prog_1_method_23_code
def yX8_lose : MethodName := ⟨RX8, "lose", "(I)I"⟩
abbrev cX8_put : ByteArray := prog_1_method_24_code
def yX8_put : MethodName := ⟨RX8, "put", "(III)I"⟩
abbrev cX8_cell : ByteArray := prog_1_method_25_code
def yX8_cell : MethodName := ⟨RX8, "cell", "(III)J"⟩
abbrev cX8_copy : ByteArray := prog_1_method_26_code
def yX8_copy : MethodName := ⟨RX8, "copy", "(IIIII)I"⟩
abbrev cX8_tell : ByteArray := prog_1_method_27_code
def yX8_tell : MethodName := ⟨RX8, "tell", "(I)I"⟩
abbrev cX8_nod : ByteArray := prog_1_method_28_code
def yX8_nod : MethodName := ⟨RX8, "nod", "(I)I"⟩
abbrev cX8_as : ByteArray := prog_1_method_29_code
def yX8_as : MethodName := ⟨RX8, "as", "(II)I"⟩
abbrev cX8_trace : ByteArray := prog_1_method_30_code
def yX8_trace : MethodName := ⟨RX8, "trace", "()I"⟩
abbrev cX8_fault : ByteArray := prog_1_method_31_code
def yX8_fault : MethodName := ⟨RX8, "fault", "()I"⟩
abbrev cX8_many : ByteArray := prog_1_method_32_code
def yX8_many : MethodName := ⟨RX8, "many", "(I)I"⟩
abbrev cX8_isBelow : ByteArray := prog_1_method_33_code
def yX8_isBelow : MethodName := ⟨RX8, "isBelow", "(II)Z"⟩
abbrev cX8_isIn : ByteArray := prog_1_method_34_code
def yX8_isIn : MethodName := ⟨RX8, "isIn", "(II)Z"⟩
abbrev cX8_isLot : ByteArray := prog_1_method_35_code
def yX8_isLot : MethodName := ⟨RX8, "isLot", "(I)Z"⟩
abbrev cX8_isLane : ByteArray := prog_1_method_36_code
def yX8_isLane : MethodName := ⟨RX8, "isLane", "(I)Z"⟩
abbrev cX8_sheetOf : ByteArray := prog_1_method_37_code
def yX8_sheetOf : MethodName := ⟨RX8, "sheetOf", "(I)LDeafAuction$Sheet;"⟩
abbrev cX8_meet : ByteArray := prog_1_method_38_code
def yX8_meet : MethodName := ⟨RX8, "meet", "(I)I"⟩
abbrev cX8_firstFault : ByteArray := prog_1_method_39_code
def yX8_firstFault : MethodName := ⟨RX8, "firstFault", "(LDeafAuction$Sheet;II)I"⟩
abbrev cX8_goesOn : ByteArray := prog_1_method_40_code
def yX8_goesOn : MethodName := ⟨RX8, "goesOn", "(LDeafAuction$Sheet;II)Z"⟩
abbrev cX8_isAmong : ByteArray := prog_1_method_41_code
def yX8_isAmong : MethodName := ⟨RX8, "isAmong", "(III)Z"⟩
abbrev cX8_isOneMoreLetIn : ByteArray := prog_1_method_42_code
def yX8_isOneMoreLetIn : MethodName := ⟨RX8, "isOneMoreLetIn", "(LDeafAuction$Sheet;II)Z"⟩
abbrev cX8_digitAt : ByteArray := prog_1_method_43_code
def yX8_digitAt : MethodName := ⟨RX8, "digitAt", "(LDeafAuction$Sheet;I)I"⟩
abbrev cX8_fillRoom : ByteArray := prog_1_method_44_code
def yX8_fillRoom : MethodName := ⟨RX8, "fillRoom", "(LDeafAuction$Sheet;II)V"⟩
abbrev cX8_buyerBy : ByteArray := prog_1_method_45_code
def yX8_buyerBy : MethodName := ⟨RX8, "buyerBy", "(III)LDeafAuction$Buyer;"⟩
abbrev cX8_sellTo : ByteArray := prog_1_method_46_code
def yX8_sellTo : MethodName := ⟨RX8, "sellTo", "(II)V"⟩
abbrev cX8_sellFrom : ByteArray := prog_1_method_47_code
def yX8_sellFrom : MethodName := ⟨RX8, "sellFrom", "(III)V"⟩
abbrev cX8_gainFrom : ByteArray := prog_1_method_48_code
def yX8_gainFrom : MethodName := ⟨RX8, "gainFrom", "(LDeafAuction$Buyer;II)I"⟩
abbrev cX8_areLotsOnce : ByteArray := prog_1_method_49_code
def yX8_areLotsOnce : MethodName := ⟨RX8, "areLotsOnce", "(LDeafAuction$Sheet;II)Z"⟩
abbrev cX8_sellRow : ByteArray := prog_1_method_50_code
def yX8_sellRow : MethodName := ⟨RX8, "sellRow", "(LDeafAuction$Sheet;II)I"⟩
abbrev cX8_lotOfOrder : ByteArray := prog_1_method_51_code
def yX8_lotOfOrder : MethodName := ⟨RX8, "lotOfOrder", "(II)I"⟩
abbrev cX8_isEachLotOnce : ByteArray := prog_1_method_52_code
def yX8_isEachLotOnce : MethodName := ⟨RX8, "isEachLotOnce", "(I)Z"⟩
abbrev cX8_sellOrder : ByteArray := prog_1_method_53_code
def yX8_sellOrder : MethodName := ⟨RX8, "sellOrder", "(I)I"⟩
abbrev cX8_areReadingsSo : ByteArray := prog_1_method_54_code
def yX8_areReadingsSo : MethodName := ⟨RX8, "areReadingsSo", "(III)Z"⟩
abbrev cX8_isReadingSo : ByteArray := prog_1_method_55_code
def yX8_isReadingSo : MethodName := ⟨RX8, "isReadingSo", "(III)Z"⟩
def RX9 : String := "DeafAuctionModel"
def TX9 : u_T := fun k => match k with
  | 0 => ("DeafAuctionModel", "fault", "I", false)
  | 1 => ("DeafAuctionModel", "rows", "I", false)
  | 2 => ("DeafAuctionModel", "wide", "I", false)
  | 3 => ("DeafAuctionModel", "buyers", "I", false)
  | 4 => ("DeafAuctionModel", "kindOf", "[I", true)
  | 5 => ("DeafAuctionModel", "purseOf", "[I", true)
  | 6 => ("DeafAuctionModel", "seatOf", "[I", true)
  | 7 => ("DeafAuctionModel", "worthOf", "[I", true)
  | 8 => ("DeafAuctionModel", "lawNow", "I", false)
  | 9 => ("DeafAuctionModel", "readAt", "I", false)
  | 10 => ("DeafAuctionModel", "readRows", "I", false)
  | 11 => ("DeafAuctionModel", "readWide", "I", false)
  | 12 => ("DeafAuctionModel", "readBuyers", "I", false)
  | 13 => ("DeafAuctionModel", "readKind", "[I", true)
  | 14 => ("DeafAuctionModel", "readPurse", "[I", true)
  | 15 => ("DeafAuctionModel", "sits", "[I", true)
  | 16 => ("DeafAuctionModel", "price", "I", false)
  | 17 => ("DeafAuctionModel", "owner", "I", false)
  | 18 => ("DeafAuctionModel", "bids", "I", false)
  | 19 => ("DeafAuctionModel", "bidOf", "[I", true)
  | 20 => ("DeafAuctionModel", "lotRow", "[I", true)
  | 21 => ("DeafAuctionModel", "purseWas", "[I", true)
  | 22 => ("DeafAuctionModel", "purseLeft", "[I", true)
  | 23 => ("DeafAuctionModel", "bestRow", "[I", true)
  | 24 => ("DeafAuctionModel", "readings", "I", false)
  | 25 => ("DeafAuctionModel", "readingOf", "[I", true)
  | 26 => ("DeafAuctionModel", "readingTo", "[I", true)
  | 27 => ("DeafAuctionModel", "sheetSize", "[I", true)
  | 28 => ("DeafAuctionModel", "sheetLane", "[I", true)
  | 29 => ("DeafAuctionModel", "sheet", "[I", true)
  | 30 => ("DeafAuctionModel", "hands", "[I", true)
  | _ => ("DeafAuctionModel", "traceNow", "I", false)
def tyX9 : Nat → FieldType := fun k => match k with
  | 0 => .int
  | 1 => .int
  | 2 => .int
  | 3 => .int
  | 4 => .array .int
  | 5 => .array .int
  | 6 => .array .int
  | 7 => .array .int
  | 8 => .int
  | 9 => .int
  | 10 => .int
  | 11 => .int
  | 12 => .int
  | 13 => .array .int
  | 14 => .array .int
  | 15 => .array .int
  | 16 => .int
  | 17 => .int
  | 18 => .int
  | 19 => .array .int
  | 20 => .array .int
  | 21 => .array .int
  | 22 => .array .int
  | 23 => .array .int
  | 24 => .int
  | 25 => .array .int
  | 26 => .array .int
  | 27 => .array .int
  | 28 => .array .int
  | 29 => .array .int
  | 30 => .array .int
  | _ => .int
abbrev wsX90 : List Cond := u_ws RX9 TX9 32
theorem nmX9 : ∀ a, a < 32 → ∀ b, b < 32 → a ≠ b → (TX9 a).2.1 ≠ (TX9 b).2.1 := by decide +kernel
theorem tyX9_ok : ∀ k, k < 32 → parseFieldDescriptor (TX9 k).2.2.1 = some (tyX9 k) := by decide +kernel
abbrev cX9_init : ByteArray := prog_11_method_1_code
def yX9_init : MethodName := ⟨RX9, "<init>", "()V"⟩
abbrev cX9_in : ByteArray := prog_11_method_2_code
def yX9_in : MethodName := ⟨RX9, "in", "(JJJ)Z"⟩
abbrev cX9_lost : ByteArray := prog_11_method_3_code
def yX9_lost : MethodName := ⟨RX9, "lost", "()J"⟩
abbrev cX9_isIn : ByteArray := prog_11_method_4_code
def yX9_isIn : MethodName := ⟨RX9, "isIn", "(II)Z"⟩
abbrev cX9_lesser : ByteArray := prog_11_method_5_code
def yX9_lesser : MethodName := ⟨RX9, "lesser", "(II)I"⟩
abbrev cX9_told : ByteArray := prog_11_method_6_code
def yX9_told : MethodName := ⟨RX9, "told", "(JJI)J"⟩
abbrev cX9_refused : ByteArray := prog_11_method_7_code
def yX9_refused : MethodName := ⟨RX9, "refused", "(I)I"⟩
abbrev cX9_failed : ByteArray := prog_11_method_8_code
def yX9_failed : MethodName := ⟨RX9, "failed", "(I)I"⟩
abbrev cX9_failedLong : ByteArray := prog_11_method_9_code
def yX9_failedLong : MethodName := ⟨RX9, "failedLong", "(I)J"⟩
abbrev cX9_noSeat : ByteArray := prog_11_method_10_code
def yX9_noSeat : MethodName := ⟨RX9, "noSeat", "(I)Z"⟩
abbrev cX9_noBuyer : ByteArray := prog_11_method_11_code
def yX9_noBuyer : MethodName := ⟨RX9, "noBuyer", "(I)Z"⟩
abbrev cX9_noLot : ByteArray := prog_11_method_12_code
def yX9_noLot : MethodName := ⟨RX9, "noLot", "(I)Z"⟩
abbrev cX9_codeAt : ByteArray := prog_11_method_13_code
def yX9_codeAt : MethodName := ⟨RX9, "codeAt", "(II)I"⟩
abbrev cX9_figure : ByteArray := prog_11_method_14_code
def yX9_figure : MethodName := ⟨RX9, "figure", "(IIII)I"⟩
abbrev cX9_readsBuyer : ByteArray := prog_11_method_15_code
def yX9_readsBuyer : MethodName := ⟨RX9, "readsBuyer", "(II)Z"⟩
abbrev cX9_readsHall : ByteArray := prog_11_method_16_code
def yX9_readsHall : MethodName := ⟨RX9, "readsHall", "(II)Z"⟩
abbrev cX9_cellsBarred : ByteArray := prog_11_method_17_code
def yX9_cellsBarred : MethodName := ⟨RX9, "cellsBarred", "(IIIJ)I"⟩
abbrev cX9_hall : ByteArray := prog_11_method_18_code
def yX9_hall : MethodName := ⟨RX9, "hall", "(IIII)I"⟩
abbrev cX9_ofBuyer : ByteArray := prog_11_method_19_code
def yX9_ofBuyer : MethodName := ⟨RX9, "ofBuyer", "(II)I"⟩
abbrev cX9_worth : ByteArray := prog_11_method_20_code
def yX9_worth : MethodName := ⟨RX9, "worth", "(III)I"⟩
abbrev cX9_limitOf : ByteArray := prog_11_method_21_code
def yX9_limitOf : MethodName := ⟨RX9, "limitOf", "(II)I"⟩
abbrev cX9_limit : ByteArray := prog_11_method_22_code
def yX9_limit : MethodName := ⟨RX9, "limit", "(II)I"⟩
abbrev cX9_sitterIn : ByteArray := prog_11_method_23_code
def yX9_sitterIn : MethodName := ⟨RX9, "sitterIn", "(I)I"⟩
abbrev cX9_sit : ByteArray := prog_11_method_24_code
def yX9_sit : MethodName := ⟨RX9, "sit", "(II)I"⟩
abbrev cX9_law : ByteArray := prog_11_method_25_code
def yX9_law : MethodName := ⟨RX9, "law", "(I)I"⟩
abbrev cX9_sitDown : ByteArray := prog_11_method_26_code
def yX9_sitDown : MethodName := ⟨RX9, "sitDown", "(I)V"⟩
abbrev cX9_isTaken : ByteArray := prog_11_method_27_code
def yX9_isTaken : MethodName := ⟨RX9, "isTaken", "(I)Z"⟩
abbrev cX9_isSeen : ByteArray := prog_11_method_28_code
def yX9_isSeen : MethodName := ⟨RX9, "isSeen", "(I)Z"⟩
abbrev cX9_step : ByteArray := prog_11_method_29_code
def yX9_step : MethodName := ⟨RX9, "step", "(I)I"⟩
abbrev cX9_nextBidder : ByteArray := prog_11_method_30_code
def yX9_nextBidder : MethodName := ⟨RX9, "nextBidder", "(II)I"⟩
abbrev cX9_sell : ByteArray := prog_11_method_31_code
def yX9_sell : MethodName := ⟨RX9, "sell", "(II)V"⟩
abbrev cX9_all : ByteArray := prog_11_method_32_code
def yX9_all : MethodName := ⟨RX9, "all", "()I"⟩
abbrev cX9_sellTo : ByteArray := prog_11_method_33_code
def yX9_sellTo : MethodName := ⟨RX9, "sellTo", "(II)V"⟩
abbrev cX9_sale : ByteArray := prog_11_method_34_code
def yX9_sale : MethodName := ⟨RX9, "sale", "(II)I"⟩
abbrev cX9_bid : ByteArray := prog_11_method_35_code
def yX9_bid : MethodName := ⟨RX9, "bid", "(II)I"⟩
abbrev cX9_ends : ByteArray := prog_11_method_36_code
def yX9_ends : MethodName := ⟨RX9, "ends", "(II)I"⟩
abbrev cX9_brings : ByteArray := prog_11_method_37_code
def yX9_brings : MethodName := ⟨RX9, "brings", "(I)I"⟩
abbrev cX9_row : ByteArray := prog_11_method_38_code
def yX9_row : MethodName := ⟨RX9, "row", "(IIIII)I"⟩
abbrev cX9_gainOf : ByteArray := prog_11_method_39_code
def yX9_gainOf : MethodName := ⟨RX9, "gainOf", "(II)I"⟩
abbrev cX9_gain : ByteArray := prog_11_method_40_code
def yX9_gain : MethodName := ⟨RX9, "gain", "(II)I"⟩
abbrev cX9_best : ByteArray := prog_11_method_41_code
def yX9_best : MethodName := ⟨RX9, "best", "(III)I"⟩
abbrev cX9_order : ByteArray := prog_11_method_42_code
def yX9_order : MethodName := ⟨RX9, "order", "(I)I"⟩
abbrev cX9_ring : ByteArray := prog_11_method_43_code
def yX9_ring : MethodName := ⟨RX9, "ring", "(II)I"⟩
abbrev cX9_mean : ByteArray := prog_11_method_44_code
def yX9_mean : MethodName := ⟨RX9, "mean", "(II)J"⟩
abbrev cX9_hangs : ByteArray := prog_11_method_45_code
def yX9_hangs : MethodName := ⟨RX9, "hangs", "(I)I"⟩
abbrev cX9_reading : ByteArray := prog_11_method_46_code
def yX9_reading : MethodName := ⟨RX9, "reading", "(II)I"⟩
abbrev cX9_back : ByteArray := prog_11_method_47_code
def yX9_back : MethodName := ⟨RX9, "back", "(I)I"⟩
abbrev cX9_areSo : ByteArray := prog_11_method_48_code
def yX9_areSo : MethodName := ⟨RX9, "areSo", "()Z"⟩
abbrev cX9_values : ByteArray := prog_11_method_49_code
def yX9_values : MethodName := ⟨RX9, "values", "(III)I"⟩
abbrev cX9_places : ByteArray := prog_11_method_50_code
def yX9_places : MethodName := ⟨RX9, "places", "(I)I"⟩
abbrev cX9_noSheet : ByteArray := prog_11_method_51_code
def yX9_noSheet : MethodName := ⟨RX9, "noSheet", "(I)Z"⟩
abbrev cX9_sheet : ByteArray := prog_11_method_52_code
def yX9_sheet : MethodName := ⟨RX9, "sheet", "(III)I"⟩
abbrev cX9_lose : ByteArray := prog_11_method_53_code
def yX9_lose : MethodName := ⟨RX9, "lose", "(I)I"⟩
abbrev cX9_noCell : ByteArray := prog_11_method_54_code
def yX9_noCell : MethodName := ⟨RX9, "noCell", "(II)I"⟩
abbrev cX9_put : ByteArray := prog_11_method_55_code
def yX9_put : MethodName := ⟨RX9, "put", "(III)I"⟩
abbrev cX9_cell : ByteArray := prog_11_method_56_code
def yX9_cell : MethodName := ⟨RX9, "cell", "(III)J"⟩
abbrev cX9_isBeyond : ByteArray := prog_11_method_57_code
def yX9_isBeyond : MethodName := ⟨RX9, "isBeyond", "(IJI)Z"⟩
abbrev cX9_copy : ByteArray := prog_11_method_58_code
def yX9_copy : MethodName := ⟨RX9, "copy", "(IIIII)I"⟩
abbrev cX9_traced : ByteArray := prog_11_method_59_code
def yX9_traced : MethodName := ⟨RX9, "traced", "(I)V"⟩
abbrev cX9_tell : ByteArray := prog_11_method_60_code
def yX9_tell : MethodName := ⟨RX9, "tell", "(I)I"⟩
abbrev cX9_nod : ByteArray := prog_11_method_61_code
def yX9_nod : MethodName := ⟨RX9, "nod", "(I)I"⟩
abbrev cX9_as : ByteArray := prog_11_method_62_code
def yX9_as : MethodName := ⟨RX9, "as", "(II)I"⟩
abbrev cX9_trace : ByteArray := prog_11_method_63_code
def yX9_trace : MethodName := ⟨RX9, "trace", "()I"⟩
abbrev cX9_fault : ByteArray := prog_11_method_64_code
def yX9_fault : MethodName := ⟨RX9, "fault", "()I"⟩
abbrev cX9_many : ByteArray := prog_11_method_65_code
def yX9_many : MethodName := ⟨RX9, "many", "(I)I"⟩
def RJ9 : String := "java/lang/Math"
def TJ9 : u_T := fun k => match k with
  | _ => ("", "", "", false)
def tyJ9 : Nat → FieldType := fun k => match k with
  | _ => .int
abbrev wsJ90 : List Cond := u_ws RJ9 TJ9 0
theorem nmJ9 : ∀ a, a < 0 → ∀ b, b < 0 → a ≠ b → (TJ9 a).2.1 ≠ (TJ9 b).2.1 := by decide +kernel
theorem tyJ9_ok : ∀ k, k < 0 → parseFieldDescriptor (TJ9 k).2.2.1 = some (tyJ9 k) := by decide +kernel
abbrev cJ9_max_7cf53 : ByteArray := prog_12_method_65_code
def yJ9_max_7cf53 : MethodName := ⟨RJ9, "max", "(II)I"⟩
abbrev cJ9_min_7cf53 : ByteArray := prog_12_method_69_code
def yJ9_min_7cf53 : MethodName := ⟨RJ9, "min", "(II)I"⟩
def RJ10 : String := "java/lang/System"
def TJ10 : u_T := fun k => match k with
  | _ => ("", "", "", false)
def tyJ10 : Nat → FieldType := fun k => match k with
  | _ => .int
abbrev wsJ100 : List Cond := u_ws RJ10 TJ10 0
theorem nmJ10 : ∀ a, a < 0 → ∀ b, b < 0 → a ≠ b → (TJ10 a).2.1 ≠ (TJ10 b).2.1 := by decide +kernel
theorem tyJ10_ok : ∀ k, k < 0 → parseFieldDescriptor (TJ10 k).2.2.1 = some (tyJ10 k) := by decide +kernel
def RL : String := "DeafAuctionLaw"
abbrev cL_law : ByteArray := code
def yL_law : MethodName := ⟨RL, "law", "([I)Z"⟩
abbrev vwCl : List vw_C := [(RX0, TX0, 13), (RX1, TX1, 4), (RX2, TX2, 3), (RX3, TX3, 4), (RX4, TX4, 4), (RX5, TX5, 7), (RX6, TX6, 3), (RX7, TX7, 1), (RX8, TX8, 6), (RX9, TX9, 32)]
end
section
def lw_g : List Cond := lw_tbl.filter goodWord
theorem tg_0 : Cond.initialized "DeafAuctionLaw" ∈ lw_g := List.mem_filter.mpr ⟨List.mem_append_right _ (List.mem_of_getElem? (i := 0) (by decide +kernel)), by decide +kernel⟩
theorem tg_1 : Cond.initialized "DeafAuction" ∈ lw_g := List.mem_filter.mpr ⟨List.mem_append_right _ (List.mem_of_getElem? (i := 1) (by decide +kernel)), by decide +kernel⟩
theorem tg_2 : Cond.initialized "DeafAuction$Sheet" ∈ lw_g := List.mem_filter.mpr ⟨List.mem_append_right _ (List.mem_of_getElem? (i := 2) (by decide +kernel)), by decide +kernel⟩
theorem tg_3 : Cond.initialized "DeafAuction$Trail" ∈ lw_g := List.mem_filter.mpr ⟨List.mem_append_right _ (List.mem_of_getElem? (i := 3) (by decide +kernel)), by decide +kernel⟩
theorem tg_4 : Cond.initialized "DeafAuction$Room" ∈ lw_g := List.mem_filter.mpr ⟨List.mem_append_right _ (List.mem_of_getElem? (i := 4) (by decide +kernel)), by decide +kernel⟩
theorem tg_5 : Cond.initialized "DeafAuction$Bidding" ∈ lw_g := List.mem_filter.mpr ⟨List.mem_append_right _ (List.mem_of_getElem? (i := 5) (by decide +kernel)), by decide +kernel⟩
theorem tg_6 : Cond.initialized "DeafAuction$Clerk" ∈ lw_g := List.mem_filter.mpr ⟨List.mem_append_right _ (List.mem_of_getElem? (i := 6) (by decide +kernel)), by decide +kernel⟩
theorem tg_7 : Cond.initialized "DeafAuctionModel" ∈ lw_g := List.mem_filter.mpr ⟨List.mem_append_right _ (List.mem_of_getElem? (i := 7) (by decide +kernel)), by decide +kernel⟩
theorem tg_8 : Cond.initialized "DeafAuction$Buyer" ∈ lw_g := List.mem_filter.mpr ⟨List.mem_append_right _ (List.mem_of_getElem? (i := 8) (by decide +kernel)), by decide +kernel⟩
theorem tg_9 : Cond.initialized "DeafAuction$Hatted" ∈ lw_g := List.mem_filter.mpr ⟨List.mem_append_right _ (List.mem_of_getElem? (i := 9) (by decide +kernel)), by decide +kernel⟩
theorem tg_10 : Cond.initialized "DeafAuction$Nervous" ∈ lw_g := List.mem_filter.mpr ⟨List.mem_append_right _ (List.mem_of_getElem? (i := 10) (by decide +kernel)), by decide +kernel⟩
theorem tg_11 : Cond.initialized "java/lang/Math" ∈ lw_g := List.mem_filter.mpr ⟨List.mem_append_right _ (List.mem_of_getElem? (i := 11) (by decide +kernel)), by decide +kernel⟩
theorem tg_12 : Cond.initialized "java/lang/System" ∈ lw_g := List.mem_filter.mpr ⟨List.mem_append_right _ (List.mem_of_getElem? (i := 12) (by decide +kernel)), by decide +kernel⟩
theorem tg_13 : Cond.classLink "DeafAuctionLaw" 7 "DeafAuction" ∈ lw_g := List.mem_filter.mpr ⟨List.mem_append_right _ (List.mem_of_getElem? (i := 13) (by decide +kernel)), by decide +kernel⟩
theorem tg_14 : Cond.instantiable "DeafAuction" 6 ∈ lw_g := List.mem_filter.mpr ⟨List.mem_append_right _ (List.mem_of_getElem? (i := 14) (by decide +kernel)), by decide +kernel⟩
theorem tg_15 : Cond.methodLink "DeafAuctionLaw" 9 yX8_init ∈ lw_g := List.mem_filter.mpr ⟨List.mem_append_right _ (List.mem_of_getElem? (i := 15) (by decide +kernel)), by decide +kernel⟩
theorem tg_16 : Cond.instanceMethod yX8_init ∈ lw_g := List.mem_filter.mpr ⟨List.mem_append_right _ (List.mem_of_getElem? (i := 16) (by decide +kernel)), by decide +kernel⟩
set_option maxRecDepth 100000 in
theorem tg_17 : Cond.code yX8_init prog_1_method_1_code 2 none ∈ lw_g := List.mem_filter.mpr ⟨List.mem_append_right _ (List.mem_of_getElem? (i := 17) rfl), rfl⟩
theorem tg_18 : Cond.methodLink "DeafAuction" 3 ⟨"java/lang/Object", "<init>", "()V"⟩ ∈ lw_g := List.mem_filter.mpr ⟨List.mem_append_right _ (List.mem_of_getElem? (i := 18) (by decide +kernel)), by decide +kernel⟩
theorem tg_19 : Cond.instanceMethod ⟨"java/lang/Object", "<init>", "()V"⟩ ∈ lw_g := List.mem_filter.mpr ⟨List.mem_append_right _ (List.mem_of_getElem? (i := 19) (by decide +kernel)), by decide +kernel⟩
set_option maxRecDepth 100000 in
theorem tg_20 : Cond.code ⟨"java/lang/Object", "<init>", "()V"⟩ object_method_1_code 1 none ∈ lw_g := List.mem_filter.mpr ⟨List.mem_append_right _ (List.mem_of_getElem? (i := 20) rfl), rfl⟩
theorem tg_21 : Cond.classLink "DeafAuction" 11 "DeafAuction$Sheet" ∈ lw_g := List.mem_filter.mpr ⟨List.mem_append_right _ (List.mem_of_getElem? (i := 21) (by decide +kernel)), by decide +kernel⟩
theorem tg_23 : Cond.instantiable "DeafAuction$Sheet" 3 ∈ lw_g := List.mem_filter.mpr ⟨List.mem_append_right _ (List.mem_of_getElem? (i := 23) (by decide +kernel)), by decide +kernel⟩
theorem tg_25 : Cond.instanceMethod yX6_init ∈ lw_g := List.mem_filter.mpr ⟨List.mem_append_right _ (List.mem_of_getElem? (i := 25) (by decide +kernel)), by decide +kernel⟩
set_option maxRecDepth 100000 in
theorem tg_26 : Cond.code yX6_init prog_8_method_1_code 1 none ∈ lw_g := List.mem_filter.mpr ⟨List.mem_append_right _ (List.mem_of_getElem? (i := 26) rfl), rfl⟩
theorem tg_27 : Cond.methodLink "DeafAuction$Sheet" 3 ⟨"java/lang/Object", "<init>", "()V"⟩ ∈ lw_g := List.mem_filter.mpr ⟨List.mem_append_right _ (List.mem_of_getElem? (i := 27) (by decide +kernel)), by decide +kernel⟩
theorem tg_28 : Cond.fieldLink "DeafAuction$Sheet" 9 "DeafAuction$Sheet" "cells" "[I" ∈ lw_g := List.mem_filter.mpr ⟨List.mem_append_right _ (List.mem_of_getElem? (i := 28) (by decide +kernel)), by decide +kernel⟩
theorem tg_30 : Cond.fieldLink "DeafAuction$Sheet" 15 "DeafAuction$Sheet" "lane" "I" ∈ lw_g := List.mem_filter.mpr ⟨List.mem_append_right _ (List.mem_of_getElem? (i := 30) (by decide +kernel)), by decide +kernel⟩
theorem tg_32 : Cond.fieldLink "DeafAuction$Sheet" 19 "DeafAuction$Sheet" "length" "I" ∈ lw_g := List.mem_filter.mpr ⟨List.mem_append_right _ (List.mem_of_getElem? (i := 32) (by decide +kernel)), by decide +kernel⟩
theorem tg_39 : Cond.superclass "DeafAuction$Sheet" "java/lang/Object" ∈ lw_g := List.mem_filter.mpr ⟨List.mem_append_right _ (List.mem_of_getElem? (i := 39) (by decide +kernel)), by decide +kernel⟩
theorem tg_40 : Cond.arrayClass FieldType.int ∈ lw_g := List.mem_filter.mpr ⟨List.mem_append_right _ (List.mem_of_getElem? (i := 40) (by decide +kernel)), by decide +kernel⟩
theorem tg_41 : Cond.classLink "DeafAuction" 18 "DeafAuction$Trail" ∈ lw_g := List.mem_filter.mpr ⟨List.mem_append_right _ (List.mem_of_getElem? (i := 41) (by decide +kernel)), by decide +kernel⟩
theorem tg_42 : Cond.instantiable "DeafAuction$Trail" 1 ∈ lw_g := List.mem_filter.mpr ⟨List.mem_append_right _ (List.mem_of_getElem? (i := 42) (by decide +kernel)), by decide +kernel⟩
theorem tg_44 : Cond.instanceMethod yX7_init ∈ lw_g := List.mem_filter.mpr ⟨List.mem_append_right _ (List.mem_of_getElem? (i := 44) (by decide +kernel)), by decide +kernel⟩
set_option maxRecDepth 100000 in
theorem tg_45 : Cond.code yX7_init prog_9_method_1_code 1 none ∈ lw_g := List.mem_filter.mpr ⟨List.mem_append_right _ (List.mem_of_getElem? (i := 45) rfl), rfl⟩
theorem tg_46 : Cond.methodLink "DeafAuction$Trail" 1 ⟨"java/lang/Object", "<init>", "()V"⟩ ∈ lw_g := List.mem_filter.mpr ⟨List.mem_append_right _ (List.mem_of_getElem? (i := 46) (by decide +kernel)), by decide +kernel⟩
theorem tg_47 : Cond.fieldLink "DeafAuction$Trail" 7 "DeafAuction$Trail" "left" "I" ∈ lw_g := List.mem_filter.mpr ⟨List.mem_append_right _ (List.mem_of_getElem? (i := 47) (by decide +kernel)), by decide +kernel⟩
theorem tg_51 : Cond.superclass "DeafAuction$Trail" "java/lang/Object" ∈ lw_g := List.mem_filter.mpr ⟨List.mem_append_right _ (List.mem_of_getElem? (i := 51) (by decide +kernel)), by decide +kernel⟩
theorem tg_52 : Cond.classLink "DeafAuction" 25 "DeafAuction$Room" ∈ lw_g := List.mem_filter.mpr ⟨List.mem_append_right _ (List.mem_of_getElem? (i := 52) (by decide +kernel)), by decide +kernel⟩
theorem tg_53 : Cond.instantiable "DeafAuction$Room" 7 ∈ lw_g := List.mem_filter.mpr ⟨List.mem_append_right _ (List.mem_of_getElem? (i := 53) (by decide +kernel)), by decide +kernel⟩
theorem tg_55 : Cond.instanceMethod yX5_init ∈ lw_g := List.mem_filter.mpr ⟨List.mem_append_right _ (List.mem_of_getElem? (i := 55) (by decide +kernel)), by decide +kernel⟩
set_option maxRecDepth 100000 in
theorem tg_56 : Cond.code yX5_init prog_7_method_1_code 1 none ∈ lw_g := List.mem_filter.mpr ⟨List.mem_append_right _ (List.mem_of_getElem? (i := 56) rfl), rfl⟩
theorem tg_57 : Cond.methodLink "DeafAuction$Room" 3 ⟨"java/lang/Object", "<init>", "()V"⟩ ∈ lw_g := List.mem_filter.mpr ⟨List.mem_append_right _ (List.mem_of_getElem? (i := 57) (by decide +kernel)), by decide +kernel⟩
theorem tg_58 : Cond.classLink "DeafAuction$Room" 9 "DeafAuction$Buyer" ∈ lw_g := List.mem_filter.mpr ⟨List.mem_append_right _ (List.mem_of_getElem? (i := 58) (by decide +kernel)), by decide +kernel⟩
theorem tg_60 : Cond.fieldLink "DeafAuction$Room" 11 "DeafAuction$Room" "buyers" "[LDeafAuction$Buyer;" ∈ lw_g := List.mem_filter.mpr ⟨List.mem_append_right _ (List.mem_of_getElem? (i := 60) (by decide +kernel)), by decide +kernel⟩
theorem tg_61 : Cond.fieldLink "DeafAuction$Room" 17 "DeafAuction$Room" "count" "I" ∈ lw_g := List.mem_filter.mpr ⟨List.mem_append_right _ (List.mem_of_getElem? (i := 61) (by decide +kernel)), by decide +kernel⟩
theorem tg_63 : Cond.fieldLink "DeafAuction$Room" 27 "DeafAuction$Room" "seats" "I" ∈ lw_g := List.mem_filter.mpr ⟨List.mem_append_right _ (List.mem_of_getElem? (i := 63) (by decide +kernel)), by decide +kernel⟩
theorem tg_65 : Cond.fieldLink "DeafAuction$Room" 24 "DeafAuction$Room" "wide" "I" ∈ lw_g := List.mem_filter.mpr ⟨List.mem_append_right _ (List.mem_of_getElem? (i := 65) (by decide +kernel)), by decide +kernel⟩
theorem tg_67 : Cond.fieldLink "DeafAuction$Room" 21 "DeafAuction$Room" "deafness" "I" ∈ lw_g := List.mem_filter.mpr ⟨List.mem_append_right _ (List.mem_of_getElem? (i := 67) (by decide +kernel)), by decide +kernel⟩
theorem tg_69 : Cond.fieldLink "DeafAuction$Room" 30 "DeafAuction$Room" "leftSeats" "I" ∈ lw_g := List.mem_filter.mpr ⟨List.mem_append_right _ (List.mem_of_getElem? (i := 69) (by decide +kernel)), by decide +kernel⟩
theorem tg_70 : Cond.fieldLink "DeafAuction$Room" 33 "DeafAuction$Room" "lastSeats" "I" ∈ lw_g := List.mem_filter.mpr ⟨List.mem_append_right _ (List.mem_of_getElem? (i := 70) (by decide +kernel)), by decide +kernel⟩
theorem tg_86 : Cond.superclass "DeafAuction$Room" "java/lang/Object" ∈ lw_g := List.mem_filter.mpr ⟨List.mem_append_right _ (List.mem_of_getElem? (i := 86) (by decide +kernel)), by decide +kernel⟩
theorem tg_87 : Cond.classLink "DeafAuction" 32 "DeafAuction$Bidding" ∈ lw_g := List.mem_filter.mpr ⟨List.mem_append_right _ (List.mem_of_getElem? (i := 87) (by decide +kernel)), by decide +kernel⟩
theorem tg_88 : Cond.instantiable "DeafAuction$Bidding" 13 ∈ lw_g := List.mem_filter.mpr ⟨List.mem_append_right _ (List.mem_of_getElem? (i := 88) (by decide +kernel)), by decide +kernel⟩
theorem tg_89 : Cond.methodLink "DeafAuction" 34 yX0_init ∈ lw_g := List.mem_filter.mpr ⟨List.mem_append_right _ (List.mem_of_getElem? (i := 89) (by decide +kernel)), by decide +kernel⟩
theorem tg_90 : Cond.instanceMethod yX0_init ∈ lw_g := List.mem_filter.mpr ⟨List.mem_append_right _ (List.mem_of_getElem? (i := 90) (by decide +kernel)), by decide +kernel⟩
set_option maxRecDepth 100000 in
theorem tg_91 : Cond.code yX0_init prog_2_method_1_code 2 none ∈ lw_g := List.mem_filter.mpr ⟨List.mem_append_right _ (List.mem_of_getElem? (i := 91) rfl), rfl⟩
theorem tg_92 : Cond.methodLink "DeafAuction$Bidding" 3 ⟨"java/lang/Object", "<init>", "()V"⟩ ∈ lw_g := List.mem_filter.mpr ⟨List.mem_append_right _ (List.mem_of_getElem? (i := 92) (by decide +kernel)), by decide +kernel⟩
theorem tg_93 : Cond.fieldLink "DeafAuction$Bidding" 27 "DeafAuction$Bidding" "room" "LDeafAuction$Room;" ∈ lw_g := List.mem_filter.mpr ⟨List.mem_append_right _ (List.mem_of_getElem? (i := 93) (by decide +kernel)), by decide +kernel⟩
theorem tg_94 : Cond.fieldLink "DeafAuction$Bidding" 9 "DeafAuction$Bidding" "places" "[I" ∈ lw_g := List.mem_filter.mpr ⟨List.mem_append_right _ (List.mem_of_getElem? (i := 94) (by decide +kernel)), by decide +kernel⟩
theorem tg_96 : Cond.fieldLink "DeafAuction$Bidding" 15 "DeafAuction$Bidding" "purses" "[I" ∈ lw_g := List.mem_filter.mpr ⟨List.mem_append_right _ (List.mem_of_getElem? (i := 96) (by decide +kernel)), by decide +kernel⟩
theorem tg_98 : Cond.fieldLink "DeafAuction$Bidding" 18 "DeafAuction$Bidding" "limits" "[I" ∈ lw_g := List.mem_filter.mpr ⟨List.mem_append_right _ (List.mem_of_getElem? (i := 98) (by decide +kernel)), by decide +kernel⟩
theorem tg_100 : Cond.fieldLink "DeafAuction$Bidding" 21 "DeafAuction$Bidding" "line" "[I" ∈ lw_g := List.mem_filter.mpr ⟨List.mem_append_right _ (List.mem_of_getElem? (i := 100) (by decide +kernel)), by decide +kernel⟩
theorem tg_101 : Cond.fieldLink "DeafAuction$Bidding" 24 "DeafAuction$Bidding" "told" "[I" ∈ lw_g := List.mem_filter.mpr ⟨List.mem_append_right _ (List.mem_of_getElem? (i := 101) (by decide +kernel)), by decide +kernel⟩
theorem tg_102 : Cond.fieldLink "DeafAuction$Bidding" 100 "DeafAuction$Bidding" "inLine" "I" ∈ lw_g := List.mem_filter.mpr ⟨List.mem_append_right _ (List.mem_of_getElem? (i := 102) (by decide +kernel)), by decide +kernel⟩
theorem tg_103 : Cond.fieldLink "DeafAuction$Bidding" 31 "DeafAuction$Bidding" "hats" "I" ∈ lw_g := List.mem_filter.mpr ⟨List.mem_append_right _ (List.mem_of_getElem? (i := 103) (by decide +kernel)), by decide +kernel⟩
theorem tg_104 : Cond.fieldLink "DeafAuction$Bidding" 103 "DeafAuction$Bidding" "taken" "I" ∈ lw_g := List.mem_filter.mpr ⟨List.mem_append_right _ (List.mem_of_getElem? (i := 104) (by decide +kernel)), by decide +kernel⟩
theorem tg_105 : Cond.fieldLink "DeafAuction$Bidding" 81 "DeafAuction$Bidding" "twice" "I" ∈ lw_g := List.mem_filter.mpr ⟨List.mem_append_right _ (List.mem_of_getElem? (i := 105) (by decide +kernel)), by decide +kernel⟩
theorem tg_106 : Cond.fieldLink "DeafAuction$Bidding" 68 "DeafAuction$Bidding" "price" "I" ∈ lw_g := List.mem_filter.mpr ⟨List.mem_append_right _ (List.mem_of_getElem? (i := 106) (by decide +kernel)), by decide +kernel⟩
theorem tg_108 : Cond.fieldLink "DeafAuction$Bidding" 71 "DeafAuction$Bidding" "owner" "I" ∈ lw_g := List.mem_filter.mpr ⟨List.mem_append_right _ (List.mem_of_getElem? (i := 108) (by decide +kernel)), by decide +kernel⟩
theorem tg_110 : Cond.fieldLink "DeafAuction$Bidding" 74 "DeafAuction$Bidding" "bids" "I" ∈ lw_g := List.mem_filter.mpr ⟨List.mem_append_right _ (List.mem_of_getElem? (i := 110) (by decide +kernel)), by decide +kernel⟩
theorem tg_138 : Cond.superclass "DeafAuction$Bidding" "java/lang/Object" ∈ lw_g := List.mem_filter.mpr ⟨List.mem_append_right _ (List.mem_of_getElem? (i := 138) (by decide +kernel)), by decide +kernel⟩
theorem tg_139 : Cond.classLink "DeafAuction" 41 "DeafAuction$Clerk" ∈ lw_g := List.mem_filter.mpr ⟨List.mem_append_right _ (List.mem_of_getElem? (i := 139) (by decide +kernel)), by decide +kernel⟩
theorem tg_140 : Cond.instantiable "DeafAuction$Clerk" 3 ∈ lw_g := List.mem_filter.mpr ⟨List.mem_append_right _ (List.mem_of_getElem? (i := 140) (by decide +kernel)), by decide +kernel⟩
theorem tg_142 : Cond.instanceMethod yX2_init ∈ lw_g := List.mem_filter.mpr ⟨List.mem_append_right _ (List.mem_of_getElem? (i := 142) (by decide +kernel)), by decide +kernel⟩
set_option maxRecDepth 100000 in
theorem tg_143 : Cond.code yX2_init prog_4_method_1_code 1 none ∈ lw_g := List.mem_filter.mpr ⟨List.mem_append_right _ (List.mem_of_getElem? (i := 143) rfl), rfl⟩
theorem tg_144 : Cond.methodLink "DeafAuction$Clerk" 3 ⟨"java/lang/Object", "<init>", "()V"⟩ ∈ lw_g := List.mem_filter.mpr ⟨List.mem_append_right _ (List.mem_of_getElem? (i := 144) (by decide +kernel)), by decide +kernel⟩
theorem tg_145 : Cond.fieldLink "DeafAuction$Clerk" 9 "DeafAuction$Clerk" "lots" "[I" ∈ lw_g := List.mem_filter.mpr ⟨List.mem_append_right _ (List.mem_of_getElem? (i := 145) (by decide +kernel)), by decide +kernel⟩
theorem tg_146 : Cond.fieldLink "DeafAuction$Clerk" 15 "DeafAuction$Clerk" "prices" "[I" ∈ lw_g := List.mem_filter.mpr ⟨List.mem_append_right _ (List.mem_of_getElem? (i := 146) (by decide +kernel)), by decide +kernel⟩
theorem tg_147 : Cond.fieldLink "DeafAuction$Clerk" 18 "DeafAuction$Clerk" "count" "I" ∈ lw_g := List.mem_filter.mpr ⟨List.mem_append_right _ (List.mem_of_getElem? (i := 147) (by decide +kernel)), by decide +kernel⟩
theorem tg_155 : Cond.superclass "DeafAuction$Clerk" "java/lang/Object" ∈ lw_g := List.mem_filter.mpr ⟨List.mem_append_right _ (List.mem_of_getElem? (i := 155) (by decide +kernel)), by decide +kernel⟩
theorem tg_156 : Cond.fieldLink "DeafAuction" 13 "DeafAuction" "sheets" "[LDeafAuction$Sheet;" ∈ lw_g := List.mem_filter.mpr ⟨List.mem_append_right _ (List.mem_of_getElem? (i := 156) (by decide +kernel)), by decide +kernel⟩
theorem tg_157 : Cond.fieldLink "DeafAuction" 21 "DeafAuction" "trail" "LDeafAuction$Trail;" ∈ lw_g := List.mem_filter.mpr ⟨List.mem_append_right _ (List.mem_of_getElem? (i := 157) (by decide +kernel)), by decide +kernel⟩
theorem tg_158 : Cond.fieldLink "DeafAuction" 28 "DeafAuction" "room" "LDeafAuction$Room;" ∈ lw_g := List.mem_filter.mpr ⟨List.mem_append_right _ (List.mem_of_getElem? (i := 158) (by decide +kernel)), by decide +kernel⟩
theorem tg_159 : Cond.fieldLink "DeafAuction" 37 "DeafAuction" "bidding" "LDeafAuction$Bidding;" ∈ lw_g := List.mem_filter.mpr ⟨List.mem_append_right _ (List.mem_of_getElem? (i := 159) (by decide +kernel)), by decide +kernel⟩
theorem tg_160 : Cond.fieldLink "DeafAuction" 44 "DeafAuction" "clerk" "LDeafAuction$Clerk;" ∈ lw_g := List.mem_filter.mpr ⟨List.mem_append_right _ (List.mem_of_getElem? (i := 160) (by decide +kernel)), by decide +kernel⟩
theorem tg_161 : Cond.fieldLink "DeafAuction" 48 "DeafAuction" "latestFault" "I" ∈ lw_g := List.mem_filter.mpr ⟨List.mem_append_right _ (List.mem_of_getElem? (i := 161) (by decide +kernel)), by decide +kernel⟩
theorem tg_174 : Cond.superclass "DeafAuction" "java/lang/Object" ∈ lw_g := List.mem_filter.mpr ⟨List.mem_append_right _ (List.mem_of_getElem? (i := 174) (by decide +kernel)), by decide +kernel⟩
theorem tg_175 : Cond.methodLink "DeafAuctionLaw" 13 yX8_hall ∈ lw_g := List.mem_filter.mpr ⟨List.mem_append_right _ (List.mem_of_getElem? (i := 175) (by decide +kernel)), by decide +kernel⟩
theorem tg_176 : Cond.instanceMethod yX8_hall ∈ lw_g := List.mem_filter.mpr ⟨List.mem_append_right _ (List.mem_of_getElem? (i := 176) (by decide +kernel)), by decide +kernel⟩
theorem tg_177 : Cond.selects "DeafAuction" yX8_hall yX8_hall ∈ lw_g := List.mem_filter.mpr ⟨List.mem_append_right _ (List.mem_of_getElem? (i := 177) (by decide +kernel)), by decide +kernel⟩
set_option maxRecDepth 100000 in
theorem tg_178 : Cond.code yX8_hall prog_1_method_2_code 8 (some FieldType.int) ∈ lw_g := List.mem_filter.mpr ⟨List.mem_append_right _ (List.mem_of_getElem? (i := 178) rfl), rfl⟩
theorem tg_179 : Cond.methodLink "DeafAuction" 52 yX8_sheetOf ∈ lw_g := List.mem_filter.mpr ⟨List.mem_append_right _ (List.mem_of_getElem? (i := 179) (by decide +kernel)), by decide +kernel⟩
theorem tg_181 : Cond.instanceMethod yX8_sheetOf ∈ lw_g := List.mem_filter.mpr ⟨List.mem_append_right _ (List.mem_of_getElem? (i := 181) (by decide +kernel)), by decide +kernel⟩
set_option maxRecDepth 100000 in
theorem tg_182 : Cond.code yX8_sheetOf prog_1_method_37_code 2 (some (.object "DeafAuction$Sheet")) ∈ lw_g := List.mem_filter.mpr ⟨List.mem_append_right _ (List.mem_of_getElem? (i := 182) rfl), rfl⟩
theorem tg_183 : Cond.methodLink "DeafAuction" 117 yX8_isBelow ∈ lw_g := List.mem_filter.mpr ⟨List.mem_append_right _ (List.mem_of_getElem? (i := 183) (by decide +kernel)), by decide +kernel⟩
theorem tg_184 : Cond.static yX8_isBelow ∈ lw_g := List.mem_filter.mpr ⟨List.mem_append_right _ (List.mem_of_getElem? (i := 184) (by decide +kernel)), by decide +kernel⟩
set_option maxRecDepth 100000 in
theorem tg_185 : Cond.code yX8_isBelow prog_1_method_33_code 2 (some FieldType.boolean) ∈ lw_g := List.mem_filter.mpr ⟨List.mem_append_right _ (List.mem_of_getElem? (i := 185) rfl), rfl⟩
theorem tg_186 : Cond.methodLink "DeafAuction" 56 yX8_isLane ∈ lw_g := List.mem_filter.mpr ⟨List.mem_append_right _ (List.mem_of_getElem? (i := 186) (by decide +kernel)), by decide +kernel⟩
theorem tg_187 : Cond.static yX8_isLane ∈ lw_g := List.mem_filter.mpr ⟨List.mem_append_right _ (List.mem_of_getElem? (i := 187) (by decide +kernel)), by decide +kernel⟩
set_option maxRecDepth 100000 in
theorem tg_188 : Cond.code yX8_isLane prog_1_method_36_code 1 (some FieldType.boolean) ∈ lw_g := List.mem_filter.mpr ⟨List.mem_append_right _ (List.mem_of_getElem? (i := 188) rfl), rfl⟩
theorem tg_189 : Cond.methodLink "DeafAuction" 60 yX6_faultOfTaking ∈ lw_g := List.mem_filter.mpr ⟨List.mem_append_right _ (List.mem_of_getElem? (i := 189) (by decide +kernel)), by decide +kernel⟩
theorem tg_190 : Cond.instanceMethod yX6_faultOfTaking ∈ lw_g := List.mem_filter.mpr ⟨List.mem_append_right _ (List.mem_of_getElem? (i := 190) (by decide +kernel)), by decide +kernel⟩
theorem tg_191 : Cond.selects "DeafAuction$Sheet" yX6_faultOfTaking yX6_faultOfTaking ∈ lw_g := List.mem_filter.mpr ⟨List.mem_append_right _ (List.mem_of_getElem? (i := 191) (by decide +kernel)), by decide +kernel⟩
set_option maxRecDepth 100000 in
theorem tg_192 : Cond.code yX6_faultOfTaking prog_8_method_4_code 4 (some FieldType.int) ∈ lw_g := List.mem_filter.mpr ⟨List.mem_append_right _ (List.mem_of_getElem? (i := 192) rfl), rfl⟩
theorem tg_193 : Cond.methodLink "DeafAuction$Sheet" 22 yX6_holds ∈ lw_g := List.mem_filter.mpr ⟨List.mem_append_right _ (List.mem_of_getElem? (i := 193) (by decide +kernel)), by decide +kernel⟩
theorem tg_194 : Cond.instanceMethod yX6_holds ∈ lw_g := List.mem_filter.mpr ⟨List.mem_append_right _ (List.mem_of_getElem? (i := 194) (by decide +kernel)), by decide +kernel⟩
theorem tg_195 : Cond.selects "DeafAuction$Sheet" yX6_holds yX6_holds ∈ lw_g := List.mem_filter.mpr ⟨List.mem_append_right _ (List.mem_of_getElem? (i := 195) (by decide +kernel)), by decide +kernel⟩
set_option maxRecDepth 100000 in
theorem tg_196 : Cond.code yX6_holds prog_8_method_3_code 3 (some FieldType.boolean) ∈ lw_g := List.mem_filter.mpr ⟨List.mem_append_right _ (List.mem_of_getElem? (i := 196) rfl), rfl⟩
theorem tg_197 : Cond.methodLink "DeafAuction" 64 yX8_meet ∈ lw_g := List.mem_filter.mpr ⟨List.mem_append_right _ (List.mem_of_getElem? (i := 197) (by decide +kernel)), by decide +kernel⟩
theorem tg_199 : Cond.instanceMethod yX8_meet ∈ lw_g := List.mem_filter.mpr ⟨List.mem_append_right _ (List.mem_of_getElem? (i := 199) (by decide +kernel)), by decide +kernel⟩
set_option maxRecDepth 100000 in
theorem tg_200 : Cond.code yX8_meet prog_1_method_38_code 2 (some FieldType.int) ∈ lw_g := List.mem_filter.mpr ⟨List.mem_append_right _ (List.mem_of_getElem? (i := 200) rfl), rfl⟩
theorem tg_201 : Cond.methodLink "DeafAuction" 68 yX8_firstFault ∈ lw_g := List.mem_filter.mpr ⟨List.mem_append_right _ (List.mem_of_getElem? (i := 201) (by decide +kernel)), by decide +kernel⟩
theorem tg_202 : Cond.static yX8_firstFault ∈ lw_g := List.mem_filter.mpr ⟨List.mem_append_right _ (List.mem_of_getElem? (i := 202) (by decide +kernel)), by decide +kernel⟩
set_option maxRecDepth 100000 in
theorem tg_203 : Cond.code yX8_firstFault prog_1_method_39_code 4 (some FieldType.int) ∈ lw_g := List.mem_filter.mpr ⟨List.mem_append_right _ (List.mem_of_getElem? (i := 203) rfl), rfl⟩
theorem tg_204 : Cond.methodLink "DeafAuction" 238 yX8_goesOn ∈ lw_g := List.mem_filter.mpr ⟨List.mem_append_right _ (List.mem_of_getElem? (i := 204) (by decide +kernel)), by decide +kernel⟩
theorem tg_205 : Cond.static yX8_goesOn ∈ lw_g := List.mem_filter.mpr ⟨List.mem_append_right _ (List.mem_of_getElem? (i := 205) (by decide +kernel)), by decide +kernel⟩
set_option maxRecDepth 100000 in
theorem tg_206 : Cond.code yX8_goesOn prog_1_method_40_code 4 (some FieldType.boolean) ∈ lw_g := List.mem_filter.mpr ⟨List.mem_append_right _ (List.mem_of_getElem? (i := 206) rfl), rfl⟩
theorem tg_207 : Cond.methodLink "DeafAuction" 209 yX6_at ∈ lw_g := List.mem_filter.mpr ⟨List.mem_append_right _ (List.mem_of_getElem? (i := 207) (by decide +kernel)), by decide +kernel⟩
theorem tg_208 : Cond.instanceMethod yX6_at ∈ lw_g := List.mem_filter.mpr ⟨List.mem_append_right _ (List.mem_of_getElem? (i := 208) (by decide +kernel)), by decide +kernel⟩
theorem tg_209 : Cond.selects "DeafAuction$Sheet" yX6_at yX6_at ∈ lw_g := List.mem_filter.mpr ⟨List.mem_append_right _ (List.mem_of_getElem? (i := 209) (by decide +kernel)), by decide +kernel⟩
set_option maxRecDepth 100000 in
theorem tg_210 : Cond.code yX6_at prog_8_method_5_code 2 (some FieldType.int) ∈ lw_g := List.mem_filter.mpr ⟨List.mem_append_right _ (List.mem_of_getElem? (i := 210) rfl), rfl⟩
theorem tg_212 : Cond.methodLink "DeafAuction" 241 yX8_isAmong ∈ lw_g := List.mem_filter.mpr ⟨List.mem_append_right _ (List.mem_of_getElem? (i := 212) (by decide +kernel)), by decide +kernel⟩
theorem tg_213 : Cond.static yX8_isAmong ∈ lw_g := List.mem_filter.mpr ⟨List.mem_append_right _ (List.mem_of_getElem? (i := 213) (by decide +kernel)), by decide +kernel⟩
set_option maxRecDepth 100000 in
theorem tg_214 : Cond.code yX8_isAmong prog_1_method_41_code 3 (some FieldType.boolean) ∈ lw_g := List.mem_filter.mpr ⟨List.mem_append_right _ (List.mem_of_getElem? (i := 214) rfl), rfl⟩
theorem tg_215 : Cond.methodLink "DeafAuction" 244 yX8_isOneMoreLetIn ∈ lw_g := List.mem_filter.mpr ⟨List.mem_append_right _ (List.mem_of_getElem? (i := 215) (by decide +kernel)), by decide +kernel⟩
theorem tg_216 : Cond.static yX8_isOneMoreLetIn ∈ lw_g := List.mem_filter.mpr ⟨List.mem_append_right _ (List.mem_of_getElem? (i := 216) (by decide +kernel)), by decide +kernel⟩
set_option maxRecDepth 100000 in
theorem tg_217 : Cond.code yX8_isOneMoreLetIn prog_1_method_42_code 5 (some FieldType.boolean) ∈ lw_g := List.mem_filter.mpr ⟨List.mem_append_right _ (List.mem_of_getElem? (i := 217) rfl), rfl⟩
theorem tg_218 : Cond.methodLink "DeafAuction" 247 yX8_digitAt ∈ lw_g := List.mem_filter.mpr ⟨List.mem_append_right _ (List.mem_of_getElem? (i := 218) (by decide +kernel)), by decide +kernel⟩
theorem tg_219 : Cond.static yX8_digitAt ∈ lw_g := List.mem_filter.mpr ⟨List.mem_append_right _ (List.mem_of_getElem? (i := 219) (by decide +kernel)), by decide +kernel⟩
set_option maxRecDepth 100000 in
theorem tg_220 : Cond.code yX8_digitAt prog_1_method_43_code 2 (some FieldType.int) ∈ lw_g := List.mem_filter.mpr ⟨List.mem_append_right _ (List.mem_of_getElem? (i := 220) rfl), rfl⟩
theorem tg_221 : Cond.methodLink "DeafAuction" 72 yX8_fillRoom ∈ lw_g := List.mem_filter.mpr ⟨List.mem_append_right _ (List.mem_of_getElem? (i := 221) (by decide +kernel)), by decide +kernel⟩
theorem tg_223 : Cond.instanceMethod yX8_fillRoom ∈ lw_g := List.mem_filter.mpr ⟨List.mem_append_right _ (List.mem_of_getElem? (i := 223) (by decide +kernel)), by decide +kernel⟩
set_option maxRecDepth 100000 in
theorem tg_224 : Cond.code yX8_fillRoom prog_1_method_44_code 6 none ∈ lw_g := List.mem_filter.mpr ⟨List.mem_append_right _ (List.mem_of_getElem? (i := 224) rfl), rfl⟩
theorem tg_225 : Cond.methodLink "DeafAuction" 251 yX5_lay ∈ lw_g := List.mem_filter.mpr ⟨List.mem_append_right _ (List.mem_of_getElem? (i := 225) (by decide +kernel)), by decide +kernel⟩
theorem tg_226 : Cond.instanceMethod yX5_lay ∈ lw_g := List.mem_filter.mpr ⟨List.mem_append_right _ (List.mem_of_getElem? (i := 226) (by decide +kernel)), by decide +kernel⟩
theorem tg_227 : Cond.selects "DeafAuction$Room" yX5_lay yX5_lay ∈ lw_g := List.mem_filter.mpr ⟨List.mem_append_right _ (List.mem_of_getElem? (i := 227) (by decide +kernel)), by decide +kernel⟩
set_option maxRecDepth 100000 in
theorem tg_228 : Cond.code yX5_lay prog_7_method_2_code 5 none ∈ lw_g := List.mem_filter.mpr ⟨List.mem_append_right _ (List.mem_of_getElem? (i := 228) rfl), rfl⟩
theorem tg_229 : Cond.methodLink "DeafAuction" 252 yX8_buyerBy ∈ lw_g := List.mem_filter.mpr ⟨List.mem_append_right _ (List.mem_of_getElem? (i := 229) (by decide +kernel)), by decide +kernel⟩
theorem tg_230 : Cond.static yX8_buyerBy ∈ lw_g := List.mem_filter.mpr ⟨List.mem_append_right _ (List.mem_of_getElem? (i := 230) (by decide +kernel)), by decide +kernel⟩
set_option maxRecDepth 100000 in
theorem tg_231 : Cond.code yX8_buyerBy prog_1_method_45_code 3 (some (.object "DeafAuction$Buyer")) ∈ lw_g := List.mem_filter.mpr ⟨List.mem_append_right _ (List.mem_of_getElem? (i := 231) rfl), rfl⟩
theorem tg_232 : Cond.classLink "DeafAuction" 233 "DeafAuction$Nervous" ∈ lw_g := List.mem_filter.mpr ⟨List.mem_append_right _ (List.mem_of_getElem? (i := 232) (by decide +kernel)), by decide +kernel⟩
theorem tg_233 : Cond.instantiable "DeafAuction$Nervous" 4 ∈ lw_g := List.mem_filter.mpr ⟨List.mem_append_right _ (List.mem_of_getElem? (i := 233) (by decide +kernel)), by decide +kernel⟩
theorem tg_234 : Cond.methodLink "DeafAuction" 260 yX4_init ∈ lw_g := List.mem_filter.mpr ⟨List.mem_append_right _ (List.mem_of_getElem? (i := 234) (by decide +kernel)), by decide +kernel⟩
theorem tg_235 : Cond.instanceMethod yX4_init ∈ lw_g := List.mem_filter.mpr ⟨List.mem_append_right _ (List.mem_of_getElem? (i := 235) (by decide +kernel)), by decide +kernel⟩
set_option maxRecDepth 100000 in
theorem tg_236 : Cond.code yX4_init prog_6_method_1_code 3 none ∈ lw_g := List.mem_filter.mpr ⟨List.mem_append_right _ (List.mem_of_getElem? (i := 236) rfl), rfl⟩
theorem tg_237 : Cond.methodLink "DeafAuction$Nervous" 1 yX3_init ∈ lw_g := List.mem_filter.mpr ⟨List.mem_append_right _ (List.mem_of_getElem? (i := 237) (by decide +kernel)), by decide +kernel⟩
theorem tg_238 : Cond.instanceMethod yX3_init ∈ lw_g := List.mem_filter.mpr ⟨List.mem_append_right _ (List.mem_of_getElem? (i := 238) (by decide +kernel)), by decide +kernel⟩
set_option maxRecDepth 100000 in
theorem tg_239 : Cond.code yX3_init prog_5_method_1_code 3 none ∈ lw_g := List.mem_filter.mpr ⟨List.mem_append_right _ (List.mem_of_getElem? (i := 239) rfl), rfl⟩
theorem tg_240 : Cond.methodLink "DeafAuction$Hatted" 1 yX1_init ∈ lw_g := List.mem_filter.mpr ⟨List.mem_append_right _ (List.mem_of_getElem? (i := 240) (by decide +kernel)), by decide +kernel⟩
theorem tg_241 : Cond.instanceMethod yX1_init ∈ lw_g := List.mem_filter.mpr ⟨List.mem_append_right _ (List.mem_of_getElem? (i := 241) (by decide +kernel)), by decide +kernel⟩
set_option maxRecDepth 100000 in
theorem tg_242 : Cond.code yX1_init prog_3_method_1_code 3 none ∈ lw_g := List.mem_filter.mpr ⟨List.mem_append_right _ (List.mem_of_getElem? (i := 242) rfl), rfl⟩
theorem tg_243 : Cond.methodLink "DeafAuction$Buyer" 3 ⟨"java/lang/Object", "<init>", "()V"⟩ ∈ lw_g := List.mem_filter.mpr ⟨List.mem_append_right _ (List.mem_of_getElem? (i := 243) (by decide +kernel)), by decide +kernel⟩
theorem tg_244 : Cond.fieldLink "DeafAuction$Buyer" 9 "DeafAuction$Buyer" "number" "I" ∈ lw_g := List.mem_filter.mpr ⟨List.mem_append_right _ (List.mem_of_getElem? (i := 244) (by decide +kernel)), by decide +kernel⟩
theorem tg_245 : Cond.fieldLink "DeafAuction" 264 "DeafAuction$Buyer" "number" "I" ∈ lw_g := List.mem_filter.mpr ⟨List.mem_append_right _ (List.mem_of_getElem? (i := 245) (by decide +kernel)), by decide +kernel⟩
theorem tg_246 : Cond.fieldLink "DeafAuction$Buyer" 15 "DeafAuction$Buyer" "purse" "I" ∈ lw_g := List.mem_filter.mpr ⟨List.mem_append_right _ (List.mem_of_getElem? (i := 246) (by decide +kernel)), by decide +kernel⟩
theorem tg_247 : Cond.fieldLink "DeafAuction$Bidding" 50 "DeafAuction$Buyer" "purse" "I" ∈ lw_g := List.mem_filter.mpr ⟨List.mem_append_right _ (List.mem_of_getElem? (i := 247) (by decide +kernel)), by decide +kernel⟩
theorem tg_248 : Cond.fieldLink "DeafAuction" 96 "DeafAuction$Buyer" "purse" "I" ∈ lw_g := List.mem_filter.mpr ⟨List.mem_append_right _ (List.mem_of_getElem? (i := 248) (by decide +kernel)), by decide +kernel⟩
theorem tg_249 : Cond.fieldLink "DeafAuction$Buyer" 18 "DeafAuction$Buyer" "worths" "[I" ∈ lw_g := List.mem_filter.mpr ⟨List.mem_append_right _ (List.mem_of_getElem? (i := 249) (by decide +kernel)), by decide +kernel⟩
theorem tg_250 : Cond.fieldLink "DeafAuction$Bidding" 61 "DeafAuction$Buyer" "worths" "[I" ∈ lw_g := List.mem_filter.mpr ⟨List.mem_append_right _ (List.mem_of_getElem? (i := 250) (by decide +kernel)), by decide +kernel⟩
theorem tg_251 : Cond.fieldLink "DeafAuction" 106 "DeafAuction$Buyer" "worths" "[I" ∈ lw_g := List.mem_filter.mpr ⟨List.mem_append_right _ (List.mem_of_getElem? (i := 251) (by decide +kernel)), by decide +kernel⟩
theorem tg_252 : Cond.fieldLink "DeafAuction$Buyer" 22 "DeafAuction$Buyer" "seat" "I" ∈ lw_g := List.mem_filter.mpr ⟨List.mem_append_right _ (List.mem_of_getElem? (i := 252) (by decide +kernel)), by decide +kernel⟩
theorem tg_253 : Cond.fieldLink "DeafAuction$Bidding" 45 "DeafAuction$Buyer" "seat" "I" ∈ lw_g := List.mem_filter.mpr ⟨List.mem_append_right _ (List.mem_of_getElem? (i := 253) (by decide +kernel)), by decide +kernel⟩
theorem tg_254 : Cond.fieldLink "DeafAuction" 93 "DeafAuction$Buyer" "seat" "I" ∈ lw_g := List.mem_filter.mpr ⟨List.mem_append_right _ (List.mem_of_getElem? (i := 254) (by decide +kernel)), by decide +kernel⟩
theorem tg_255 : Cond.fieldLink "DeafAuction$Room" 44 "DeafAuction$Buyer" "seat" "I" ∈ lw_g := List.mem_filter.mpr ⟨List.mem_append_right _ (List.mem_of_getElem? (i := 255) (by decide +kernel)), by decide +kernel⟩
theorem tg_264 : Cond.superclass "DeafAuction$Nervous" "DeafAuction$Hatted" ∈ lw_g := List.mem_filter.mpr ⟨List.mem_append_right _ (List.mem_of_getElem? (i := 264) (by decide +kernel)), by decide +kernel⟩
theorem tg_265 : Cond.classLink "DeafAuction" 231 "DeafAuction$Hatted" ∈ lw_g := List.mem_filter.mpr ⟨List.mem_append_right _ (List.mem_of_getElem? (i := 265) (by decide +kernel)), by decide +kernel⟩
theorem tg_266 : Cond.instantiable "DeafAuction$Hatted" 4 ∈ lw_g := List.mem_filter.mpr ⟨List.mem_append_right _ (List.mem_of_getElem? (i := 266) (by decide +kernel)), by decide +kernel⟩
theorem tg_267 : Cond.methodLink "DeafAuction" 262 yX3_init ∈ lw_g := List.mem_filter.mpr ⟨List.mem_append_right _ (List.mem_of_getElem? (i := 267) (by decide +kernel)), by decide +kernel⟩
theorem tg_272 : Cond.superclass "DeafAuction$Hatted" "DeafAuction$Buyer" ∈ lw_g := List.mem_filter.mpr ⟨List.mem_append_right _ (List.mem_of_getElem? (i := 272) (by decide +kernel)), by decide +kernel⟩
theorem tg_273 : Cond.classLink "DeafAuction" 88 "DeafAuction$Buyer" ∈ lw_g := List.mem_filter.mpr ⟨List.mem_append_right _ (List.mem_of_getElem? (i := 273) (by decide +kernel)), by decide +kernel⟩
theorem tg_274 : Cond.instantiable "DeafAuction$Buyer" 4 ∈ lw_g := List.mem_filter.mpr ⟨List.mem_append_right _ (List.mem_of_getElem? (i := 274) (by decide +kernel)), by decide +kernel⟩
theorem tg_275 : Cond.methodLink "DeafAuction" 263 yX1_init ∈ lw_g := List.mem_filter.mpr ⟨List.mem_append_right _ (List.mem_of_getElem? (i := 275) (by decide +kernel)), by decide +kernel⟩
theorem tg_280 : Cond.superclass "DeafAuction$Buyer" "java/lang/Object" ∈ lw_g := List.mem_filter.mpr ⟨List.mem_append_right _ (List.mem_of_getElem? (i := 280) (by decide +kernel)), by decide +kernel⟩
theorem tg_281 : Cond.methodLink "DeafAuction" 256 yX5_welcome ∈ lw_g := List.mem_filter.mpr ⟨List.mem_append_right _ (List.mem_of_getElem? (i := 281) (by decide +kernel)), by decide +kernel⟩
theorem tg_282 : Cond.instanceMethod yX5_welcome ∈ lw_g := List.mem_filter.mpr ⟨List.mem_append_right _ (List.mem_of_getElem? (i := 282) (by decide +kernel)), by decide +kernel⟩
theorem tg_283 : Cond.selects "DeafAuction$Room" yX5_welcome yX5_welcome ∈ lw_g := List.mem_filter.mpr ⟨List.mem_append_right _ (List.mem_of_getElem? (i := 283) (by decide +kernel)), by decide +kernel⟩
set_option maxRecDepth 100000 in
theorem tg_284 : Cond.code yX5_welcome prog_7_method_3_code 2 none ∈ lw_g := List.mem_filter.mpr ⟨List.mem_append_right _ (List.mem_of_getElem? (i := 284) rfl), rfl⟩
theorem tg_285 : Cond.methodLink "DeafAuction" 76 yX2_keepOnly ∈ lw_g := List.mem_filter.mpr ⟨List.mem_append_right _ (List.mem_of_getElem? (i := 285) (by decide +kernel)), by decide +kernel⟩
theorem tg_286 : Cond.instanceMethod yX2_keepOnly ∈ lw_g := List.mem_filter.mpr ⟨List.mem_append_right _ (List.mem_of_getElem? (i := 286) (by decide +kernel)), by decide +kernel⟩
theorem tg_287 : Cond.selects "DeafAuction$Clerk" yX2_keepOnly yX2_keepOnly ∈ lw_g := List.mem_filter.mpr ⟨List.mem_append_right _ (List.mem_of_getElem? (i := 287) (by decide +kernel)), by decide +kernel⟩
set_option maxRecDepth 100000 in
theorem tg_288 : Cond.code yX2_keepOnly prog_4_method_3_code 2 none ∈ lw_g := List.mem_filter.mpr ⟨List.mem_append_right _ (List.mem_of_getElem? (i := 288) rfl), rfl⟩
theorem tg_289 : Cond.methodLink "DeafAuctionLaw" 18 yX8_ofBuyer ∈ lw_g := List.mem_filter.mpr ⟨List.mem_append_right _ (List.mem_of_getElem? (i := 289) (by decide +kernel)), by decide +kernel⟩
theorem tg_290 : Cond.instanceMethod yX8_ofBuyer ∈ lw_g := List.mem_filter.mpr ⟨List.mem_append_right _ (List.mem_of_getElem? (i := 290) (by decide +kernel)), by decide +kernel⟩
theorem tg_291 : Cond.selects "DeafAuction" yX8_ofBuyer yX8_ofBuyer ∈ lw_g := List.mem_filter.mpr ⟨List.mem_append_right _ (List.mem_of_getElem? (i := 291) (by decide +kernel)), by decide +kernel⟩
set_option maxRecDepth 100000 in
theorem tg_292 : Cond.code yX8_ofBuyer prog_1_method_3_code 4 (some FieldType.int) ∈ lw_g := List.mem_filter.mpr ⟨List.mem_append_right _ (List.mem_of_getElem? (i := 292) rfl), rfl⟩
theorem tg_293 : Cond.methodLink "DeafAuction" 83 yX5_buyerOf ∈ lw_g := List.mem_filter.mpr ⟨List.mem_append_right _ (List.mem_of_getElem? (i := 293) (by decide +kernel)), by decide +kernel⟩
theorem tg_294 : Cond.instanceMethod yX5_buyerOf ∈ lw_g := List.mem_filter.mpr ⟨List.mem_append_right _ (List.mem_of_getElem? (i := 294) (by decide +kernel)), by decide +kernel⟩
theorem tg_295 : Cond.selects "DeafAuction$Room" yX5_buyerOf yX5_buyerOf ∈ lw_g := List.mem_filter.mpr ⟨List.mem_append_right _ (List.mem_of_getElem? (i := 295) (by decide +kernel)), by decide +kernel⟩
set_option maxRecDepth 100000 in
theorem tg_296 : Cond.code yX5_buyerOf prog_7_method_5_code 2 (some (.object "DeafAuction$Buyer")) ∈ lw_g := List.mem_filter.mpr ⟨List.mem_append_right _ (List.mem_of_getElem? (i := 296) rfl), rfl⟩
theorem tg_298 : Cond.methodLink "DeafAuction" 87 yX1_kind ∈ lw_g := List.mem_filter.mpr ⟨List.mem_append_right _ (List.mem_of_getElem? (i := 298) (by decide +kernel)), by decide +kernel⟩
theorem tg_299 : Cond.instanceMethod yX1_kind ∈ lw_g := List.mem_filter.mpr ⟨List.mem_append_right _ (List.mem_of_getElem? (i := 299) (by decide +kernel)), by decide +kernel⟩
theorem tg_300 : Cond.selects "DeafAuction$Buyer" yX1_kind yX1_kind ∈ lw_g := List.mem_filter.mpr ⟨List.mem_append_right _ (List.mem_of_getElem? (i := 300) (by decide +kernel)), by decide +kernel⟩
theorem tg_301 : Cond.sameMethod "DeafAuction$Buyer" "DeafAuction$Buyer" "kind" "()I" ∈ lw_g := List.mem_filter.mpr ⟨List.mem_append_right _ (List.mem_of_getElem? (i := 301) (by decide +kernel)), by decide +kernel⟩
theorem tg_302 : Cond.selects "DeafAuction$Hatted" yX1_kind yX3_kind ∈ lw_g := List.mem_filter.mpr ⟨List.mem_append_right _ (List.mem_of_getElem? (i := 302) (by decide +kernel)), by decide +kernel⟩
theorem tg_303 : Cond.instanceMethod yX3_kind ∈ lw_g := List.mem_filter.mpr ⟨List.mem_append_right _ (List.mem_of_getElem? (i := 303) (by decide +kernel)), by decide +kernel⟩
set_option maxRecDepth 100000 in
theorem tg_304 : Cond.code yX3_kind prog_5_method_2_code 1 (some FieldType.int) ∈ lw_g := List.mem_filter.mpr ⟨List.mem_append_right _ (List.mem_of_getElem? (i := 304) rfl), rfl⟩
theorem tg_305 : Cond.selects "DeafAuction$Nervous" yX1_kind yX4_kind ∈ lw_g := List.mem_filter.mpr ⟨List.mem_append_right _ (List.mem_of_getElem? (i := 305) (by decide +kernel)), by decide +kernel⟩
theorem tg_306 : Cond.instanceMethod yX4_kind ∈ lw_g := List.mem_filter.mpr ⟨List.mem_append_right _ (List.mem_of_getElem? (i := 306) (by decide +kernel)), by decide +kernel⟩
set_option maxRecDepth 100000 in
theorem tg_307 : Cond.code yX4_kind prog_6_method_2_code 1 (some FieldType.int) ∈ lw_g := List.mem_filter.mpr ⟨List.mem_append_right _ (List.mem_of_getElem? (i := 307) rfl), rfl⟩
set_option maxRecDepth 100000 in
theorem tg_308 : Cond.code yX1_kind prog_3_method_2_code 1 (some FieldType.int) ∈ lw_g := List.mem_filter.mpr ⟨List.mem_append_right _ (List.mem_of_getElem? (i := 308) rfl), rfl⟩
theorem tg_309 : Cond.methodLink "DeafAuction" 99 yX5_shows ∈ lw_g := List.mem_filter.mpr ⟨List.mem_append_right _ (List.mem_of_getElem? (i := 309) (by decide +kernel)), by decide +kernel⟩
theorem tg_310 : Cond.instanceMethod yX5_shows ∈ lw_g := List.mem_filter.mpr ⟨List.mem_append_right _ (List.mem_of_getElem? (i := 310) (by decide +kernel)), by decide +kernel⟩
theorem tg_311 : Cond.selects "DeafAuction$Room" yX5_shows yX5_shows ∈ lw_g := List.mem_filter.mpr ⟨List.mem_append_right _ (List.mem_of_getElem? (i := 311) (by decide +kernel)), by decide +kernel⟩
set_option maxRecDepth 100000 in
theorem tg_312 : Cond.code yX5_shows prog_7_method_9_code 3 (some FieldType.boolean) ∈ lw_g := List.mem_filter.mpr ⟨List.mem_append_right _ (List.mem_of_getElem? (i := 312) rfl), rfl⟩
theorem tg_313 : Cond.methodLink "DeafAuction$Room" 47 yX1_wearsHat ∈ lw_g := List.mem_filter.mpr ⟨List.mem_append_right _ (List.mem_of_getElem? (i := 313) (by decide +kernel)), by decide +kernel⟩
theorem tg_314 : Cond.instanceMethod yX1_wearsHat ∈ lw_g := List.mem_filter.mpr ⟨List.mem_append_right _ (List.mem_of_getElem? (i := 314) (by decide +kernel)), by decide +kernel⟩
theorem tg_315 : Cond.selects "DeafAuction$Buyer" yX1_wearsHat yX1_wearsHat ∈ lw_g := List.mem_filter.mpr ⟨List.mem_append_right _ (List.mem_of_getElem? (i := 315) (by decide +kernel)), by decide +kernel⟩
theorem tg_316 : Cond.sameMethod "DeafAuction$Buyer" "DeafAuction$Buyer" "wearsHat" "()Z" ∈ lw_g := List.mem_filter.mpr ⟨List.mem_append_right _ (List.mem_of_getElem? (i := 316) (by decide +kernel)), by decide +kernel⟩
theorem tg_317 : Cond.selects "DeafAuction$Hatted" yX1_wearsHat yX3_wearsHat ∈ lw_g := List.mem_filter.mpr ⟨List.mem_append_right _ (List.mem_of_getElem? (i := 317) (by decide +kernel)), by decide +kernel⟩
theorem tg_318 : Cond.instanceMethod yX3_wearsHat ∈ lw_g := List.mem_filter.mpr ⟨List.mem_append_right _ (List.mem_of_getElem? (i := 318) (by decide +kernel)), by decide +kernel⟩
set_option maxRecDepth 100000 in
theorem tg_319 : Cond.code yX3_wearsHat prog_5_method_3_code 1 (some FieldType.boolean) ∈ lw_g := List.mem_filter.mpr ⟨List.mem_append_right _ (List.mem_of_getElem? (i := 319) rfl), rfl⟩
theorem tg_320 : Cond.selects "DeafAuction$Nervous" yX1_wearsHat yX3_wearsHat ∈ lw_g := List.mem_filter.mpr ⟨List.mem_append_right _ (List.mem_of_getElem? (i := 320) (by decide +kernel)), by decide +kernel⟩
set_option maxRecDepth 100000 in
theorem tg_321 : Cond.code yX1_wearsHat prog_3_method_3_code 1 (some FieldType.boolean) ∈ lw_g := List.mem_filter.mpr ⟨List.mem_append_right _ (List.mem_of_getElem? (i := 321) rfl), rfl⟩
theorem tg_322 : Cond.methodLink "DeafAuction$Room" 51 yX5_isFreeFor ∈ lw_g := List.mem_filter.mpr ⟨List.mem_append_right _ (List.mem_of_getElem? (i := 322) (by decide +kernel)), by decide +kernel⟩
theorem tg_323 : Cond.instanceMethod yX5_isFreeFor ∈ lw_g := List.mem_filter.mpr ⟨List.mem_append_right _ (List.mem_of_getElem? (i := 323) (by decide +kernel)), by decide +kernel⟩
theorem tg_324 : Cond.selects "DeafAuction$Room" yX5_isFreeFor yX5_isFreeFor ∈ lw_g := List.mem_filter.mpr ⟨List.mem_append_right _ (List.mem_of_getElem? (i := 324) (by decide +kernel)), by decide +kernel⟩
set_option maxRecDepth 100000 in
theorem tg_325 : Cond.code yX5_isFreeFor prog_7_method_8_code 5 (some FieldType.boolean) ∈ lw_g := List.mem_filter.mpr ⟨List.mem_append_right _ (List.mem_of_getElem? (i := 325) rfl), rfl⟩
theorem tg_326 : Cond.methodLink "DeafAuction$Room" 40 yX5_buyerOf ∈ lw_g := List.mem_filter.mpr ⟨List.mem_append_right _ (List.mem_of_getElem? (i := 326) (by decide +kernel)), by decide +kernel⟩
theorem tg_327 : Cond.methodLink "DeafAuctionLaw" 23 yX8_worth ∈ lw_g := List.mem_filter.mpr ⟨List.mem_append_right _ (List.mem_of_getElem? (i := 327) (by decide +kernel)), by decide +kernel⟩
theorem tg_328 : Cond.instanceMethod yX8_worth ∈ lw_g := List.mem_filter.mpr ⟨List.mem_append_right _ (List.mem_of_getElem? (i := 328) (by decide +kernel)), by decide +kernel⟩
theorem tg_329 : Cond.selects "DeafAuction" yX8_worth yX8_worth ∈ lw_g := List.mem_filter.mpr ⟨List.mem_append_right _ (List.mem_of_getElem? (i := 329) (by decide +kernel)), by decide +kernel⟩
set_option maxRecDepth 100000 in
theorem tg_330 : Cond.code yX8_worth prog_1_method_4_code 6 (some FieldType.int) ∈ lw_g := List.mem_filter.mpr ⟨List.mem_append_right _ (List.mem_of_getElem? (i := 330) rfl), rfl⟩
theorem tg_331 : Cond.methodLink "DeafAuction" 103 yX8_isLot ∈ lw_g := List.mem_filter.mpr ⟨List.mem_append_right _ (List.mem_of_getElem? (i := 331) (by decide +kernel)), by decide +kernel⟩
theorem tg_332 : Cond.static yX8_isLot ∈ lw_g := List.mem_filter.mpr ⟨List.mem_append_right _ (List.mem_of_getElem? (i := 332) (by decide +kernel)), by decide +kernel⟩
set_option maxRecDepth 100000 in
theorem tg_333 : Cond.code yX8_isLot prog_1_method_35_code 1 (some FieldType.boolean) ∈ lw_g := List.mem_filter.mpr ⟨List.mem_append_right _ (List.mem_of_getElem? (i := 333) rfl), rfl⟩
theorem tg_334 : Cond.methodLink "DeafAuctionLaw" 28 yX8_limit ∈ lw_g := List.mem_filter.mpr ⟨List.mem_append_right _ (List.mem_of_getElem? (i := 334) (by decide +kernel)), by decide +kernel⟩
theorem tg_335 : Cond.instanceMethod yX8_limit ∈ lw_g := List.mem_filter.mpr ⟨List.mem_append_right _ (List.mem_of_getElem? (i := 335) (by decide +kernel)), by decide +kernel⟩
theorem tg_336 : Cond.selects "DeafAuction" yX8_limit yX8_limit ∈ lw_g := List.mem_filter.mpr ⟨List.mem_append_right _ (List.mem_of_getElem? (i := 336) (by decide +kernel)), by decide +kernel⟩
set_option maxRecDepth 100000 in
theorem tg_337 : Cond.code yX8_limit prog_1_method_5_code 4 (some FieldType.int) ∈ lw_g := List.mem_filter.mpr ⟨List.mem_append_right _ (List.mem_of_getElem? (i := 337) rfl), rfl⟩
theorem tg_338 : Cond.methodLink "DeafAuction" 110 yX1_limitBy ∈ lw_g := List.mem_filter.mpr ⟨List.mem_append_right _ (List.mem_of_getElem? (i := 338) (by decide +kernel)), by decide +kernel⟩
theorem tg_339 : Cond.instanceMethod yX1_limitBy ∈ lw_g := List.mem_filter.mpr ⟨List.mem_append_right _ (List.mem_of_getElem? (i := 339) (by decide +kernel)), by decide +kernel⟩
theorem tg_340 : Cond.selects "DeafAuction$Buyer" yX1_limitBy yX1_limitBy ∈ lw_g := List.mem_filter.mpr ⟨List.mem_append_right _ (List.mem_of_getElem? (i := 340) (by decide +kernel)), by decide +kernel⟩
theorem tg_341 : Cond.sameMethod "DeafAuction$Buyer" "DeafAuction$Buyer" "limitBy" "(II)I" ∈ lw_g := List.mem_filter.mpr ⟨List.mem_append_right _ (List.mem_of_getElem? (i := 341) (by decide +kernel)), by decide +kernel⟩
theorem tg_342 : Cond.selects "DeafAuction$Hatted" yX1_limitBy yX1_limitBy ∈ lw_g := List.mem_filter.mpr ⟨List.mem_append_right _ (List.mem_of_getElem? (i := 342) (by decide +kernel)), by decide +kernel⟩
theorem tg_343 : Cond.selects "DeafAuction$Nervous" yX1_limitBy yX4_limitBy ∈ lw_g := List.mem_filter.mpr ⟨List.mem_append_right _ (List.mem_of_getElem? (i := 343) (by decide +kernel)), by decide +kernel⟩
theorem tg_344 : Cond.instanceMethod yX4_limitBy ∈ lw_g := List.mem_filter.mpr ⟨List.mem_append_right _ (List.mem_of_getElem? (i := 344) (by decide +kernel)), by decide +kernel⟩
set_option maxRecDepth 100000 in
theorem tg_345 : Cond.code yX4_limitBy prog_6_method_3_code 3 (some FieldType.int) ∈ lw_g := List.mem_filter.mpr ⟨List.mem_append_right _ (List.mem_of_getElem? (i := 345) rfl), rfl⟩
theorem tg_346 : Cond.methodLink "DeafAuction$Nervous" 7 yJ9_min_7cf53 ∈ lw_g := List.mem_filter.mpr ⟨List.mem_append_right _ (List.mem_of_getElem? (i := 346) (by decide +kernel)), by decide +kernel⟩
theorem tg_347 : Cond.static yJ9_min_7cf53 ∈ lw_g := List.mem_filter.mpr ⟨List.mem_append_right _ (List.mem_of_getElem? (i := 347) (by decide +kernel)), by decide +kernel⟩
set_option maxRecDepth 100000 in
theorem tg_348 : Cond.code yJ9_min_7cf53 prog_12_method_69_code 2 (some FieldType.int) ∈ lw_g := List.mem_filter.mpr ⟨List.mem_append_right _ (List.mem_of_getElem? (i := 348) rfl), rfl⟩
theorem tg_349 : Cond.methodLink "DeafAuction$Nervous" 13 yJ9_max_7cf53 ∈ lw_g := List.mem_filter.mpr ⟨List.mem_append_right _ (List.mem_of_getElem? (i := 349) (by decide +kernel)), by decide +kernel⟩
theorem tg_350 : Cond.static yJ9_max_7cf53 ∈ lw_g := List.mem_filter.mpr ⟨List.mem_append_right _ (List.mem_of_getElem? (i := 350) (by decide +kernel)), by decide +kernel⟩
set_option maxRecDepth 100000 in
theorem tg_351 : Cond.code yJ9_max_7cf53 prog_12_method_65_code 2 (some FieldType.int) ∈ lw_g := List.mem_filter.mpr ⟨List.mem_append_right _ (List.mem_of_getElem? (i := 351) rfl), rfl⟩
set_option maxRecDepth 100000 in
theorem tg_352 : Cond.code yX1_limitBy prog_3_method_4_code 3 (some FieldType.int) ∈ lw_g := List.mem_filter.mpr ⟨List.mem_append_right _ (List.mem_of_getElem? (i := 352) rfl), rfl⟩
theorem tg_353 : Cond.methodLink "DeafAuction$Buyer" 25 yJ9_min_7cf53 ∈ lw_g := List.mem_filter.mpr ⟨List.mem_append_right _ (List.mem_of_getElem? (i := 353) (by decide +kernel)), by decide +kernel⟩
theorem tg_354 : Cond.methodLink "DeafAuctionLaw" 32 yX8_sit ∈ lw_g := List.mem_filter.mpr ⟨List.mem_append_right _ (List.mem_of_getElem? (i := 354) (by decide +kernel)), by decide +kernel⟩
theorem tg_355 : Cond.instanceMethod yX8_sit ∈ lw_g := List.mem_filter.mpr ⟨List.mem_append_right _ (List.mem_of_getElem? (i := 355) (by decide +kernel)), by decide +kernel⟩
theorem tg_356 : Cond.selects "DeafAuction" yX8_sit yX8_sit ∈ lw_g := List.mem_filter.mpr ⟨List.mem_append_right _ (List.mem_of_getElem? (i := 356) (by decide +kernel)), by decide +kernel⟩
set_option maxRecDepth 100000 in
theorem tg_357 : Cond.code yX8_sit prog_1_method_6_code 5 (some FieldType.int) ∈ lw_g := List.mem_filter.mpr ⟨List.mem_append_right _ (List.mem_of_getElem? (i := 357) rfl), rfl⟩
theorem tg_358 : Cond.methodLink "DeafAuction" 121 yX5_isFreeFor ∈ lw_g := List.mem_filter.mpr ⟨List.mem_append_right _ (List.mem_of_getElem? (i := 358) (by decide +kernel)), by decide +kernel⟩
theorem tg_359 : Cond.methodLink "DeafAuctionLaw" 36 yX8_law ∈ lw_g := List.mem_filter.mpr ⟨List.mem_append_right _ (List.mem_of_getElem? (i := 359) (by decide +kernel)), by decide +kernel⟩
theorem tg_360 : Cond.instanceMethod yX8_law ∈ lw_g := List.mem_filter.mpr ⟨List.mem_append_right _ (List.mem_of_getElem? (i := 360) (by decide +kernel)), by decide +kernel⟩
theorem tg_361 : Cond.selects "DeafAuction" yX8_law yX8_law ∈ lw_g := List.mem_filter.mpr ⟨List.mem_append_right _ (List.mem_of_getElem? (i := 361) (by decide +kernel)), by decide +kernel⟩
set_option maxRecDepth 100000 in
theorem tg_362 : Cond.code yX8_law prog_1_method_7_code 3 (some FieldType.int) ∈ lw_g := List.mem_filter.mpr ⟨List.mem_append_right _ (List.mem_of_getElem? (i := 362) rfl), rfl⟩
theorem tg_363 : Cond.methodLink "DeafAuction" 125 yX5_isThere ∈ lw_g := List.mem_filter.mpr ⟨List.mem_append_right _ (List.mem_of_getElem? (i := 363) (by decide +kernel)), by decide +kernel⟩
theorem tg_364 : Cond.instanceMethod yX5_isThere ∈ lw_g := List.mem_filter.mpr ⟨List.mem_append_right _ (List.mem_of_getElem? (i := 364) (by decide +kernel)), by decide +kernel⟩
theorem tg_365 : Cond.selects "DeafAuction$Room" yX5_isThere yX5_isThere ∈ lw_g := List.mem_filter.mpr ⟨List.mem_append_right _ (List.mem_of_getElem? (i := 365) (by decide +kernel)), by decide +kernel⟩
set_option maxRecDepth 100000 in
theorem tg_366 : Cond.code yX5_isThere prog_7_method_4_code 1 (some FieldType.boolean) ∈ lw_g := List.mem_filter.mpr ⟨List.mem_append_right _ (List.mem_of_getElem? (i := 366) rfl), rfl⟩
theorem tg_367 : Cond.methodLink "DeafAuctionLaw" 41 yX8_sale ∈ lw_g := List.mem_filter.mpr ⟨List.mem_append_right _ (List.mem_of_getElem? (i := 367) (by decide +kernel)), by decide +kernel⟩
theorem tg_368 : Cond.instanceMethod yX8_sale ∈ lw_g := List.mem_filter.mpr ⟨List.mem_append_right _ (List.mem_of_getElem? (i := 368) (by decide +kernel)), by decide +kernel⟩
theorem tg_369 : Cond.selects "DeafAuction" yX8_sale yX8_sale ∈ lw_g := List.mem_filter.mpr ⟨List.mem_append_right _ (List.mem_of_getElem? (i := 369) (by decide +kernel)), by decide +kernel⟩
set_option maxRecDepth 100000 in
theorem tg_370 : Cond.code yX8_sale prog_1_method_8_code 3 (some FieldType.int) ∈ lw_g := List.mem_filter.mpr ⟨List.mem_append_right _ (List.mem_of_getElem? (i := 370) rfl), rfl⟩
theorem tg_371 : Cond.methodLink "DeafAuction" 132 yX8_sellTo ∈ lw_g := List.mem_filter.mpr ⟨List.mem_append_right _ (List.mem_of_getElem? (i := 371) (by decide +kernel)), by decide +kernel⟩
theorem tg_373 : Cond.instanceMethod yX8_sellTo ∈ lw_g := List.mem_filter.mpr ⟨List.mem_append_right _ (List.mem_of_getElem? (i := 373) (by decide +kernel)), by decide +kernel⟩
set_option maxRecDepth 100000 in
theorem tg_374 : Cond.code yX8_sellTo prog_1_method_46_code 3 none ∈ lw_g := List.mem_filter.mpr ⟨List.mem_append_right _ (List.mem_of_getElem? (i := 374) rfl), rfl⟩
theorem tg_375 : Cond.methodLink "DeafAuction" 177 yX0_gather ∈ lw_g := List.mem_filter.mpr ⟨List.mem_append_right _ (List.mem_of_getElem? (i := 375) (by decide +kernel)), by decide +kernel⟩
theorem tg_376 : Cond.instanceMethod yX0_gather ∈ lw_g := List.mem_filter.mpr ⟨List.mem_append_right _ (List.mem_of_getElem? (i := 376) (by decide +kernel)), by decide +kernel⟩
theorem tg_377 : Cond.selects "DeafAuction$Bidding" yX0_gather yX0_gather ∈ lw_g := List.mem_filter.mpr ⟨List.mem_append_right _ (List.mem_of_getElem? (i := 377) (by decide +kernel)), by decide +kernel⟩
set_option maxRecDepth 100000 in
theorem tg_378 : Cond.code yX0_gather prog_2_method_2_code 4 none ∈ lw_g := List.mem_filter.mpr ⟨List.mem_append_right _ (List.mem_of_getElem? (i := 378) rfl), rfl⟩
theorem tg_379 : Cond.methodLink "DeafAuction$Bidding" 35 yX5_buyerOf ∈ lw_g := List.mem_filter.mpr ⟨List.mem_append_right _ (List.mem_of_getElem? (i := 379) (by decide +kernel)), by decide +kernel⟩
theorem tg_381 : Cond.static yX8_isIn ∈ lw_g := List.mem_filter.mpr ⟨List.mem_append_right _ (List.mem_of_getElem? (i := 381) (by decide +kernel)), by decide +kernel⟩
set_option maxRecDepth 100000 in
theorem tg_382 : Cond.code yX8_isIn prog_1_method_34_code 2 (some FieldType.boolean) ∈ lw_g := List.mem_filter.mpr ⟨List.mem_append_right _ (List.mem_of_getElem? (i := 382) rfl), rfl⟩
theorem tg_383 : Cond.methodLink "DeafAuction$Bidding" 53 yX1_wearsHat ∈ lw_g := List.mem_filter.mpr ⟨List.mem_append_right _ (List.mem_of_getElem? (i := 383) (by decide +kernel)), by decide +kernel⟩
theorem tg_384 : Cond.methodLink "DeafAuction" 180 yX0_offer ∈ lw_g := List.mem_filter.mpr ⟨List.mem_append_right _ (List.mem_of_getElem? (i := 384) (by decide +kernel)), by decide +kernel⟩
theorem tg_385 : Cond.instanceMethod yX0_offer ∈ lw_g := List.mem_filter.mpr ⟨List.mem_append_right _ (List.mem_of_getElem? (i := 385) (by decide +kernel)), by decide +kernel⟩
theorem tg_386 : Cond.selects "DeafAuction$Bidding" yX0_offer yX0_offer ∈ lw_g := List.mem_filter.mpr ⟨List.mem_append_right _ (List.mem_of_getElem? (i := 386) (by decide +kernel)), by decide +kernel⟩
set_option maxRecDepth 100000 in
theorem tg_387 : Cond.code yX0_offer prog_2_method_3_code 4 none ∈ lw_g := List.mem_filter.mpr ⟨List.mem_append_right _ (List.mem_of_getElem? (i := 387) rfl), rfl⟩
theorem tg_389 : Cond.methodLink "DeafAuction$Bidding" 64 yX1_limitBy ∈ lw_g := List.mem_filter.mpr ⟨List.mem_append_right _ (List.mem_of_getElem? (i := 389) (by decide +kernel)), by decide +kernel⟩
theorem tg_390 : Cond.methodLink "DeafAuction" 186 yX0_hold ∈ lw_g := List.mem_filter.mpr ⟨List.mem_append_right _ (List.mem_of_getElem? (i := 390) (by decide +kernel)), by decide +kernel⟩
theorem tg_391 : Cond.instanceMethod yX0_hold ∈ lw_g := List.mem_filter.mpr ⟨List.mem_append_right _ (List.mem_of_getElem? (i := 391) (by decide +kernel)), by decide +kernel⟩
theorem tg_392 : Cond.selects "DeafAuction$Bidding" yX0_hold yX0_hold ∈ lw_g := List.mem_filter.mpr ⟨List.mem_append_right _ (List.mem_of_getElem? (i := 392) (by decide +kernel)), by decide +kernel⟩
set_option maxRecDepth 100000 in
theorem tg_393 : Cond.code yX0_hold prog_2_method_5_code 3 none ∈ lw_g := List.mem_filter.mpr ⟨List.mem_append_right _ (List.mem_of_getElem? (i := 393) rfl), rfl⟩
theorem tg_394 : Cond.methodLink "DeafAuction$Bidding" 77 yX5_seatsTwice ∈ lw_g := List.mem_filter.mpr ⟨List.mem_append_right _ (List.mem_of_getElem? (i := 394) (by decide +kernel)), by decide +kernel⟩
theorem tg_395 : Cond.instanceMethod yX5_seatsTwice ∈ lw_g := List.mem_filter.mpr ⟨List.mem_append_right _ (List.mem_of_getElem? (i := 395) (by decide +kernel)), by decide +kernel⟩
theorem tg_396 : Cond.selects "DeafAuction$Room" yX5_seatsTwice yX5_seatsTwice ∈ lw_g := List.mem_filter.mpr ⟨List.mem_append_right _ (List.mem_of_getElem? (i := 396) (by decide +kernel)), by decide +kernel⟩
set_option maxRecDepth 100000 in
theorem tg_397 : Cond.code yX5_seatsTwice prog_7_method_7_code 1 (some FieldType.int) ∈ lw_g := List.mem_filter.mpr ⟨List.mem_append_right _ (List.mem_of_getElem? (i := 397) rfl), rfl⟩
theorem tg_398 : Cond.methodLink "DeafAuction$Bidding" 84 yX0_lineUp ∈ lw_g := List.mem_filter.mpr ⟨List.mem_append_right _ (List.mem_of_getElem? (i := 398) (by decide +kernel)), by decide +kernel⟩
theorem tg_400 : Cond.instanceMethod yX0_lineUp ∈ lw_g := List.mem_filter.mpr ⟨List.mem_append_right _ (List.mem_of_getElem? (i := 400) (by decide +kernel)), by decide +kernel⟩
set_option maxRecDepth 100000 in
theorem tg_401 : Cond.code yX0_lineUp prog_2_method_8_code 3 none ∈ lw_g := List.mem_filter.mpr ⟨List.mem_append_right _ (List.mem_of_getElem? (i := 401) rfl), rfl⟩
theorem tg_402 : Cond.methodLink "DeafAuction$Bidding" 87 yX0_nextBidder ∈ lw_g := List.mem_filter.mpr ⟨List.mem_append_right _ (List.mem_of_getElem? (i := 402) (by decide +kernel)), by decide +kernel⟩
theorem tg_404 : Cond.instanceMethod yX0_nextBidder ∈ lw_g := List.mem_filter.mpr ⟨List.mem_append_right _ (List.mem_of_getElem? (i := 404) (by decide +kernel)), by decide +kernel⟩
set_option maxRecDepth 100000 in
theorem tg_405 : Cond.code yX0_nextBidder prog_2_method_9_code 3 (some FieldType.int) ∈ lw_g := List.mem_filter.mpr ⟨List.mem_append_right _ (List.mem_of_getElem? (i := 405) rfl), rfl⟩
theorem tg_406 : Cond.methodLink "DeafAuction$Bidding" 106 yX0_riseBy ∈ lw_g := List.mem_filter.mpr ⟨List.mem_append_right _ (List.mem_of_getElem? (i := 406) (by decide +kernel)), by decide +kernel⟩
theorem tg_408 : Cond.instanceMethod yX0_riseBy ∈ lw_g := List.mem_filter.mpr ⟨List.mem_append_right _ (List.mem_of_getElem? (i := 408) (by decide +kernel)), by decide +kernel⟩
set_option maxRecDepth 100000 in
theorem tg_409 : Cond.code yX0_riseBy prog_2_method_10_code 2 (some FieldType.int) ∈ lw_g := List.mem_filter.mpr ⟨List.mem_append_right _ (List.mem_of_getElem? (i := 409) rfl), rfl⟩
theorem tg_410 : Cond.methodLink "DeafAuction$Bidding" 110 yX0_isSeen ∈ lw_g := List.mem_filter.mpr ⟨List.mem_append_right _ (List.mem_of_getElem? (i := 410) (by decide +kernel)), by decide +kernel⟩
theorem tg_412 : Cond.instanceMethod yX0_isSeen ∈ lw_g := List.mem_filter.mpr ⟨List.mem_append_right _ (List.mem_of_getElem? (i := 412) (by decide +kernel)), by decide +kernel⟩
set_option maxRecDepth 100000 in
theorem tg_413 : Cond.code yX0_isSeen prog_2_method_11_code 3 (some FieldType.boolean) ∈ lw_g := List.mem_filter.mpr ⟨List.mem_append_right _ (List.mem_of_getElem? (i := 413) rfl), rfl⟩
theorem tg_414 : Cond.methodLink "DeafAuction$Bidding" 90 yX0_takeBidOf ∈ lw_g := List.mem_filter.mpr ⟨List.mem_append_right _ (List.mem_of_getElem? (i := 414) (by decide +kernel)), by decide +kernel⟩
theorem tg_416 : Cond.instanceMethod yX0_takeBidOf ∈ lw_g := List.mem_filter.mpr ⟨List.mem_append_right _ (List.mem_of_getElem? (i := 416) (by decide +kernel)), by decide +kernel⟩
set_option maxRecDepth 100000 in
theorem tg_417 : Cond.code yX0_takeBidOf prog_2_method_12_code 3 none ∈ lw_g := List.mem_filter.mpr ⟨List.mem_append_right _ (List.mem_of_getElem? (i := 417) rfl), rfl⟩
theorem tg_418 : Cond.methodLink "DeafAuctionLaw" 45 yX8_bid ∈ lw_g := List.mem_filter.mpr ⟨List.mem_append_right _ (List.mem_of_getElem? (i := 418) (by decide +kernel)), by decide +kernel⟩
theorem tg_419 : Cond.instanceMethod yX8_bid ∈ lw_g := List.mem_filter.mpr ⟨List.mem_append_right _ (List.mem_of_getElem? (i := 419) (by decide +kernel)), by decide +kernel⟩
theorem tg_420 : Cond.selects "DeafAuction" yX8_bid yX8_bid ∈ lw_g := List.mem_filter.mpr ⟨List.mem_append_right _ (List.mem_of_getElem? (i := 420) (by decide +kernel)), by decide +kernel⟩
set_option maxRecDepth 100000 in
theorem tg_421 : Cond.code yX8_bid prog_1_method_9_code 3 (some FieldType.int) ∈ lw_g := List.mem_filter.mpr ⟨List.mem_append_right _ (List.mem_of_getElem? (i := 421) rfl), rfl⟩
theorem tg_422 : Cond.methodLink "DeafAuction" 145 yX0_bidOf ∈ lw_g := List.mem_filter.mpr ⟨List.mem_append_right _ (List.mem_of_getElem? (i := 422) (by decide +kernel)), by decide +kernel⟩
theorem tg_423 : Cond.instanceMethod yX0_bidOf ∈ lw_g := List.mem_filter.mpr ⟨List.mem_append_right _ (List.mem_of_getElem? (i := 423) (by decide +kernel)), by decide +kernel⟩
theorem tg_424 : Cond.selects "DeafAuction$Bidding" yX0_bidOf yX0_bidOf ∈ lw_g := List.mem_filter.mpr ⟨List.mem_append_right _ (List.mem_of_getElem? (i := 424) (by decide +kernel)), by decide +kernel⟩
set_option maxRecDepth 100000 in
theorem tg_425 : Cond.code yX0_bidOf prog_2_method_7_code 2 (some FieldType.int) ∈ lw_g := List.mem_filter.mpr ⟨List.mem_append_right _ (List.mem_of_getElem? (i := 425) rfl), rfl⟩
theorem tg_426 : Cond.methodLink "DeafAuctionLaw" 49 yX8_ends ∈ lw_g := List.mem_filter.mpr ⟨List.mem_append_right _ (List.mem_of_getElem? (i := 426) (by decide +kernel)), by decide +kernel⟩
theorem tg_427 : Cond.instanceMethod yX8_ends ∈ lw_g := List.mem_filter.mpr ⟨List.mem_append_right _ (List.mem_of_getElem? (i := 427) (by decide +kernel)), by decide +kernel⟩
theorem tg_428 : Cond.selects "DeafAuction" yX8_ends yX8_ends ∈ lw_g := List.mem_filter.mpr ⟨List.mem_append_right _ (List.mem_of_getElem? (i := 428) (by decide +kernel)), by decide +kernel⟩
set_option maxRecDepth 100000 in
theorem tg_429 : Cond.code yX8_ends prog_1_method_10_code 3 (some FieldType.int) ∈ lw_g := List.mem_filter.mpr ⟨List.mem_append_right _ (List.mem_of_getElem? (i := 429) rfl), rfl⟩
theorem tg_430 : Cond.methodLink "DeafAuctionLaw" 53 yX8_row ∈ lw_g := List.mem_filter.mpr ⟨List.mem_append_right _ (List.mem_of_getElem? (i := 430) (by decide +kernel)), by decide +kernel⟩
theorem tg_431 : Cond.instanceMethod yX8_row ∈ lw_g := List.mem_filter.mpr ⟨List.mem_append_right _ (List.mem_of_getElem? (i := 431) (by decide +kernel)), by decide +kernel⟩
theorem tg_432 : Cond.selects "DeafAuction" yX8_row yX8_row ∈ lw_g := List.mem_filter.mpr ⟨List.mem_append_right _ (List.mem_of_getElem? (i := 432) (by decide +kernel)), by decide +kernel⟩
set_option maxRecDepth 100000 in
theorem tg_433 : Cond.code yX8_row prog_1_method_11_code 10 (some FieldType.int) ∈ lw_g := List.mem_filter.mpr ⟨List.mem_append_right _ (List.mem_of_getElem? (i := 433) rfl), rfl⟩
theorem tg_434 : Cond.methodLink "DeafAuction" 151 yX8_areLotsOnce ∈ lw_g := List.mem_filter.mpr ⟨List.mem_append_right _ (List.mem_of_getElem? (i := 434) (by decide +kernel)), by decide +kernel⟩
theorem tg_435 : Cond.static yX8_areLotsOnce ∈ lw_g := List.mem_filter.mpr ⟨List.mem_append_right _ (List.mem_of_getElem? (i := 435) (by decide +kernel)), by decide +kernel⟩
set_option maxRecDepth 100000 in
theorem tg_436 : Cond.code yX8_areLotsOnce prog_1_method_49_code 6 (some FieldType.boolean) ∈ lw_g := List.mem_filter.mpr ⟨List.mem_append_right _ (List.mem_of_getElem? (i := 436) rfl), rfl⟩
theorem tg_437 : Cond.methodLink "DeafAuction" 271 yX8_isIn ∈ lw_g := List.mem_filter.mpr ⟨List.mem_append_right _ (List.mem_of_getElem? (i := 437) (by decide +kernel)), by decide +kernel⟩
theorem tg_438 : Cond.methodLink "DeafAuction" 155 yX8_sellRow ∈ lw_g := List.mem_filter.mpr ⟨List.mem_append_right _ (List.mem_of_getElem? (i := 438) (by decide +kernel)), by decide +kernel⟩
theorem tg_440 : Cond.instanceMethod yX8_sellRow ∈ lw_g := List.mem_filter.mpr ⟨List.mem_append_right _ (List.mem_of_getElem? (i := 440) (by decide +kernel)), by decide +kernel⟩
set_option maxRecDepth 100000 in
theorem tg_441 : Cond.code yX8_sellRow prog_1_method_50_code 6 (some FieldType.int) ∈ lw_g := List.mem_filter.mpr ⟨List.mem_append_right _ (List.mem_of_getElem? (i := 441) rfl), rfl⟩
theorem tg_442 : Cond.methodLink "DeafAuction" 274 yX0_sellOn ∈ lw_g := List.mem_filter.mpr ⟨List.mem_append_right _ (List.mem_of_getElem? (i := 442) (by decide +kernel)), by decide +kernel⟩
theorem tg_443 : Cond.instanceMethod yX0_sellOn ∈ lw_g := List.mem_filter.mpr ⟨List.mem_append_right _ (List.mem_of_getElem? (i := 443) (by decide +kernel)), by decide +kernel⟩
theorem tg_444 : Cond.selects "DeafAuction$Bidding" yX0_sellOn yX0_sellOn ∈ lw_g := List.mem_filter.mpr ⟨List.mem_append_right _ (List.mem_of_getElem? (i := 444) (by decide +kernel)), by decide +kernel⟩
set_option maxRecDepth 100000 in
theorem tg_445 : Cond.code yX0_sellOn prog_2_method_6_code 2 (some FieldType.int) ∈ lw_g := List.mem_filter.mpr ⟨List.mem_append_right _ (List.mem_of_getElem? (i := 445) rfl), rfl⟩
theorem tg_446 : Cond.methodLink "DeafAuction$Bidding" 94 yX0_offer ∈ lw_g := List.mem_filter.mpr ⟨List.mem_append_right _ (List.mem_of_getElem? (i := 446) (by decide +kernel)), by decide +kernel⟩
theorem tg_447 : Cond.methodLink "DeafAuction$Bidding" 97 yX0_hold ∈ lw_g := List.mem_filter.mpr ⟨List.mem_append_right _ (List.mem_of_getElem? (i := 447) (by decide +kernel)), by decide +kernel⟩
theorem tg_448 : Cond.methodLink "DeafAuctionLaw" 58 yX8_gain ∈ lw_g := List.mem_filter.mpr ⟨List.mem_append_right _ (List.mem_of_getElem? (i := 448) (by decide +kernel)), by decide +kernel⟩
theorem tg_449 : Cond.instanceMethod yX8_gain ∈ lw_g := List.mem_filter.mpr ⟨List.mem_append_right _ (List.mem_of_getElem? (i := 449) (by decide +kernel)), by decide +kernel⟩
theorem tg_450 : Cond.selects "DeafAuction" yX8_gain yX8_gain ∈ lw_g := List.mem_filter.mpr ⟨List.mem_append_right _ (List.mem_of_getElem? (i := 450) (by decide +kernel)), by decide +kernel⟩
set_option maxRecDepth 100000 in
theorem tg_451 : Cond.code yX8_gain prog_1_method_12_code 4 (some FieldType.int) ∈ lw_g := List.mem_filter.mpr ⟨List.mem_append_right _ (List.mem_of_getElem? (i := 451) rfl), rfl⟩
theorem tg_452 : Cond.methodLink "DeafAuction" 161 yX8_gainFrom ∈ lw_g := List.mem_filter.mpr ⟨List.mem_append_right _ (List.mem_of_getElem? (i := 452) (by decide +kernel)), by decide +kernel⟩
theorem tg_454 : Cond.instanceMethod yX8_gainFrom ∈ lw_g := List.mem_filter.mpr ⟨List.mem_append_right _ (List.mem_of_getElem? (i := 454) (by decide +kernel)), by decide +kernel⟩
set_option maxRecDepth 100000 in
theorem tg_455 : Cond.code yX8_gainFrom prog_1_method_48_code 4 (some FieldType.int) ∈ lw_g := List.mem_filter.mpr ⟨List.mem_append_right _ (List.mem_of_getElem? (i := 455) rfl), rfl⟩
theorem tg_456 : Cond.methodLink "DeafAuction" 267 yX8_sellFrom ∈ lw_g := List.mem_filter.mpr ⟨List.mem_append_right _ (List.mem_of_getElem? (i := 456) (by decide +kernel)), by decide +kernel⟩
theorem tg_458 : Cond.instanceMethod yX8_sellFrom ∈ lw_g := List.mem_filter.mpr ⟨List.mem_append_right _ (List.mem_of_getElem? (i := 458) (by decide +kernel)), by decide +kernel⟩
set_option maxRecDepth 100000 in
theorem tg_459 : Cond.code yX8_sellFrom prog_1_method_47_code 4 none ∈ lw_g := List.mem_filter.mpr ⟨List.mem_append_right _ (List.mem_of_getElem? (i := 459) rfl), rfl⟩
theorem tg_460 : Cond.methodLink "DeafAuctionLaw" 62 yX8_best ∈ lw_g := List.mem_filter.mpr ⟨List.mem_append_right _ (List.mem_of_getElem? (i := 460) (by decide +kernel)), by decide +kernel⟩
theorem tg_461 : Cond.instanceMethod yX8_best ∈ lw_g := List.mem_filter.mpr ⟨List.mem_append_right _ (List.mem_of_getElem? (i := 461) (by decide +kernel)), by decide +kernel⟩
theorem tg_462 : Cond.selects "DeafAuction" yX8_best yX8_best ∈ lw_g := List.mem_filter.mpr ⟨List.mem_append_right _ (List.mem_of_getElem? (i := 462) (by decide +kernel)), by decide +kernel⟩
set_option maxRecDepth 100000 in
theorem tg_463 : Cond.code yX8_best prog_1_method_13_code 9 (some FieldType.int) ∈ lw_g := List.mem_filter.mpr ⟨List.mem_append_right _ (List.mem_of_getElem? (i := 463) rfl), rfl⟩
theorem tg_464 : Cond.methodLink "DeafAuctionLaw" 66 yX8_order ∈ lw_g := List.mem_filter.mpr ⟨List.mem_append_right _ (List.mem_of_getElem? (i := 464) (by decide +kernel)), by decide +kernel⟩
theorem tg_465 : Cond.instanceMethod yX8_order ∈ lw_g := List.mem_filter.mpr ⟨List.mem_append_right _ (List.mem_of_getElem? (i := 465) (by decide +kernel)), by decide +kernel⟩
theorem tg_466 : Cond.selects "DeafAuction" yX8_order yX8_order ∈ lw_g := List.mem_filter.mpr ⟨List.mem_append_right _ (List.mem_of_getElem? (i := 466) (by decide +kernel)), by decide +kernel⟩
set_option maxRecDepth 100000 in
theorem tg_467 : Cond.code yX8_order prog_1_method_14_code 6 (some FieldType.int) ∈ lw_g := List.mem_filter.mpr ⟨List.mem_append_right _ (List.mem_of_getElem? (i := 467) rfl), rfl⟩
theorem tg_468 : Cond.methodLink "DeafAuction" 165 yX8_isEachLotOnce ∈ lw_g := List.mem_filter.mpr ⟨List.mem_append_right _ (List.mem_of_getElem? (i := 468) (by decide +kernel)), by decide +kernel⟩
theorem tg_469 : Cond.static yX8_isEachLotOnce ∈ lw_g := List.mem_filter.mpr ⟨List.mem_append_right _ (List.mem_of_getElem? (i := 469) (by decide +kernel)), by decide +kernel⟩
set_option maxRecDepth 100000 in
theorem tg_470 : Cond.code yX8_isEachLotOnce prog_1_method_52_code 3 (some FieldType.boolean) ∈ lw_g := List.mem_filter.mpr ⟨List.mem_append_right _ (List.mem_of_getElem? (i := 470) rfl), rfl⟩
theorem tg_471 : Cond.methodLink "DeafAuction" 171 yX8_lotOfOrder ∈ lw_g := List.mem_filter.mpr ⟨List.mem_append_right _ (List.mem_of_getElem? (i := 471) (by decide +kernel)), by decide +kernel⟩
theorem tg_472 : Cond.static yX8_lotOfOrder ∈ lw_g := List.mem_filter.mpr ⟨List.mem_append_right _ (List.mem_of_getElem? (i := 472) (by decide +kernel)), by decide +kernel⟩
set_option maxRecDepth 100000 in
theorem tg_473 : Cond.code yX8_lotOfOrder prog_1_method_51_code 2 (some FieldType.int) ∈ lw_g := List.mem_filter.mpr ⟨List.mem_append_right _ (List.mem_of_getElem? (i := 473) rfl), rfl⟩
theorem tg_474 : Cond.methodLink "DeafAuction" 168 yX8_sellOrder ∈ lw_g := List.mem_filter.mpr ⟨List.mem_append_right _ (List.mem_of_getElem? (i := 474) (by decide +kernel)), by decide +kernel⟩
theorem tg_476 : Cond.instanceMethod yX8_sellOrder ∈ lw_g := List.mem_filter.mpr ⟨List.mem_append_right _ (List.mem_of_getElem? (i := 476) (by decide +kernel)), by decide +kernel⟩
set_option maxRecDepth 100000 in
theorem tg_477 : Cond.code yX8_sellOrder prog_1_method_53_code 4 (some FieldType.int) ∈ lw_g := List.mem_filter.mpr ⟨List.mem_append_right _ (List.mem_of_getElem? (i := 477) rfl), rfl⟩
theorem tg_478 : Cond.methodLink "DeafAuctionLaw" 70 yX8_ring ∈ lw_g := List.mem_filter.mpr ⟨List.mem_append_right _ (List.mem_of_getElem? (i := 478) (by decide +kernel)), by decide +kernel⟩
theorem tg_479 : Cond.instanceMethod yX8_ring ∈ lw_g := List.mem_filter.mpr ⟨List.mem_append_right _ (List.mem_of_getElem? (i := 479) (by decide +kernel)), by decide +kernel⟩
theorem tg_480 : Cond.selects "DeafAuction" yX8_ring yX8_ring ∈ lw_g := List.mem_filter.mpr ⟨List.mem_append_right _ (List.mem_of_getElem? (i := 480) (by decide +kernel)), by decide +kernel⟩
set_option maxRecDepth 100000 in
theorem tg_481 : Cond.code yX8_ring prog_1_method_15_code 3 (some FieldType.int) ∈ lw_g := List.mem_filter.mpr ⟨List.mem_append_right _ (List.mem_of_getElem? (i := 481) rfl), rfl⟩
theorem tg_482 : Cond.methodLink "DeafAuction" 174 yX5_setOfAll ∈ lw_g := List.mem_filter.mpr ⟨List.mem_append_right _ (List.mem_of_getElem? (i := 482) (by decide +kernel)), by decide +kernel⟩
theorem tg_483 : Cond.instanceMethod yX5_setOfAll ∈ lw_g := List.mem_filter.mpr ⟨List.mem_append_right _ (List.mem_of_getElem? (i := 483) (by decide +kernel)), by decide +kernel⟩
theorem tg_484 : Cond.selects "DeafAuction$Room" yX5_setOfAll yX5_setOfAll ∈ lw_g := List.mem_filter.mpr ⟨List.mem_append_right _ (List.mem_of_getElem? (i := 484) (by decide +kernel)), by decide +kernel⟩
set_option maxRecDepth 100000 in
theorem tg_485 : Cond.code yX5_setOfAll prog_7_method_6_code 1 (some FieldType.int) ∈ lw_g := List.mem_filter.mpr ⟨List.mem_append_right _ (List.mem_of_getElem? (i := 485) rfl), rfl⟩
theorem tg_486 : Cond.methodLink "DeafAuction" 183 yX0_silenceAllButFirst ∈ lw_g := List.mem_filter.mpr ⟨List.mem_append_right _ (List.mem_of_getElem? (i := 486) (by decide +kernel)), by decide +kernel⟩
theorem tg_487 : Cond.instanceMethod yX0_silenceAllButFirst ∈ lw_g := List.mem_filter.mpr ⟨List.mem_append_right _ (List.mem_of_getElem? (i := 487) (by decide +kernel)), by decide +kernel⟩
theorem tg_488 : Cond.selects "DeafAuction$Bidding" yX0_silenceAllButFirst yX0_silenceAllButFirst ∈ lw_g := List.mem_filter.mpr ⟨List.mem_append_right _ (List.mem_of_getElem? (i := 488) (by decide +kernel)), by decide +kernel⟩
set_option maxRecDepth 100000 in
theorem tg_489 : Cond.code yX0_silenceAllButFirst prog_2_method_4_code 4 none ∈ lw_g := List.mem_filter.mpr ⟨List.mem_append_right _ (List.mem_of_getElem? (i := 489) rfl), rfl⟩
theorem tg_490 : Cond.methodLink "DeafAuctionLaw" 74 yX8_mean ∈ lw_g := List.mem_filter.mpr ⟨List.mem_append_right _ (List.mem_of_getElem? (i := 490) (by decide +kernel)), by decide +kernel⟩
theorem tg_491 : Cond.instanceMethod yX8_mean ∈ lw_g := List.mem_filter.mpr ⟨List.mem_append_right _ (List.mem_of_getElem? (i := 491) (by decide +kernel)), by decide +kernel⟩
theorem tg_492 : Cond.selects "DeafAuction" yX8_mean yX8_mean ∈ lw_g := List.mem_filter.mpr ⟨List.mem_append_right _ (List.mem_of_getElem? (i := 492) (by decide +kernel)), by decide +kernel⟩
set_option maxRecDepth 100000 in
theorem tg_493 : Cond.code yX8_mean prog_1_method_16_code 8 (some FieldType.long) ∈ lw_g := List.mem_filter.mpr ⟨List.mem_append_right _ (List.mem_of_getElem? (i := 493) rfl), rfl⟩
theorem tg_494 : Cond.constantLong "DeafAuction" 189 (-9223372036854775808 : Int64) ∈ lw_g := List.mem_filter.mpr ⟨List.mem_append_right _ (List.mem_of_getElem? (i := 494) (by decide +kernel)), by decide +kernel⟩
theorem tg_495 : Cond.methodLink "DeafAuctionLaw" 79 yX8_hangs ∈ lw_g := List.mem_filter.mpr ⟨List.mem_append_right _ (List.mem_of_getElem? (i := 495) (by decide +kernel)), by decide +kernel⟩
theorem tg_496 : Cond.instanceMethod yX8_hangs ∈ lw_g := List.mem_filter.mpr ⟨List.mem_append_right _ (List.mem_of_getElem? (i := 496) (by decide +kernel)), by decide +kernel⟩
theorem tg_497 : Cond.selects "DeafAuction" yX8_hangs yX8_hangs ∈ lw_g := List.mem_filter.mpr ⟨List.mem_append_right _ (List.mem_of_getElem? (i := 497) (by decide +kernel)), by decide +kernel⟩
set_option maxRecDepth 100000 in
theorem tg_498 : Cond.code yX8_hangs prog_1_method_17_code 5 (some FieldType.int) ∈ lw_g := List.mem_filter.mpr ⟨List.mem_append_right _ (List.mem_of_getElem? (i := 498) rfl), rfl⟩
theorem tg_499 : Cond.methodLink "DeafAuctionLaw" 83 yX8_reading ∈ lw_g := List.mem_filter.mpr ⟨List.mem_append_right _ (List.mem_of_getElem? (i := 499) (by decide +kernel)), by decide +kernel⟩
theorem tg_500 : Cond.instanceMethod yX8_reading ∈ lw_g := List.mem_filter.mpr ⟨List.mem_append_right _ (List.mem_of_getElem? (i := 500) (by decide +kernel)), by decide +kernel⟩
theorem tg_501 : Cond.selects "DeafAuction" yX8_reading yX8_reading ∈ lw_g := List.mem_filter.mpr ⟨List.mem_append_right _ (List.mem_of_getElem? (i := 501) (by decide +kernel)), by decide +kernel⟩
set_option maxRecDepth 100000 in
theorem tg_502 : Cond.code yX8_reading prog_1_method_18_code 3 (some FieldType.int) ∈ lw_g := List.mem_filter.mpr ⟨List.mem_append_right _ (List.mem_of_getElem? (i := 502) rfl), rfl⟩
theorem tg_503 : Cond.methodLink "DeafAuction" 192 yX2_write ∈ lw_g := List.mem_filter.mpr ⟨List.mem_append_right _ (List.mem_of_getElem? (i := 503) (by decide +kernel)), by decide +kernel⟩
theorem tg_504 : Cond.instanceMethod yX2_write ∈ lw_g := List.mem_filter.mpr ⟨List.mem_append_right _ (List.mem_of_getElem? (i := 504) (by decide +kernel)), by decide +kernel⟩
theorem tg_505 : Cond.selects "DeafAuction$Clerk" yX2_write yX2_write ∈ lw_g := List.mem_filter.mpr ⟨List.mem_append_right _ (List.mem_of_getElem? (i := 505) (by decide +kernel)), by decide +kernel⟩
set_option maxRecDepth 100000 in
theorem tg_506 : Cond.code yX2_write prog_4_method_2_code 3 none ∈ lw_g := List.mem_filter.mpr ⟨List.mem_append_right _ (List.mem_of_getElem? (i := 506) rfl), rfl⟩
theorem tg_507 : Cond.methodLink "DeafAuctionLaw" 87 yX8_back ∈ lw_g := List.mem_filter.mpr ⟨List.mem_append_right _ (List.mem_of_getElem? (i := 507) (by decide +kernel)), by decide +kernel⟩
theorem tg_508 : Cond.instanceMethod yX8_back ∈ lw_g := List.mem_filter.mpr ⟨List.mem_append_right _ (List.mem_of_getElem? (i := 508) (by decide +kernel)), by decide +kernel⟩
theorem tg_509 : Cond.selects "DeafAuction" yX8_back yX8_back ∈ lw_g := List.mem_filter.mpr ⟨List.mem_append_right _ (List.mem_of_getElem? (i := 509) (by decide +kernel)), by decide +kernel⟩
set_option maxRecDepth 100000 in
theorem tg_510 : Cond.code yX8_back prog_1_method_19_code 2 (some FieldType.int) ∈ lw_g := List.mem_filter.mpr ⟨List.mem_append_right _ (List.mem_of_getElem? (i := 510) rfl), rfl⟩
theorem tg_511 : Cond.methodLink "DeafAuctionLaw" 91 yX8_values ∈ lw_g := List.mem_filter.mpr ⟨List.mem_append_right _ (List.mem_of_getElem? (i := 511) (by decide +kernel)), by decide +kernel⟩
theorem tg_512 : Cond.instanceMethod yX8_values ∈ lw_g := List.mem_filter.mpr ⟨List.mem_append_right _ (List.mem_of_getElem? (i := 512) (by decide +kernel)), by decide +kernel⟩
theorem tg_513 : Cond.selects "DeafAuction" yX8_values yX8_values ∈ lw_g := List.mem_filter.mpr ⟨List.mem_append_right _ (List.mem_of_getElem? (i := 513) (by decide +kernel)), by decide +kernel⟩
set_option maxRecDepth 100000 in
theorem tg_514 : Cond.code yX8_values prog_1_method_20_code 11 (some FieldType.int) ∈ lw_g := List.mem_filter.mpr ⟨List.mem_append_right _ (List.mem_of_getElem? (i := 514) rfl), rfl⟩
theorem tg_515 : Cond.methodLink "DeafAuction" 195 yX8_areReadingsSo ∈ lw_g := List.mem_filter.mpr ⟨List.mem_append_right _ (List.mem_of_getElem? (i := 515) (by decide +kernel)), by decide +kernel⟩
theorem tg_517 : Cond.instanceMethod yX8_areReadingsSo ∈ lw_g := List.mem_filter.mpr ⟨List.mem_append_right _ (List.mem_of_getElem? (i := 517) (by decide +kernel)), by decide +kernel⟩
set_option maxRecDepth 100000 in
theorem tg_518 : Cond.code yX8_areReadingsSo prog_1_method_54_code 5 (some FieldType.boolean) ∈ lw_g := List.mem_filter.mpr ⟨List.mem_append_right _ (List.mem_of_getElem? (i := 518) rfl), rfl⟩
theorem tg_519 : Cond.methodLink "DeafAuction" 277 yX2_hasOf ∈ lw_g := List.mem_filter.mpr ⟨List.mem_append_right _ (List.mem_of_getElem? (i := 519) (by decide +kernel)), by decide +kernel⟩
theorem tg_520 : Cond.instanceMethod yX2_hasOf ∈ lw_g := List.mem_filter.mpr ⟨List.mem_append_right _ (List.mem_of_getElem? (i := 520) (by decide +kernel)), by decide +kernel⟩
theorem tg_521 : Cond.selects "DeafAuction$Clerk" yX2_hasOf yX2_hasOf ∈ lw_g := List.mem_filter.mpr ⟨List.mem_append_right _ (List.mem_of_getElem? (i := 521) (by decide +kernel)), by decide +kernel⟩
set_option maxRecDepth 100000 in
theorem tg_522 : Cond.code yX2_hasOf prog_4_method_4_code 3 (some FieldType.boolean) ∈ lw_g := List.mem_filter.mpr ⟨List.mem_append_right _ (List.mem_of_getElem? (i := 522) rfl), rfl⟩
theorem tg_523 : Cond.methodLink "DeafAuction" 280 yX2_agrees ∈ lw_g := List.mem_filter.mpr ⟨List.mem_append_right _ (List.mem_of_getElem? (i := 523) (by decide +kernel)), by decide +kernel⟩
theorem tg_524 : Cond.instanceMethod yX2_agrees ∈ lw_g := List.mem_filter.mpr ⟨List.mem_append_right _ (List.mem_of_getElem? (i := 524) (by decide +kernel)), by decide +kernel⟩
theorem tg_525 : Cond.selects "DeafAuction$Clerk" yX2_agrees yX2_agrees ∈ lw_g := List.mem_filter.mpr ⟨List.mem_append_right _ (List.mem_of_getElem? (i := 525) (by decide +kernel)), by decide +kernel⟩
set_option maxRecDepth 100000 in
theorem tg_526 : Cond.code yX2_agrees prog_4_method_5_code 4 (some FieldType.boolean) ∈ lw_g := List.mem_filter.mpr ⟨List.mem_append_right _ (List.mem_of_getElem? (i := 526) rfl), rfl⟩
theorem tg_527 : Cond.methodLink "DeafAuction" 199 yX8_isReadingSo ∈ lw_g := List.mem_filter.mpr ⟨List.mem_append_right _ (List.mem_of_getElem? (i := 527) (by decide +kernel)), by decide +kernel⟩
theorem tg_529 : Cond.instanceMethod yX8_isReadingSo ∈ lw_g := List.mem_filter.mpr ⟨List.mem_append_right _ (List.mem_of_getElem? (i := 529) (by decide +kernel)), by decide +kernel⟩
set_option maxRecDepth 100000 in
theorem tg_530 : Cond.code yX8_isReadingSo prog_1_method_55_code 4 (some FieldType.boolean) ∈ lw_g := List.mem_filter.mpr ⟨List.mem_append_right _ (List.mem_of_getElem? (i := 530) rfl), rfl⟩
theorem tg_531 : Cond.methodLink "DeafAuctionLaw" 95 yX8_places ∈ lw_g := List.mem_filter.mpr ⟨List.mem_append_right _ (List.mem_of_getElem? (i := 531) (by decide +kernel)), by decide +kernel⟩
theorem tg_532 : Cond.instanceMethod yX8_places ∈ lw_g := List.mem_filter.mpr ⟨List.mem_append_right _ (List.mem_of_getElem? (i := 532) (by decide +kernel)), by decide +kernel⟩
theorem tg_533 : Cond.selects "DeafAuction" yX8_places yX8_places ∈ lw_g := List.mem_filter.mpr ⟨List.mem_append_right _ (List.mem_of_getElem? (i := 533) (by decide +kernel)), by decide +kernel⟩
set_option maxRecDepth 100000 in
theorem tg_534 : Cond.code yX8_places prog_1_method_21_code 5 (some FieldType.int) ∈ lw_g := List.mem_filter.mpr ⟨List.mem_append_right _ (List.mem_of_getElem? (i := 534) rfl), rfl⟩
theorem tg_535 : Cond.methodLink "DeafAuctionLaw" 99 yX8_sheet ∈ lw_g := List.mem_filter.mpr ⟨List.mem_append_right _ (List.mem_of_getElem? (i := 535) (by decide +kernel)), by decide +kernel⟩
theorem tg_536 : Cond.instanceMethod yX8_sheet ∈ lw_g := List.mem_filter.mpr ⟨List.mem_append_right _ (List.mem_of_getElem? (i := 536) (by decide +kernel)), by decide +kernel⟩
theorem tg_537 : Cond.selects "DeafAuction" yX8_sheet yX8_sheet ∈ lw_g := List.mem_filter.mpr ⟨List.mem_append_right _ (List.mem_of_getElem? (i := 537) (by decide +kernel)), by decide +kernel⟩
set_option maxRecDepth 100000 in
theorem tg_538 : Cond.code yX8_sheet prog_1_method_22_code 5 (some FieldType.int) ∈ lw_g := List.mem_filter.mpr ⟨List.mem_append_right _ (List.mem_of_getElem? (i := 538) rfl), rfl⟩
theorem tg_539 : Cond.methodLink "DeafAuction" 202 yX6_lay ∈ lw_g := List.mem_filter.mpr ⟨List.mem_append_right _ (List.mem_of_getElem? (i := 539) (by decide +kernel)), by decide +kernel⟩
theorem tg_540 : Cond.instanceMethod yX6_lay ∈ lw_g := List.mem_filter.mpr ⟨List.mem_append_right _ (List.mem_of_getElem? (i := 540) (by decide +kernel)), by decide +kernel⟩
theorem tg_541 : Cond.selects "DeafAuction$Sheet" yX6_lay yX6_lay ∈ lw_g := List.mem_filter.mpr ⟨List.mem_append_right _ (List.mem_of_getElem? (i := 541) (by decide +kernel)), by decide +kernel⟩
set_option maxRecDepth 100000 in
theorem tg_542 : Cond.code yX6_lay prog_8_method_2_code 4 none ∈ lw_g := List.mem_filter.mpr ⟨List.mem_append_right _ (List.mem_of_getElem? (i := 542) rfl), rfl⟩
theorem tg_543 : Cond.methodLink "DeafAuctionLaw" 103 yX8_lose ∈ lw_g := List.mem_filter.mpr ⟨List.mem_append_right _ (List.mem_of_getElem? (i := 543) (by decide +kernel)), by decide +kernel⟩
theorem tg_544 : Cond.instanceMethod yX8_lose ∈ lw_g := List.mem_filter.mpr ⟨List.mem_append_right _ (List.mem_of_getElem? (i := 544) (by decide +kernel)), by decide +kernel⟩
theorem tg_545 : Cond.selects "DeafAuction" yX8_lose yX8_lose ∈ lw_g := List.mem_filter.mpr ⟨List.mem_append_right _ (List.mem_of_getElem? (i := 545) (by decide +kernel)), by decide +kernel⟩
set_option maxRecDepth 100000 in
theorem tg_546 : Cond.code yX8_lose prog_1_method_23_code 3 (some FieldType.int) ∈ lw_g := List.mem_filter.mpr ⟨List.mem_append_right _ (List.mem_of_getElem? (i := 546) rfl), rfl⟩
theorem tg_547 : Cond.methodLink "DeafAuctionLaw" 107 yX8_put ∈ lw_g := List.mem_filter.mpr ⟨List.mem_append_right _ (List.mem_of_getElem? (i := 547) (by decide +kernel)), by decide +kernel⟩
theorem tg_548 : Cond.instanceMethod yX8_put ∈ lw_g := List.mem_filter.mpr ⟨List.mem_append_right _ (List.mem_of_getElem? (i := 548) (by decide +kernel)), by decide +kernel⟩
theorem tg_549 : Cond.selects "DeafAuction" yX8_put yX8_put ∈ lw_g := List.mem_filter.mpr ⟨List.mem_append_right _ (List.mem_of_getElem? (i := 549) (by decide +kernel)), by decide +kernel⟩
set_option maxRecDepth 100000 in
theorem tg_550 : Cond.code yX8_put prog_1_method_24_code 6 (some FieldType.int) ∈ lw_g := List.mem_filter.mpr ⟨List.mem_append_right _ (List.mem_of_getElem? (i := 550) rfl), rfl⟩
theorem tg_551 : Cond.methodLink "DeafAuction" 208 yX6_write ∈ lw_g := List.mem_filter.mpr ⟨List.mem_append_right _ (List.mem_of_getElem? (i := 551) (by decide +kernel)), by decide +kernel⟩
theorem tg_552 : Cond.instanceMethod yX6_write ∈ lw_g := List.mem_filter.mpr ⟨List.mem_append_right _ (List.mem_of_getElem? (i := 552) (by decide +kernel)), by decide +kernel⟩
theorem tg_553 : Cond.selects "DeafAuction$Sheet" yX6_write yX6_write ∈ lw_g := List.mem_filter.mpr ⟨List.mem_append_right _ (List.mem_of_getElem? (i := 553) (by decide +kernel)), by decide +kernel⟩
set_option maxRecDepth 100000 in
theorem tg_554 : Cond.code yX6_write prog_8_method_6_code 3 none ∈ lw_g := List.mem_filter.mpr ⟨List.mem_append_right _ (List.mem_of_getElem? (i := 554) rfl), rfl⟩
theorem tg_555 : Cond.methodLink "DeafAuction$Sheet" 29 yX6_cut ∈ lw_g := List.mem_filter.mpr ⟨List.mem_append_right _ (List.mem_of_getElem? (i := 555) (by decide +kernel)), by decide +kernel⟩
theorem tg_557 : Cond.instanceMethod yX6_cut ∈ lw_g := List.mem_filter.mpr ⟨List.mem_append_right _ (List.mem_of_getElem? (i := 557) (by decide +kernel)), by decide +kernel⟩
set_option maxRecDepth 100000 in
theorem tg_558 : Cond.code yX6_cut prog_8_method_7_code 2 (some FieldType.int) ∈ lw_g := List.mem_filter.mpr ⟨List.mem_append_right _ (List.mem_of_getElem? (i := 558) rfl), rfl⟩
theorem tg_559 : Cond.methodLink "DeafAuctionLaw" 111 yX8_cell ∈ lw_g := List.mem_filter.mpr ⟨List.mem_append_right _ (List.mem_of_getElem? (i := 559) (by decide +kernel)), by decide +kernel⟩
theorem tg_560 : Cond.instanceMethod yX8_cell ∈ lw_g := List.mem_filter.mpr ⟨List.mem_append_right _ (List.mem_of_getElem? (i := 560) (by decide +kernel)), by decide +kernel⟩
theorem tg_561 : Cond.selects "DeafAuction" yX8_cell yX8_cell ∈ lw_g := List.mem_filter.mpr ⟨List.mem_append_right _ (List.mem_of_getElem? (i := 561) (by decide +kernel)), by decide +kernel⟩
set_option maxRecDepth 100000 in
theorem tg_562 : Cond.code yX8_cell prog_1_method_25_code 6 (some FieldType.long) ∈ lw_g := List.mem_filter.mpr ⟨List.mem_append_right _ (List.mem_of_getElem? (i := 562) rfl), rfl⟩
theorem tg_563 : Cond.methodLink "DeafAuctionLaw" 116 yX8_copy ∈ lw_g := List.mem_filter.mpr ⟨List.mem_append_right _ (List.mem_of_getElem? (i := 563) (by decide +kernel)), by decide +kernel⟩
theorem tg_564 : Cond.instanceMethod yX8_copy ∈ lw_g := List.mem_filter.mpr ⟨List.mem_append_right _ (List.mem_of_getElem? (i := 564) (by decide +kernel)), by decide +kernel⟩
theorem tg_565 : Cond.selects "DeafAuction" yX8_copy yX8_copy ∈ lw_g := List.mem_filter.mpr ⟨List.mem_append_right _ (List.mem_of_getElem? (i := 565) (by decide +kernel)), by decide +kernel⟩
set_option maxRecDepth 100000 in
theorem tg_566 : Cond.code yX8_copy prog_1_method_26_code 8 (some FieldType.int) ∈ lw_g := List.mem_filter.mpr ⟨List.mem_append_right _ (List.mem_of_getElem? (i := 566) rfl), rfl⟩
theorem tg_567 : Cond.methodLink "DeafAuction" 212 yX6_holds ∈ lw_g := List.mem_filter.mpr ⟨List.mem_append_right _ (List.mem_of_getElem? (i := 567) (by decide +kernel)), by decide +kernel⟩
theorem tg_568 : Cond.methodLink "DeafAuction" 218 ⟨"java/lang/System", "arraycopy", "(Ljava/lang/Object;ILjava/lang/Object;II)V"⟩ ∈ lw_g := List.mem_filter.mpr ⟨List.mem_append_right _ (List.mem_of_getElem? (i := 568) (by decide +kernel)), by decide +kernel⟩
theorem tg_569 : Cond.static ⟨"java/lang/System", "arraycopy", "(Ljava/lang/Object;ILjava/lang/Object;II)V"⟩ ∈ lw_g := List.mem_filter.mpr ⟨List.mem_append_right _ (List.mem_of_getElem? (i := 569) (by decide +kernel)), by decide +kernel⟩
theorem tg_571 : Cond.methodLink "DeafAuctionLaw" 120 yX8_tell ∈ lw_g := List.mem_filter.mpr ⟨List.mem_append_right _ (List.mem_of_getElem? (i := 571) (by decide +kernel)), by decide +kernel⟩
theorem tg_572 : Cond.instanceMethod yX8_tell ∈ lw_g := List.mem_filter.mpr ⟨List.mem_append_right _ (List.mem_of_getElem? (i := 572) (by decide +kernel)), by decide +kernel⟩
theorem tg_573 : Cond.selects "DeafAuction" yX8_tell yX8_tell ∈ lw_g := List.mem_filter.mpr ⟨List.mem_append_right _ (List.mem_of_getElem? (i := 573) (by decide +kernel)), by decide +kernel⟩
set_option maxRecDepth 100000 in
theorem tg_574 : Cond.code yX8_tell prog_1_method_27_code 3 (some FieldType.int) ∈ lw_g := List.mem_filter.mpr ⟨List.mem_append_right _ (List.mem_of_getElem? (i := 574) rfl), rfl⟩
theorem tg_575 : Cond.methodLink "DeafAuction" 224 yX1_telling ∈ lw_g := List.mem_filter.mpr ⟨List.mem_append_right _ (List.mem_of_getElem? (i := 575) (by decide +kernel)), by decide +kernel⟩
theorem tg_576 : Cond.instanceMethod yX1_telling ∈ lw_g := List.mem_filter.mpr ⟨List.mem_append_right _ (List.mem_of_getElem? (i := 576) (by decide +kernel)), by decide +kernel⟩
theorem tg_577 : Cond.selects "DeafAuction$Buyer" yX1_telling yX1_telling ∈ lw_g := List.mem_filter.mpr ⟨List.mem_append_right _ (List.mem_of_getElem? (i := 577) (by decide +kernel)), by decide +kernel⟩
theorem tg_578 : Cond.sameMethod "DeafAuction$Buyer" "DeafAuction$Buyer" "telling" "(LDeafAuction$Trail;)I" ∈ lw_g := List.mem_filter.mpr ⟨List.mem_append_right _ (List.mem_of_getElem? (i := 578) (by decide +kernel)), by decide +kernel⟩
theorem tg_579 : Cond.selects "DeafAuction$Hatted" yX1_telling yX3_telling ∈ lw_g := List.mem_filter.mpr ⟨List.mem_append_right _ (List.mem_of_getElem? (i := 579) (by decide +kernel)), by decide +kernel⟩
theorem tg_580 : Cond.instanceMethod yX3_telling ∈ lw_g := List.mem_filter.mpr ⟨List.mem_append_right _ (List.mem_of_getElem? (i := 580) (by decide +kernel)), by decide +kernel⟩
set_option maxRecDepth 100000 in
theorem tg_581 : Cond.code yX3_telling prog_5_method_4_code 2 (some FieldType.int) ∈ lw_g := List.mem_filter.mpr ⟨List.mem_append_right _ (List.mem_of_getElem? (i := 581) rfl), rfl⟩
theorem tg_582 : Cond.methodLink "DeafAuction$Hatted" 7 yX7_leave ∈ lw_g := List.mem_filter.mpr ⟨List.mem_append_right _ (List.mem_of_getElem? (i := 582) (by decide +kernel)), by decide +kernel⟩
theorem tg_583 : Cond.instanceMethod yX7_leave ∈ lw_g := List.mem_filter.mpr ⟨List.mem_append_right _ (List.mem_of_getElem? (i := 583) (by decide +kernel)), by decide +kernel⟩
theorem tg_584 : Cond.selects "DeafAuction$Trail" yX7_leave yX7_leave ∈ lw_g := List.mem_filter.mpr ⟨List.mem_append_right _ (List.mem_of_getElem? (i := 584) (by decide +kernel)), by decide +kernel⟩
set_option maxRecDepth 100000 in
theorem tg_585 : Cond.code yX7_leave prog_9_method_2_code 2 none ∈ lw_g := List.mem_filter.mpr ⟨List.mem_append_right _ (List.mem_of_getElem? (i := 585) rfl), rfl⟩
theorem tg_586 : Cond.methodLink "DeafAuction$Hatted" 13 ⟨"DeafAuction$Hatted", "plainTelling", "(LDeafAuction$Trail;)I"⟩ ∈ lw_g := List.mem_filter.mpr ⟨List.mem_append_right _ (List.mem_of_getElem? (i := 586) (by decide +kernel)), by decide +kernel⟩
theorem tg_587 : Cond.sameMethod "DeafAuction$Hatted" "DeafAuction$Buyer" "plainTelling" "(LDeafAuction$Trail;)I" ∈ lw_g := List.mem_filter.mpr ⟨List.mem_append_right _ (List.mem_of_getElem? (i := 587) (by decide +kernel)), by decide +kernel⟩
theorem tg_589 : Cond.selects "DeafAuction$Hatted" ⟨"DeafAuction$Hatted", "plainTelling", "(LDeafAuction$Trail;)I"⟩ yX1_plainTelling ∈ lw_g := List.mem_filter.mpr ⟨List.mem_append_right _ (List.mem_of_getElem? (i := 589) (by decide +kernel)), by decide +kernel⟩
theorem tg_590 : Cond.selects "DeafAuction$Nervous" ⟨"DeafAuction$Hatted", "plainTelling", "(LDeafAuction$Trail;)I"⟩ yX1_plainTelling ∈ lw_g := List.mem_filter.mpr ⟨List.mem_append_right _ (List.mem_of_getElem? (i := 590) (by decide +kernel)), by decide +kernel⟩
theorem tg_591 : Cond.instanceMethod yX1_plainTelling ∈ lw_g := List.mem_filter.mpr ⟨List.mem_append_right _ (List.mem_of_getElem? (i := 591) (by decide +kernel)), by decide +kernel⟩
set_option maxRecDepth 100000 in
theorem tg_592 : Cond.code yX1_plainTelling prog_3_method_6_code 2 (some FieldType.int) ∈ lw_g := List.mem_filter.mpr ⟨List.mem_append_right _ (List.mem_of_getElem? (i := 592) rfl), rfl⟩
theorem tg_593 : Cond.methodLink "DeafAuction$Buyer" 35 yX7_leave ∈ lw_g := List.mem_filter.mpr ⟨List.mem_append_right _ (List.mem_of_getElem? (i := 593) (by decide +kernel)), by decide +kernel⟩
theorem tg_594 : Cond.selects "DeafAuction$Nervous" yX1_telling yX4_telling ∈ lw_g := List.mem_filter.mpr ⟨List.mem_append_right _ (List.mem_of_getElem? (i := 594) (by decide +kernel)), by decide +kernel⟩
theorem tg_595 : Cond.instanceMethod yX4_telling ∈ lw_g := List.mem_filter.mpr ⟨List.mem_append_right _ (List.mem_of_getElem? (i := 595) (by decide +kernel)), by decide +kernel⟩
set_option maxRecDepth 100000 in
theorem tg_596 : Cond.code yX4_telling prog_6_method_4_code 3 (some FieldType.int) ∈ lw_g := List.mem_filter.mpr ⟨List.mem_append_right _ (List.mem_of_getElem? (i := 596) rfl), rfl⟩
theorem tg_597 : Cond.methodLink "DeafAuction$Nervous" 16 yX7_leave ∈ lw_g := List.mem_filter.mpr ⟨List.mem_append_right _ (List.mem_of_getElem? (i := 597) (by decide +kernel)), by decide +kernel⟩
theorem tg_598 : Cond.methodLink "DeafAuction$Nervous" 22 yX3_telling ∈ lw_g := List.mem_filter.mpr ⟨List.mem_append_right _ (List.mem_of_getElem? (i := 598) (by decide +kernel)), by decide +kernel⟩
theorem tg_599 : Cond.methodLink "DeafAuction$Nervous" 26 ⟨"DeafAuction$Nervous", "plainTelling", "(LDeafAuction$Trail;)I"⟩ ∈ lw_g := List.mem_filter.mpr ⟨List.mem_append_right _ (List.mem_of_getElem? (i := 599) (by decide +kernel)), by decide +kernel⟩
theorem tg_600 : Cond.sameMethod "DeafAuction$Nervous" "DeafAuction$Buyer" "plainTelling" "(LDeafAuction$Trail;)I" ∈ lw_g := List.mem_filter.mpr ⟨List.mem_append_right _ (List.mem_of_getElem? (i := 600) (by decide +kernel)), by decide +kernel⟩
theorem tg_601 : Cond.selects "DeafAuction$Nervous" ⟨"DeafAuction$Nervous", "plainTelling", "(LDeafAuction$Trail;)I"⟩ yX1_plainTelling ∈ lw_g := List.mem_filter.mpr ⟨List.mem_append_right _ (List.mem_of_getElem? (i := 601) (by decide +kernel)), by decide +kernel⟩
set_option maxRecDepth 100000 in
theorem tg_602 : Cond.code yX1_telling prog_3_method_5_code 2 (some FieldType.int) ∈ lw_g := List.mem_filter.mpr ⟨List.mem_append_right _ (List.mem_of_getElem? (i := 602) rfl), rfl⟩
theorem tg_603 : Cond.methodLink "DeafAuction$Buyer" 31 yX1_plainTelling ∈ lw_g := List.mem_filter.mpr ⟨List.mem_append_right _ (List.mem_of_getElem? (i := 603) (by decide +kernel)), by decide +kernel⟩
theorem tg_604 : Cond.methodLink "DeafAuctionLaw" 124 yX8_nod ∈ lw_g := List.mem_filter.mpr ⟨List.mem_append_right _ (List.mem_of_getElem? (i := 604) (by decide +kernel)), by decide +kernel⟩
theorem tg_605 : Cond.instanceMethod yX8_nod ∈ lw_g := List.mem_filter.mpr ⟨List.mem_append_right _ (List.mem_of_getElem? (i := 605) (by decide +kernel)), by decide +kernel⟩
theorem tg_606 : Cond.selects "DeafAuction" yX8_nod yX8_nod ∈ lw_g := List.mem_filter.mpr ⟨List.mem_append_right _ (List.mem_of_getElem? (i := 606) (by decide +kernel)), by decide +kernel⟩
set_option maxRecDepth 100000 in
theorem tg_607 : Cond.code yX8_nod prog_1_method_28_code 3 (some FieldType.int) ∈ lw_g := List.mem_filter.mpr ⟨List.mem_append_right _ (List.mem_of_getElem? (i := 607) rfl), rfl⟩
theorem tg_608 : Cond.methodLink "DeafAuction" 228 yX1_nodding ∈ lw_g := List.mem_filter.mpr ⟨List.mem_append_right _ (List.mem_of_getElem? (i := 608) (by decide +kernel)), by decide +kernel⟩
theorem tg_609 : Cond.instanceMethod yX1_nodding ∈ lw_g := List.mem_filter.mpr ⟨List.mem_append_right _ (List.mem_of_getElem? (i := 609) (by decide +kernel)), by decide +kernel⟩
theorem tg_610 : Cond.selects "DeafAuction$Buyer" yX1_nodding yX1_nodding ∈ lw_g := List.mem_filter.mpr ⟨List.mem_append_right _ (List.mem_of_getElem? (i := 610) (by decide +kernel)), by decide +kernel⟩
theorem tg_611 : Cond.sameMethod "DeafAuction$Buyer" "DeafAuction$Buyer" "nodding" "(LDeafAuction$Trail;)I" ∈ lw_g := List.mem_filter.mpr ⟨List.mem_append_right _ (List.mem_of_getElem? (i := 611) (by decide +kernel)), by decide +kernel⟩
theorem tg_612 : Cond.selects "DeafAuction$Hatted" yX1_nodding yX1_nodding ∈ lw_g := List.mem_filter.mpr ⟨List.mem_append_right _ (List.mem_of_getElem? (i := 612) (by decide +kernel)), by decide +kernel⟩
theorem tg_613 : Cond.selects "DeafAuction$Nervous" yX1_nodding yX4_nodding ∈ lw_g := List.mem_filter.mpr ⟨List.mem_append_right _ (List.mem_of_getElem? (i := 613) (by decide +kernel)), by decide +kernel⟩
theorem tg_614 : Cond.instanceMethod yX4_nodding ∈ lw_g := List.mem_filter.mpr ⟨List.mem_append_right _ (List.mem_of_getElem? (i := 614) (by decide +kernel)), by decide +kernel⟩
set_option maxRecDepth 100000 in
theorem tg_615 : Cond.code yX4_nodding prog_6_method_5_code 2 (some FieldType.int) ∈ lw_g := List.mem_filter.mpr ⟨List.mem_append_right _ (List.mem_of_getElem? (i := 615) rfl), rfl⟩
set_option maxRecDepth 100000 in
theorem tg_616 : Cond.code yX1_nodding prog_3_method_7_code 2 (some FieldType.int) ∈ lw_g := List.mem_filter.mpr ⟨List.mem_append_right _ (List.mem_of_getElem? (i := 616) rfl), rfl⟩
theorem tg_617 : Cond.methodLink "DeafAuctionLaw" 128 yX8_as ∈ lw_g := List.mem_filter.mpr ⟨List.mem_append_right _ (List.mem_of_getElem? (i := 617) (by decide +kernel)), by decide +kernel⟩
theorem tg_618 : Cond.instanceMethod yX8_as ∈ lw_g := List.mem_filter.mpr ⟨List.mem_append_right _ (List.mem_of_getElem? (i := 618) (by decide +kernel)), by decide +kernel⟩
theorem tg_619 : Cond.selects "DeafAuction" yX8_as yX8_as ∈ lw_g := List.mem_filter.mpr ⟨List.mem_append_right _ (List.mem_of_getElem? (i := 619) (by decide +kernel)), by decide +kernel⟩
set_option maxRecDepth 100000 in
theorem tg_620 : Cond.code yX8_as prog_1_method_29_code 5 (some FieldType.int) ∈ lw_g := List.mem_filter.mpr ⟨List.mem_append_right _ (List.mem_of_getElem? (i := 620) rfl), rfl⟩
theorem tg_621 : Cond.methodLink "DeafAuctionLaw" 132 yX8_trace ∈ lw_g := List.mem_filter.mpr ⟨List.mem_append_right _ (List.mem_of_getElem? (i := 621) (by decide +kernel)), by decide +kernel⟩
theorem tg_622 : Cond.instanceMethod yX8_trace ∈ lw_g := List.mem_filter.mpr ⟨List.mem_append_right _ (List.mem_of_getElem? (i := 622) (by decide +kernel)), by decide +kernel⟩
theorem tg_623 : Cond.selects "DeafAuction" yX8_trace yX8_trace ∈ lw_g := List.mem_filter.mpr ⟨List.mem_append_right _ (List.mem_of_getElem? (i := 623) (by decide +kernel)), by decide +kernel⟩
set_option maxRecDepth 100000 in
theorem tg_624 : Cond.code yX8_trace prog_1_method_30_code 1 (some FieldType.int) ∈ lw_g := List.mem_filter.mpr ⟨List.mem_append_right _ (List.mem_of_getElem? (i := 624) rfl), rfl⟩
theorem tg_625 : Cond.methodLink "DeafAuctionLaw" 137 yX8_fault ∈ lw_g := List.mem_filter.mpr ⟨List.mem_append_right _ (List.mem_of_getElem? (i := 625) (by decide +kernel)), by decide +kernel⟩
theorem tg_626 : Cond.instanceMethod yX8_fault ∈ lw_g := List.mem_filter.mpr ⟨List.mem_append_right _ (List.mem_of_getElem? (i := 626) (by decide +kernel)), by decide +kernel⟩
theorem tg_627 : Cond.selects "DeafAuction" yX8_fault yX8_fault ∈ lw_g := List.mem_filter.mpr ⟨List.mem_append_right _ (List.mem_of_getElem? (i := 627) (by decide +kernel)), by decide +kernel⟩
set_option maxRecDepth 100000 in
theorem tg_628 : Cond.code yX8_fault prog_1_method_31_code 1 (some FieldType.int) ∈ lw_g := List.mem_filter.mpr ⟨List.mem_append_right _ (List.mem_of_getElem? (i := 628) rfl), rfl⟩
theorem tg_629 : Cond.methodLink "DeafAuctionLaw" 141 yX8_many ∈ lw_g := List.mem_filter.mpr ⟨List.mem_append_right _ (List.mem_of_getElem? (i := 629) (by decide +kernel)), by decide +kernel⟩
theorem tg_630 : Cond.instanceMethod yX8_many ∈ lw_g := List.mem_filter.mpr ⟨List.mem_append_right _ (List.mem_of_getElem? (i := 630) (by decide +kernel)), by decide +kernel⟩
theorem tg_631 : Cond.selects "DeafAuction" yX8_many yX8_many ∈ lw_g := List.mem_filter.mpr ⟨List.mem_append_right _ (List.mem_of_getElem? (i := 631) (by decide +kernel)), by decide +kernel⟩
set_option maxRecDepth 100000 in
theorem tg_632 : Cond.code yX8_many prog_1_method_32_code 2 (some FieldType.int) ∈ lw_g := List.mem_filter.mpr ⟨List.mem_append_right _ (List.mem_of_getElem? (i := 632) rfl), rfl⟩
theorem tg_633 : Cond.classLink "DeafAuctionLaw" 10 "DeafAuctionModel" ∈ lw_g := List.mem_filter.mpr ⟨List.mem_append_right _ (List.mem_of_getElem? (i := 633) (by decide +kernel)), by decide +kernel⟩
theorem tg_634 : Cond.instantiable "DeafAuctionModel" 32 ∈ lw_g := List.mem_filter.mpr ⟨List.mem_append_right _ (List.mem_of_getElem? (i := 634) (by decide +kernel)), by decide +kernel⟩
theorem tg_635 : Cond.methodLink "DeafAuctionLaw" 12 yX9_init ∈ lw_g := List.mem_filter.mpr ⟨List.mem_append_right _ (List.mem_of_getElem? (i := 635) (by decide +kernel)), by decide +kernel⟩
theorem tg_636 : Cond.instanceMethod yX9_init ∈ lw_g := List.mem_filter.mpr ⟨List.mem_append_right _ (List.mem_of_getElem? (i := 636) (by decide +kernel)), by decide +kernel⟩
set_option maxRecDepth 100000 in
theorem tg_637 : Cond.code yX9_init prog_11_method_1_code 2 none ∈ lw_g := List.mem_filter.mpr ⟨List.mem_append_right _ (List.mem_of_getElem? (i := 637) rfl), rfl⟩
theorem tg_638 : Cond.methodLink "DeafAuctionModel" 1 ⟨"java/lang/Object", "<init>", "()V"⟩ ∈ lw_g := List.mem_filter.mpr ⟨List.mem_append_right _ (List.mem_of_getElem? (i := 638) (by decide +kernel)), by decide +kernel⟩
theorem tg_639 : Cond.fieldLink "DeafAuctionModel" 66 "DeafAuctionModel" "fault" "I" ∈ lw_g := List.mem_filter.mpr ⟨List.mem_append_right _ (List.mem_of_getElem? (i := 639) (by decide +kernel)), by decide +kernel⟩
theorem tg_640 : Cond.fieldLink "DeafAuctionModel" 74 "DeafAuctionModel" "rows" "I" ∈ lw_g := List.mem_filter.mpr ⟨List.mem_append_right _ (List.mem_of_getElem? (i := 640) (by decide +kernel)), by decide +kernel⟩
theorem tg_641 : Cond.fieldLink "DeafAuctionModel" 77 "DeafAuctionModel" "wide" "I" ∈ lw_g := List.mem_filter.mpr ⟨List.mem_append_right _ (List.mem_of_getElem? (i := 641) (by decide +kernel)), by decide +kernel⟩
theorem tg_642 : Cond.fieldLink "DeafAuctionModel" 84 "DeafAuctionModel" "buyers" "I" ∈ lw_g := List.mem_filter.mpr ⟨List.mem_append_right _ (List.mem_of_getElem? (i := 642) (by decide +kernel)), by decide +kernel⟩
theorem tg_643 : Cond.fieldLink "DeafAuctionModel" 7 "DeafAuctionModel" "kindOf" "[I" ∈ lw_g := List.mem_filter.mpr ⟨List.mem_append_right _ (List.mem_of_getElem? (i := 643) (by decide +kernel)), by decide +kernel⟩
theorem tg_644 : Cond.fieldLink "DeafAuctionModel" 13 "DeafAuctionModel" "purseOf" "[I" ∈ lw_g := List.mem_filter.mpr ⟨List.mem_append_right _ (List.mem_of_getElem? (i := 644) (by decide +kernel)), by decide +kernel⟩
theorem tg_645 : Cond.fieldLink "DeafAuctionModel" 16 "DeafAuctionModel" "seatOf" "[I" ∈ lw_g := List.mem_filter.mpr ⟨List.mem_append_right _ (List.mem_of_getElem? (i := 645) (by decide +kernel)), by decide +kernel⟩
theorem tg_646 : Cond.fieldLink "DeafAuctionModel" 19 "DeafAuctionModel" "worthOf" "[I" ∈ lw_g := List.mem_filter.mpr ⟨List.mem_append_right _ (List.mem_of_getElem? (i := 646) (by decide +kernel)), by decide +kernel⟩
theorem tg_647 : Cond.fieldLink "DeafAuctionModel" 140 "DeafAuctionModel" "lawNow" "I" ∈ lw_g := List.mem_filter.mpr ⟨List.mem_append_right _ (List.mem_of_getElem? (i := 647) (by decide +kernel)), by decide +kernel⟩
theorem tg_648 : Cond.fieldLink "DeafAuctionModel" 89 "DeafAuctionModel" "readAt" "I" ∈ lw_g := List.mem_filter.mpr ⟨List.mem_append_right _ (List.mem_of_getElem? (i := 648) (by decide +kernel)), by decide +kernel⟩
theorem tg_649 : Cond.fieldLink "DeafAuctionModel" 99 "DeafAuctionModel" "readRows" "I" ∈ lw_g := List.mem_filter.mpr ⟨List.mem_append_right _ (List.mem_of_getElem? (i := 649) (by decide +kernel)), by decide +kernel⟩
theorem tg_650 : Cond.fieldLink "DeafAuctionModel" 102 "DeafAuctionModel" "readWide" "I" ∈ lw_g := List.mem_filter.mpr ⟨List.mem_append_right _ (List.mem_of_getElem? (i := 650) (by decide +kernel)), by decide +kernel⟩
theorem tg_651 : Cond.fieldLink "DeafAuctionModel" 96 "DeafAuctionModel" "readBuyers" "I" ∈ lw_g := List.mem_filter.mpr ⟨List.mem_append_right _ (List.mem_of_getElem? (i := 651) (by decide +kernel)), by decide +kernel⟩
theorem tg_652 : Cond.fieldLink "DeafAuctionModel" 22 "DeafAuctionModel" "readKind" "[I" ∈ lw_g := List.mem_filter.mpr ⟨List.mem_append_right _ (List.mem_of_getElem? (i := 652) (by decide +kernel)), by decide +kernel⟩
theorem tg_653 : Cond.fieldLink "DeafAuctionModel" 25 "DeafAuctionModel" "readPurse" "[I" ∈ lw_g := List.mem_filter.mpr ⟨List.mem_append_right _ (List.mem_of_getElem? (i := 653) (by decide +kernel)), by decide +kernel⟩
theorem tg_654 : Cond.fieldLink "DeafAuctionModel" 28 "DeafAuctionModel" "sits" "[I" ∈ lw_g := List.mem_filter.mpr ⟨List.mem_append_right _ (List.mem_of_getElem? (i := 654) (by decide +kernel)), by decide +kernel⟩
theorem tg_655 : Cond.fieldLink "DeafAuctionModel" 179 "DeafAuctionModel" "price" "I" ∈ lw_g := List.mem_filter.mpr ⟨List.mem_append_right _ (List.mem_of_getElem? (i := 655) (by decide +kernel)), by decide +kernel⟩
theorem tg_656 : Cond.fieldLink "DeafAuctionModel" 176 "DeafAuctionModel" "owner" "I" ∈ lw_g := List.mem_filter.mpr ⟨List.mem_append_right _ (List.mem_of_getElem? (i := 656) (by decide +kernel)), by decide +kernel⟩
theorem tg_657 : Cond.fieldLink "DeafAuctionModel" 185 "DeafAuctionModel" "bids" "I" ∈ lw_g := List.mem_filter.mpr ⟨List.mem_append_right _ (List.mem_of_getElem? (i := 657) (by decide +kernel)), by decide +kernel⟩
theorem tg_658 : Cond.fieldLink "DeafAuctionModel" 31 "DeafAuctionModel" "bidOf" "[I" ∈ lw_g := List.mem_filter.mpr ⟨List.mem_append_right _ (List.mem_of_getElem? (i := 658) (by decide +kernel)), by decide +kernel⟩
theorem tg_659 : Cond.fieldLink "DeafAuctionModel" 34 "DeafAuctionModel" "lotRow" "[I" ∈ lw_g := List.mem_filter.mpr ⟨List.mem_append_right _ (List.mem_of_getElem? (i := 659) (by decide +kernel)), by decide +kernel⟩
theorem tg_660 : Cond.fieldLink "DeafAuctionModel" 37 "DeafAuctionModel" "purseWas" "[I" ∈ lw_g := List.mem_filter.mpr ⟨List.mem_append_right _ (List.mem_of_getElem? (i := 660) (by decide +kernel)), by decide +kernel⟩
theorem tg_661 : Cond.fieldLink "DeafAuctionModel" 40 "DeafAuctionModel" "purseLeft" "[I" ∈ lw_g := List.mem_filter.mpr ⟨List.mem_append_right _ (List.mem_of_getElem? (i := 661) (by decide +kernel)), by decide +kernel⟩
theorem tg_662 : Cond.fieldLink "DeafAuctionModel" 43 "DeafAuctionModel" "bestRow" "[I" ∈ lw_g := List.mem_filter.mpr ⟨List.mem_append_right _ (List.mem_of_getElem? (i := 662) (by decide +kernel)), by decide +kernel⟩
theorem tg_663 : Cond.fieldLink "DeafAuctionModel" 143 "DeafAuctionModel" "readings" "I" ∈ lw_g := List.mem_filter.mpr ⟨List.mem_append_right _ (List.mem_of_getElem? (i := 663) (by decide +kernel)), by decide +kernel⟩
theorem tg_664 : Cond.fieldLink "DeafAuctionModel" 46 "DeafAuctionModel" "readingOf" "[I" ∈ lw_g := List.mem_filter.mpr ⟨List.mem_append_right _ (List.mem_of_getElem? (i := 664) (by decide +kernel)), by decide +kernel⟩
theorem tg_665 : Cond.fieldLink "DeafAuctionModel" 49 "DeafAuctionModel" "readingTo" "[I" ∈ lw_g := List.mem_filter.mpr ⟨List.mem_append_right _ (List.mem_of_getElem? (i := 665) (by decide +kernel)), by decide +kernel⟩
theorem tg_666 : Cond.fieldLink "DeafAuctionModel" 52 "DeafAuctionModel" "sheetSize" "[I" ∈ lw_g := List.mem_filter.mpr ⟨List.mem_append_right _ (List.mem_of_getElem? (i := 666) (by decide +kernel)), by decide +kernel⟩
theorem tg_667 : Cond.fieldLink "DeafAuctionModel" 55 "DeafAuctionModel" "sheetLane" "[I" ∈ lw_g := List.mem_filter.mpr ⟨List.mem_append_right _ (List.mem_of_getElem? (i := 667) (by decide +kernel)), by decide +kernel⟩
theorem tg_668 : Cond.fieldLink "DeafAuctionModel" 58 "DeafAuctionModel" "sheet" "[I" ∈ lw_g := List.mem_filter.mpr ⟨List.mem_append_right _ (List.mem_of_getElem? (i := 668) (by decide +kernel)), by decide +kernel⟩
theorem tg_669 : Cond.fieldLink "DeafAuctionModel" 61 "DeafAuctionModel" "hands" "[I" ∈ lw_g := List.mem_filter.mpr ⟨List.mem_append_right _ (List.mem_of_getElem? (i := 669) (by decide +kernel)), by decide +kernel⟩
theorem tg_670 : Cond.fieldLink "DeafAuctionModel" 225 "DeafAuctionModel" "traceNow" "I" ∈ lw_g := List.mem_filter.mpr ⟨List.mem_append_right _ (List.mem_of_getElem? (i := 670) (by decide +kernel)), by decide +kernel⟩
theorem tg_735 : Cond.superclass "DeafAuctionModel" "java/lang/Object" ∈ lw_g := List.mem_filter.mpr ⟨List.mem_append_right _ (List.mem_of_getElem? (i := 735) (by decide +kernel)), by decide +kernel⟩
theorem tg_736 : Cond.methodLink "DeafAuctionLaw" 17 yX9_hall ∈ lw_g := List.mem_filter.mpr ⟨List.mem_append_right _ (List.mem_of_getElem? (i := 736) (by decide +kernel)), by decide +kernel⟩
theorem tg_737 : Cond.instanceMethod yX9_hall ∈ lw_g := List.mem_filter.mpr ⟨List.mem_append_right _ (List.mem_of_getElem? (i := 737) (by decide +kernel)), by decide +kernel⟩
theorem tg_738 : Cond.selects "DeafAuctionModel" yX9_hall yX9_hall ∈ lw_g := List.mem_filter.mpr ⟨List.mem_append_right _ (List.mem_of_getElem? (i := 738) (by decide +kernel)), by decide +kernel⟩
set_option maxRecDepth 100000 in
theorem tg_739 : Cond.code yX9_hall prog_11_method_18_code 7 (some FieldType.int) ∈ lw_g := List.mem_filter.mpr ⟨List.mem_append_right _ (List.mem_of_getElem? (i := 739) rfl), rfl⟩
theorem tg_740 : Cond.methodLink "DeafAuctionModel" 124 yX9_noSheet ∈ lw_g := List.mem_filter.mpr ⟨List.mem_append_right _ (List.mem_of_getElem? (i := 740) (by decide +kernel)), by decide +kernel⟩
theorem tg_741 : Cond.static yX9_noSheet ∈ lw_g := List.mem_filter.mpr ⟨List.mem_append_right _ (List.mem_of_getElem? (i := 741) (by decide +kernel)), by decide +kernel⟩
set_option maxRecDepth 100000 in
theorem tg_742 : Cond.code yX9_noSheet prog_11_method_51_code 1 (some FieldType.boolean) ∈ lw_g := List.mem_filter.mpr ⟨List.mem_append_right _ (List.mem_of_getElem? (i := 742) rfl), rfl⟩
theorem tg_743 : Cond.constantLong "DeafAuctionModel" 87 (3 : Int64) ∈ lw_g := List.mem_filter.mpr ⟨List.mem_append_right _ (List.mem_of_getElem? (i := 743) (by decide +kernel)), by decide +kernel⟩
theorem tg_744 : Cond.methodLink "DeafAuctionModel" 80 yX9_in ∈ lw_g := List.mem_filter.mpr ⟨List.mem_append_right _ (List.mem_of_getElem? (i := 744) (by decide +kernel)), by decide +kernel⟩
theorem tg_745 : Cond.static yX9_in ∈ lw_g := List.mem_filter.mpr ⟨List.mem_append_right _ (List.mem_of_getElem? (i := 745) (by decide +kernel)), by decide +kernel⟩
set_option maxRecDepth 100000 in
theorem tg_746 : Cond.code yX9_in prog_11_method_2_code 6 (some FieldType.boolean) ∈ lw_g := List.mem_filter.mpr ⟨List.mem_append_right _ (List.mem_of_getElem? (i := 746) rfl), rfl⟩
theorem tg_747 : Cond.methodLink "DeafAuctionModel" 128 yX9_refused ∈ lw_g := List.mem_filter.mpr ⟨List.mem_append_right _ (List.mem_of_getElem? (i := 747) (by decide +kernel)), by decide +kernel⟩
theorem tg_749 : Cond.instanceMethod yX9_refused ∈ lw_g := List.mem_filter.mpr ⟨List.mem_append_right _ (List.mem_of_getElem? (i := 749) (by decide +kernel)), by decide +kernel⟩
set_option maxRecDepth 100000 in
theorem tg_750 : Cond.code yX9_refused prog_11_method_7_code 2 (some FieldType.int) ∈ lw_g := List.mem_filter.mpr ⟨List.mem_append_right _ (List.mem_of_getElem? (i := 750) rfl), rfl⟩
theorem tg_751 : Cond.constantLong "DeafAuctionModel" 131 (2 : Int64) ∈ lw_g := List.mem_filter.mpr ⟨List.mem_append_right _ (List.mem_of_getElem? (i := 751) (by decide +kernel)), by decide +kernel⟩
theorem tg_752 : Cond.methodLink "DeafAuctionModel" 133 yX9_cellsBarred ∈ lw_g := List.mem_filter.mpr ⟨List.mem_append_right _ (List.mem_of_getElem? (i := 752) (by decide +kernel)), by decide +kernel⟩
theorem tg_754 : Cond.instanceMethod yX9_cellsBarred ∈ lw_g := List.mem_filter.mpr ⟨List.mem_append_right _ (List.mem_of_getElem? (i := 754) (by decide +kernel)), by decide +kernel⟩
set_option maxRecDepth 100000 in
theorem tg_755 : Cond.code yX9_cellsBarred prog_11_method_17_code 6 (some FieldType.int) ∈ lw_g := List.mem_filter.mpr ⟨List.mem_append_right _ (List.mem_of_getElem? (i := 755) rfl), rfl⟩
theorem tg_756 : Cond.methodLink "DeafAuctionModel" 116 yX9_failed ∈ lw_g := List.mem_filter.mpr ⟨List.mem_append_right _ (List.mem_of_getElem? (i := 756) (by decide +kernel)), by decide +kernel⟩
theorem tg_758 : Cond.instanceMethod yX9_failed ∈ lw_g := List.mem_filter.mpr ⟨List.mem_append_right _ (List.mem_of_getElem? (i := 758) (by decide +kernel)), by decide +kernel⟩
set_option maxRecDepth 100000 in
theorem tg_759 : Cond.code yX9_failed prog_11_method_8_code 2 (some FieldType.int) ∈ lw_g := List.mem_filter.mpr ⟨List.mem_append_right _ (List.mem_of_getElem? (i := 759) rfl), rfl⟩
theorem tg_760 : Cond.methodLink "DeafAuctionModel" 120 yX9_isBeyond ∈ lw_g := List.mem_filter.mpr ⟨List.mem_append_right _ (List.mem_of_getElem? (i := 760) (by decide +kernel)), by decide +kernel⟩
theorem tg_761 : Cond.static yX9_isBeyond ∈ lw_g := List.mem_filter.mpr ⟨List.mem_append_right _ (List.mem_of_getElem? (i := 761) (by decide +kernel)), by decide +kernel⟩
set_option maxRecDepth 100000 in
theorem tg_762 : Cond.code yX9_isBeyond prog_11_method_57_code 4 (some FieldType.boolean) ∈ lw_g := List.mem_filter.mpr ⟨List.mem_append_right _ (List.mem_of_getElem? (i := 762) rfl), rfl⟩
theorem tg_763 : Cond.methodLink "DeafAuctionModel" 137 yX9_readsHall ∈ lw_g := List.mem_filter.mpr ⟨List.mem_append_right _ (List.mem_of_getElem? (i := 763) (by decide +kernel)), by decide +kernel⟩
theorem tg_765 : Cond.instanceMethod yX9_readsHall ∈ lw_g := List.mem_filter.mpr ⟨List.mem_append_right _ (List.mem_of_getElem? (i := 765) (by decide +kernel)), by decide +kernel⟩
set_option maxRecDepth 100000 in
theorem tg_766 : Cond.code yX9_readsHall prog_11_method_16_code 4 (some FieldType.boolean) ∈ lw_g := List.mem_filter.mpr ⟨List.mem_append_right _ (List.mem_of_getElem? (i := 766) rfl), rfl⟩
theorem tg_767 : Cond.methodLink "DeafAuctionModel" 92 yX9_codeAt ∈ lw_g := List.mem_filter.mpr ⟨List.mem_append_right _ (List.mem_of_getElem? (i := 767) (by decide +kernel)), by decide +kernel⟩
theorem tg_769 : Cond.instanceMethod yX9_codeAt ∈ lw_g := List.mem_filter.mpr ⟨List.mem_append_right _ (List.mem_of_getElem? (i := 769) (by decide +kernel)), by decide +kernel⟩
set_option maxRecDepth 100000 in
theorem tg_770 : Cond.code yX9_codeAt prog_11_method_13_code 3 (some FieldType.int) ∈ lw_g := List.mem_filter.mpr ⟨List.mem_append_right _ (List.mem_of_getElem? (i := 770) rfl), rfl⟩
theorem tg_771 : Cond.methodLink "DeafAuctionModel" 108 yX9_figure ∈ lw_g := List.mem_filter.mpr ⟨List.mem_append_right _ (List.mem_of_getElem? (i := 771) (by decide +kernel)), by decide +kernel⟩
theorem tg_773 : Cond.instanceMethod yX9_figure ∈ lw_g := List.mem_filter.mpr ⟨List.mem_append_right _ (List.mem_of_getElem? (i := 773) (by decide +kernel)), by decide +kernel⟩
set_option maxRecDepth 100000 in
theorem tg_774 : Cond.code yX9_figure prog_11_method_14_code 7 (some FieldType.int) ∈ lw_g := List.mem_filter.mpr ⟨List.mem_append_right _ (List.mem_of_getElem? (i := 774) rfl), rfl⟩
theorem tg_775 : Cond.methodLink "DeafAuctionModel" 112 yX9_readsBuyer ∈ lw_g := List.mem_filter.mpr ⟨List.mem_append_right _ (List.mem_of_getElem? (i := 775) (by decide +kernel)), by decide +kernel⟩
theorem tg_777 : Cond.instanceMethod yX9_readsBuyer ∈ lw_g := List.mem_filter.mpr ⟨List.mem_append_right _ (List.mem_of_getElem? (i := 777) (by decide +kernel)), by decide +kernel⟩
set_option maxRecDepth 100000 in
theorem tg_778 : Cond.code yX9_readsBuyer prog_11_method_15_code 6 (some FieldType.boolean) ∈ lw_g := List.mem_filter.mpr ⟨List.mem_append_right _ (List.mem_of_getElem? (i := 778) rfl), rfl⟩
theorem tg_779 : Cond.methodLink "DeafAuctionModel" 105 yX9_lesser ∈ lw_g := List.mem_filter.mpr ⟨List.mem_append_right _ (List.mem_of_getElem? (i := 779) (by decide +kernel)), by decide +kernel⟩
theorem tg_780 : Cond.static yX9_lesser ∈ lw_g := List.mem_filter.mpr ⟨List.mem_append_right _ (List.mem_of_getElem? (i := 780) (by decide +kernel)), by decide +kernel⟩
set_option maxRecDepth 100000 in
theorem tg_781 : Cond.code yX9_lesser prog_11_method_5_code 2 (some FieldType.int) ∈ lw_g := List.mem_filter.mpr ⟨List.mem_append_right _ (List.mem_of_getElem? (i := 781) rfl), rfl⟩
theorem tg_782 : Cond.methodLink "DeafAuctionLaw" 22 yX9_ofBuyer ∈ lw_g := List.mem_filter.mpr ⟨List.mem_append_right _ (List.mem_of_getElem? (i := 782) (by decide +kernel)), by decide +kernel⟩
theorem tg_783 : Cond.instanceMethod yX9_ofBuyer ∈ lw_g := List.mem_filter.mpr ⟨List.mem_append_right _ (List.mem_of_getElem? (i := 783) (by decide +kernel)), by decide +kernel⟩
theorem tg_784 : Cond.selects "DeafAuctionModel" yX9_ofBuyer yX9_ofBuyer ∈ lw_g := List.mem_filter.mpr ⟨List.mem_append_right _ (List.mem_of_getElem? (i := 784) (by decide +kernel)), by decide +kernel⟩
set_option maxRecDepth 100000 in
theorem tg_785 : Cond.code yX9_ofBuyer prog_11_method_19_code 3 (some FieldType.int) ∈ lw_g := List.mem_filter.mpr ⟨List.mem_append_right _ (List.mem_of_getElem? (i := 785) rfl), rfl⟩
theorem tg_786 : Cond.methodLink "DeafAuctionModel" 146 yX9_noBuyer ∈ lw_g := List.mem_filter.mpr ⟨List.mem_append_right _ (List.mem_of_getElem? (i := 786) (by decide +kernel)), by decide +kernel⟩
theorem tg_788 : Cond.instanceMethod yX9_noBuyer ∈ lw_g := List.mem_filter.mpr ⟨List.mem_append_right _ (List.mem_of_getElem? (i := 788) (by decide +kernel)), by decide +kernel⟩
set_option maxRecDepth 100000 in
theorem tg_789 : Cond.code yX9_noBuyer prog_11_method_11_code 2 (some FieldType.boolean) ∈ lw_g := List.mem_filter.mpr ⟨List.mem_append_right _ (List.mem_of_getElem? (i := 789) rfl), rfl⟩
theorem tg_790 : Cond.methodLink "DeafAuctionModel" 149 yX9_sitDown ∈ lw_g := List.mem_filter.mpr ⟨List.mem_append_right _ (List.mem_of_getElem? (i := 790) (by decide +kernel)), by decide +kernel⟩
theorem tg_792 : Cond.instanceMethod yX9_sitDown ∈ lw_g := List.mem_filter.mpr ⟨List.mem_append_right _ (List.mem_of_getElem? (i := 792) (by decide +kernel)), by decide +kernel⟩
set_option maxRecDepth 100000 in
theorem tg_793 : Cond.code yX9_sitDown prog_11_method_26_code 3 none ∈ lw_g := List.mem_filter.mpr ⟨List.mem_append_right _ (List.mem_of_getElem? (i := 793) rfl), rfl⟩
theorem tg_794 : Cond.methodLink "DeafAuctionModel" 170 yX9_isIn ∈ lw_g := List.mem_filter.mpr ⟨List.mem_append_right _ (List.mem_of_getElem? (i := 794) (by decide +kernel)), by decide +kernel⟩
theorem tg_795 : Cond.static yX9_isIn ∈ lw_g := List.mem_filter.mpr ⟨List.mem_append_right _ (List.mem_of_getElem? (i := 795) (by decide +kernel)), by decide +kernel⟩
set_option maxRecDepth 100000 in
theorem tg_796 : Cond.code yX9_isIn prog_11_method_4_code 2 (some FieldType.boolean) ∈ lw_g := List.mem_filter.mpr ⟨List.mem_append_right _ (List.mem_of_getElem? (i := 796) rfl), rfl⟩
theorem tg_797 : Cond.methodLink "DeafAuctionModel" 153 yX9_isSeen ∈ lw_g := List.mem_filter.mpr ⟨List.mem_append_right _ (List.mem_of_getElem? (i := 797) (by decide +kernel)), by decide +kernel⟩
theorem tg_799 : Cond.instanceMethod yX9_isSeen ∈ lw_g := List.mem_filter.mpr ⟨List.mem_append_right _ (List.mem_of_getElem? (i := 799) (by decide +kernel)), by decide +kernel⟩
set_option maxRecDepth 100000 in
theorem tg_800 : Cond.code yX9_isSeen prog_11_method_28_code 2 (some FieldType.boolean) ∈ lw_g := List.mem_filter.mpr ⟨List.mem_append_right _ (List.mem_of_getElem? (i := 800) rfl), rfl⟩
theorem tg_801 : Cond.methodLink "DeafAuctionModel" 173 yX9_isTaken ∈ lw_g := List.mem_filter.mpr ⟨List.mem_append_right _ (List.mem_of_getElem? (i := 801) (by decide +kernel)), by decide +kernel⟩
theorem tg_803 : Cond.instanceMethod yX9_isTaken ∈ lw_g := List.mem_filter.mpr ⟨List.mem_append_right _ (List.mem_of_getElem? (i := 803) (by decide +kernel)), by decide +kernel⟩
set_option maxRecDepth 100000 in
theorem tg_804 : Cond.code yX9_isTaken prog_11_method_27_code 4 (some FieldType.boolean) ∈ lw_g := List.mem_filter.mpr ⟨List.mem_append_right _ (List.mem_of_getElem? (i := 804) rfl), rfl⟩
theorem tg_805 : Cond.methodLink "DeafAuctionLaw" 27 yX9_worth ∈ lw_g := List.mem_filter.mpr ⟨List.mem_append_right _ (List.mem_of_getElem? (i := 805) (by decide +kernel)), by decide +kernel⟩
theorem tg_806 : Cond.instanceMethod yX9_worth ∈ lw_g := List.mem_filter.mpr ⟨List.mem_append_right _ (List.mem_of_getElem? (i := 806) (by decide +kernel)), by decide +kernel⟩
theorem tg_807 : Cond.selects "DeafAuctionModel" yX9_worth yX9_worth ∈ lw_g := List.mem_filter.mpr ⟨List.mem_append_right _ (List.mem_of_getElem? (i := 807) (by decide +kernel)), by decide +kernel⟩
set_option maxRecDepth 100000 in
theorem tg_808 : Cond.code yX9_worth prog_11_method_20_code 5 (some FieldType.int) ∈ lw_g := List.mem_filter.mpr ⟨List.mem_append_right _ (List.mem_of_getElem? (i := 808) rfl), rfl⟩
theorem tg_809 : Cond.methodLink "DeafAuctionModel" 156 yX9_noLot ∈ lw_g := List.mem_filter.mpr ⟨List.mem_append_right _ (List.mem_of_getElem? (i := 809) (by decide +kernel)), by decide +kernel⟩
theorem tg_810 : Cond.static yX9_noLot ∈ lw_g := List.mem_filter.mpr ⟨List.mem_append_right _ (List.mem_of_getElem? (i := 810) (by decide +kernel)), by decide +kernel⟩
set_option maxRecDepth 100000 in
theorem tg_811 : Cond.code yX9_noLot prog_11_method_12_code 1 (some FieldType.boolean) ∈ lw_g := List.mem_filter.mpr ⟨List.mem_append_right _ (List.mem_of_getElem? (i := 811) rfl), rfl⟩
theorem tg_812 : Cond.constantLong "DeafAuctionModel" 159 (99 : Int64) ∈ lw_g := List.mem_filter.mpr ⟨List.mem_append_right _ (List.mem_of_getElem? (i := 812) (by decide +kernel)), by decide +kernel⟩
theorem tg_813 : Cond.methodLink "DeafAuctionLaw" 31 yX9_limit ∈ lw_g := List.mem_filter.mpr ⟨List.mem_append_right _ (List.mem_of_getElem? (i := 813) (by decide +kernel)), by decide +kernel⟩
theorem tg_814 : Cond.instanceMethod yX9_limit ∈ lw_g := List.mem_filter.mpr ⟨List.mem_append_right _ (List.mem_of_getElem? (i := 814) (by decide +kernel)), by decide +kernel⟩
theorem tg_815 : Cond.selects "DeafAuctionModel" yX9_limit yX9_limit ∈ lw_g := List.mem_filter.mpr ⟨List.mem_append_right _ (List.mem_of_getElem? (i := 815) (by decide +kernel)), by decide +kernel⟩
set_option maxRecDepth 100000 in
theorem tg_816 : Cond.code yX9_limit prog_11_method_22_code 3 (some FieldType.int) ∈ lw_g := List.mem_filter.mpr ⟨List.mem_append_right _ (List.mem_of_getElem? (i := 816) rfl), rfl⟩
theorem tg_817 : Cond.methodLink "DeafAuctionModel" 161 yX9_limitOf ∈ lw_g := List.mem_filter.mpr ⟨List.mem_append_right _ (List.mem_of_getElem? (i := 817) (by decide +kernel)), by decide +kernel⟩
theorem tg_819 : Cond.instanceMethod yX9_limitOf ∈ lw_g := List.mem_filter.mpr ⟨List.mem_append_right _ (List.mem_of_getElem? (i := 819) (by decide +kernel)), by decide +kernel⟩
set_option maxRecDepth 100000 in
theorem tg_820 : Cond.code yX9_limitOf prog_11_method_21_code 4 (some FieldType.int) ∈ lw_g := List.mem_filter.mpr ⟨List.mem_append_right _ (List.mem_of_getElem? (i := 820) rfl), rfl⟩
theorem tg_821 : Cond.methodLink "DeafAuctionLaw" 35 yX9_sit ∈ lw_g := List.mem_filter.mpr ⟨List.mem_append_right _ (List.mem_of_getElem? (i := 821) (by decide +kernel)), by decide +kernel⟩
theorem tg_822 : Cond.instanceMethod yX9_sit ∈ lw_g := List.mem_filter.mpr ⟨List.mem_append_right _ (List.mem_of_getElem? (i := 822) (by decide +kernel)), by decide +kernel⟩
theorem tg_823 : Cond.selects "DeafAuctionModel" yX9_sit yX9_sit ∈ lw_g := List.mem_filter.mpr ⟨List.mem_append_right _ (List.mem_of_getElem? (i := 823) (by decide +kernel)), by decide +kernel⟩
set_option maxRecDepth 100000 in
theorem tg_824 : Cond.code yX9_sit prog_11_method_24_code 5 (some FieldType.int) ∈ lw_g := List.mem_filter.mpr ⟨List.mem_append_right _ (List.mem_of_getElem? (i := 824) rfl), rfl⟩
theorem tg_825 : Cond.methodLink "DeafAuctionModel" 164 yX9_noSeat ∈ lw_g := List.mem_filter.mpr ⟨List.mem_append_right _ (List.mem_of_getElem? (i := 825) (by decide +kernel)), by decide +kernel⟩
theorem tg_827 : Cond.instanceMethod yX9_noSeat ∈ lw_g := List.mem_filter.mpr ⟨List.mem_append_right _ (List.mem_of_getElem? (i := 827) (by decide +kernel)), by decide +kernel⟩
set_option maxRecDepth 100000 in
theorem tg_828 : Cond.code yX9_noSeat prog_11_method_10_code 2 (some FieldType.boolean) ∈ lw_g := List.mem_filter.mpr ⟨List.mem_append_right _ (List.mem_of_getElem? (i := 828) rfl), rfl⟩
theorem tg_829 : Cond.methodLink "DeafAuctionModel" 167 yX9_sitterIn ∈ lw_g := List.mem_filter.mpr ⟨List.mem_append_right _ (List.mem_of_getElem? (i := 829) (by decide +kernel)), by decide +kernel⟩
theorem tg_831 : Cond.instanceMethod yX9_sitterIn ∈ lw_g := List.mem_filter.mpr ⟨List.mem_append_right _ (List.mem_of_getElem? (i := 831) (by decide +kernel)), by decide +kernel⟩
set_option maxRecDepth 100000 in
theorem tg_832 : Cond.code yX9_sitterIn prog_11_method_23_code 3 (some FieldType.int) ∈ lw_g := List.mem_filter.mpr ⟨List.mem_append_right _ (List.mem_of_getElem? (i := 832) rfl), rfl⟩
theorem tg_833 : Cond.methodLink "DeafAuctionLaw" 40 yX9_law ∈ lw_g := List.mem_filter.mpr ⟨List.mem_append_right _ (List.mem_of_getElem? (i := 833) (by decide +kernel)), by decide +kernel⟩
theorem tg_834 : Cond.instanceMethod yX9_law ∈ lw_g := List.mem_filter.mpr ⟨List.mem_append_right _ (List.mem_of_getElem? (i := 834) (by decide +kernel)), by decide +kernel⟩
theorem tg_835 : Cond.selects "DeafAuctionModel" yX9_law yX9_law ∈ lw_g := List.mem_filter.mpr ⟨List.mem_append_right _ (List.mem_of_getElem? (i := 835) (by decide +kernel)), by decide +kernel⟩
set_option maxRecDepth 100000 in
theorem tg_836 : Cond.code yX9_law prog_11_method_25_code 3 (some FieldType.int) ∈ lw_g := List.mem_filter.mpr ⟨List.mem_append_right _ (List.mem_of_getElem? (i := 836) rfl), rfl⟩
theorem tg_837 : Cond.methodLink "DeafAuctionLaw" 44 yX9_sale ∈ lw_g := List.mem_filter.mpr ⟨List.mem_append_right _ (List.mem_of_getElem? (i := 837) (by decide +kernel)), by decide +kernel⟩
theorem tg_838 : Cond.instanceMethod yX9_sale ∈ lw_g := List.mem_filter.mpr ⟨List.mem_append_right _ (List.mem_of_getElem? (i := 838) (by decide +kernel)), by decide +kernel⟩
theorem tg_839 : Cond.selects "DeafAuctionModel" yX9_sale yX9_sale ∈ lw_g := List.mem_filter.mpr ⟨List.mem_append_right _ (List.mem_of_getElem? (i := 839) (by decide +kernel)), by decide +kernel⟩
set_option maxRecDepth 100000 in
theorem tg_840 : Cond.code yX9_sale prog_11_method_34_code 3 (some FieldType.int) ∈ lw_g := List.mem_filter.mpr ⟨List.mem_append_right _ (List.mem_of_getElem? (i := 840) rfl), rfl⟩
theorem tg_841 : Cond.methodLink "DeafAuctionModel" 195 yX9_all ∈ lw_g := List.mem_filter.mpr ⟨List.mem_append_right _ (List.mem_of_getElem? (i := 841) (by decide +kernel)), by decide +kernel⟩
theorem tg_843 : Cond.instanceMethod yX9_all ∈ lw_g := List.mem_filter.mpr ⟨List.mem_append_right _ (List.mem_of_getElem? (i := 843) (by decide +kernel)), by decide +kernel⟩
set_option maxRecDepth 100000 in
theorem tg_844 : Cond.code yX9_all prog_11_method_32_code 1 (some FieldType.int) ∈ lw_g := List.mem_filter.mpr ⟨List.mem_append_right _ (List.mem_of_getElem? (i := 844) rfl), rfl⟩
theorem tg_845 : Cond.methodLink "DeafAuctionModel" 199 yX9_sellTo ∈ lw_g := List.mem_filter.mpr ⟨List.mem_append_right _ (List.mem_of_getElem? (i := 845) (by decide +kernel)), by decide +kernel⟩
theorem tg_847 : Cond.instanceMethod yX9_sellTo ∈ lw_g := List.mem_filter.mpr ⟨List.mem_append_right _ (List.mem_of_getElem? (i := 847) (by decide +kernel)), by decide +kernel⟩
set_option maxRecDepth 100000 in
theorem tg_848 : Cond.code yX9_sellTo prog_11_method_33_code 3 none ∈ lw_g := List.mem_filter.mpr ⟨List.mem_append_right _ (List.mem_of_getElem? (i := 848) rfl), rfl⟩
theorem tg_849 : Cond.methodLink "DeafAuctionModel" 191 yX9_sell ∈ lw_g := List.mem_filter.mpr ⟨List.mem_append_right _ (List.mem_of_getElem? (i := 849) (by decide +kernel)), by decide +kernel⟩
theorem tg_851 : Cond.instanceMethod yX9_sell ∈ lw_g := List.mem_filter.mpr ⟨List.mem_append_right _ (List.mem_of_getElem? (i := 851) (by decide +kernel)), by decide +kernel⟩
set_option maxRecDepth 100000 in
theorem tg_852 : Cond.code yX9_sell prog_11_method_31_code 5 none ∈ lw_g := List.mem_filter.mpr ⟨List.mem_append_right _ (List.mem_of_getElem? (i := 852) rfl), rfl⟩
theorem tg_853 : Cond.methodLink "DeafAuctionModel" 188 yX9_nextBidder ∈ lw_g := List.mem_filter.mpr ⟨List.mem_append_right _ (List.mem_of_getElem? (i := 853) (by decide +kernel)), by decide +kernel⟩
theorem tg_855 : Cond.instanceMethod yX9_nextBidder ∈ lw_g := List.mem_filter.mpr ⟨List.mem_append_right _ (List.mem_of_getElem? (i := 855) (by decide +kernel)), by decide +kernel⟩
set_option maxRecDepth 100000 in
theorem tg_856 : Cond.code yX9_nextBidder prog_11_method_30_code 6 (some FieldType.int) ∈ lw_g := List.mem_filter.mpr ⟨List.mem_append_right _ (List.mem_of_getElem? (i := 856) rfl), rfl⟩
theorem tg_857 : Cond.methodLink "DeafAuctionModel" 182 yX9_step ∈ lw_g := List.mem_filter.mpr ⟨List.mem_append_right _ (List.mem_of_getElem? (i := 857) (by decide +kernel)), by decide +kernel⟩
theorem tg_859 : Cond.instanceMethod yX9_step ∈ lw_g := List.mem_filter.mpr ⟨List.mem_append_right _ (List.mem_of_getElem? (i := 859) (by decide +kernel)), by decide +kernel⟩
set_option maxRecDepth 100000 in
theorem tg_860 : Cond.code yX9_step prog_11_method_29_code 3 (some FieldType.int) ∈ lw_g := List.mem_filter.mpr ⟨List.mem_append_right _ (List.mem_of_getElem? (i := 860) rfl), rfl⟩
theorem tg_861 : Cond.methodLink "DeafAuctionLaw" 48 yX9_bid ∈ lw_g := List.mem_filter.mpr ⟨List.mem_append_right _ (List.mem_of_getElem? (i := 861) (by decide +kernel)), by decide +kernel⟩
theorem tg_862 : Cond.instanceMethod yX9_bid ∈ lw_g := List.mem_filter.mpr ⟨List.mem_append_right _ (List.mem_of_getElem? (i := 862) (by decide +kernel)), by decide +kernel⟩
theorem tg_863 : Cond.selects "DeafAuctionModel" yX9_bid yX9_bid ∈ lw_g := List.mem_filter.mpr ⟨List.mem_append_right _ (List.mem_of_getElem? (i := 863) (by decide +kernel)), by decide +kernel⟩
set_option maxRecDepth 100000 in
theorem tg_864 : Cond.code yX9_bid prog_11_method_35_code 3 (some FieldType.int) ∈ lw_g := List.mem_filter.mpr ⟨List.mem_append_right _ (List.mem_of_getElem? (i := 864) rfl), rfl⟩
theorem tg_865 : Cond.methodLink "DeafAuctionLaw" 52 yX9_ends ∈ lw_g := List.mem_filter.mpr ⟨List.mem_append_right _ (List.mem_of_getElem? (i := 865) (by decide +kernel)), by decide +kernel⟩
theorem tg_866 : Cond.instanceMethod yX9_ends ∈ lw_g := List.mem_filter.mpr ⟨List.mem_append_right _ (List.mem_of_getElem? (i := 866) (by decide +kernel)), by decide +kernel⟩
theorem tg_867 : Cond.selects "DeafAuctionModel" yX9_ends yX9_ends ∈ lw_g := List.mem_filter.mpr ⟨List.mem_append_right _ (List.mem_of_getElem? (i := 867) (by decide +kernel)), by decide +kernel⟩
set_option maxRecDepth 100000 in
theorem tg_868 : Cond.code yX9_ends prog_11_method_36_code 3 (some FieldType.int) ∈ lw_g := List.mem_filter.mpr ⟨List.mem_append_right _ (List.mem_of_getElem? (i := 868) rfl), rfl⟩
theorem tg_869 : Cond.methodLink "DeafAuctionLaw" 57 yX9_row ∈ lw_g := List.mem_filter.mpr ⟨List.mem_append_right _ (List.mem_of_getElem? (i := 869) (by decide +kernel)), by decide +kernel⟩
theorem tg_870 : Cond.instanceMethod yX9_row ∈ lw_g := List.mem_filter.mpr ⟨List.mem_append_right _ (List.mem_of_getElem? (i := 870) (by decide +kernel)), by decide +kernel⟩
theorem tg_871 : Cond.selects "DeafAuctionModel" yX9_row yX9_row ∈ lw_g := List.mem_filter.mpr ⟨List.mem_append_right _ (List.mem_of_getElem? (i := 871) (by decide +kernel)), by decide +kernel⟩
set_option maxRecDepth 100000 in
theorem tg_872 : Cond.code yX9_row prog_11_method_38_code 10 (some FieldType.int) ∈ lw_g := List.mem_filter.mpr ⟨List.mem_append_right _ (List.mem_of_getElem? (i := 872) rfl), rfl⟩
theorem tg_873 : Cond.methodLink "DeafAuctionModel" 202 yX9_brings ∈ lw_g := List.mem_filter.mpr ⟨List.mem_append_right _ (List.mem_of_getElem? (i := 873) (by decide +kernel)), by decide +kernel⟩
theorem tg_875 : Cond.instanceMethod yX9_brings ∈ lw_g := List.mem_filter.mpr ⟨List.mem_append_right _ (List.mem_of_getElem? (i := 875) (by decide +kernel)), by decide +kernel⟩
set_option maxRecDepth 100000 in
theorem tg_876 : Cond.code yX9_brings prog_11_method_37_code 4 (some FieldType.int) ∈ lw_g := List.mem_filter.mpr ⟨List.mem_append_right _ (List.mem_of_getElem? (i := 876) rfl), rfl⟩
theorem tg_877 : Cond.methodLink "DeafAuctionLaw" 61 yX9_gain ∈ lw_g := List.mem_filter.mpr ⟨List.mem_append_right _ (List.mem_of_getElem? (i := 877) (by decide +kernel)), by decide +kernel⟩
theorem tg_878 : Cond.instanceMethod yX9_gain ∈ lw_g := List.mem_filter.mpr ⟨List.mem_append_right _ (List.mem_of_getElem? (i := 878) (by decide +kernel)), by decide +kernel⟩
theorem tg_879 : Cond.selects "DeafAuctionModel" yX9_gain yX9_gain ∈ lw_g := List.mem_filter.mpr ⟨List.mem_append_right _ (List.mem_of_getElem? (i := 879) (by decide +kernel)), by decide +kernel⟩
set_option maxRecDepth 100000 in
theorem tg_880 : Cond.code yX9_gain prog_11_method_40_code 3 (some FieldType.int) ∈ lw_g := List.mem_filter.mpr ⟨List.mem_append_right _ (List.mem_of_getElem? (i := 880) rfl), rfl⟩
theorem tg_881 : Cond.methodLink "DeafAuctionModel" 205 yX9_gainOf ∈ lw_g := List.mem_filter.mpr ⟨List.mem_append_right _ (List.mem_of_getElem? (i := 881) (by decide +kernel)), by decide +kernel⟩
theorem tg_883 : Cond.instanceMethod yX9_gainOf ∈ lw_g := List.mem_filter.mpr ⟨List.mem_append_right _ (List.mem_of_getElem? (i := 883) (by decide +kernel)), by decide +kernel⟩
set_option maxRecDepth 100000 in
theorem tg_884 : Cond.code yX9_gainOf prog_11_method_39_code 3 (some FieldType.int) ∈ lw_g := List.mem_filter.mpr ⟨List.mem_append_right _ (List.mem_of_getElem? (i := 884) rfl), rfl⟩
theorem tg_885 : Cond.methodLink "DeafAuctionLaw" 65 yX9_best ∈ lw_g := List.mem_filter.mpr ⟨List.mem_append_right _ (List.mem_of_getElem? (i := 885) (by decide +kernel)), by decide +kernel⟩
theorem tg_886 : Cond.instanceMethod yX9_best ∈ lw_g := List.mem_filter.mpr ⟨List.mem_append_right _ (List.mem_of_getElem? (i := 886) (by decide +kernel)), by decide +kernel⟩
theorem tg_887 : Cond.selects "DeafAuctionModel" yX9_best yX9_best ∈ lw_g := List.mem_filter.mpr ⟨List.mem_append_right _ (List.mem_of_getElem? (i := 887) (by decide +kernel)), by decide +kernel⟩
set_option maxRecDepth 100000 in
theorem tg_888 : Cond.code yX9_best prog_11_method_41_code 10 (some FieldType.int) ∈ lw_g := List.mem_filter.mpr ⟨List.mem_append_right _ (List.mem_of_getElem? (i := 888) rfl), rfl⟩
theorem tg_889 : Cond.methodLink "DeafAuctionLaw" 69 yX9_order ∈ lw_g := List.mem_filter.mpr ⟨List.mem_append_right _ (List.mem_of_getElem? (i := 889) (by decide +kernel)), by decide +kernel⟩
theorem tg_890 : Cond.instanceMethod yX9_order ∈ lw_g := List.mem_filter.mpr ⟨List.mem_append_right _ (List.mem_of_getElem? (i := 890) (by decide +kernel)), by decide +kernel⟩
theorem tg_891 : Cond.selects "DeafAuctionModel" yX9_order yX9_order ∈ lw_g := List.mem_filter.mpr ⟨List.mem_append_right _ (List.mem_of_getElem? (i := 891) (by decide +kernel)), by decide +kernel⟩
set_option maxRecDepth 100000 in
theorem tg_892 : Cond.code yX9_order prog_11_method_42_code 7 (some FieldType.int) ∈ lw_g := List.mem_filter.mpr ⟨List.mem_append_right _ (List.mem_of_getElem? (i := 892) rfl), rfl⟩
theorem tg_893 : Cond.constantLong "DeafAuctionModel" 208 (-1 : Int64) ∈ lw_g := List.mem_filter.mpr ⟨List.mem_append_right _ (List.mem_of_getElem? (i := 893) (by decide +kernel)), by decide +kernel⟩
theorem tg_894 : Cond.methodLink "DeafAuctionLaw" 73 yX9_ring ∈ lw_g := List.mem_filter.mpr ⟨List.mem_append_right _ (List.mem_of_getElem? (i := 894) (by decide +kernel)), by decide +kernel⟩
theorem tg_895 : Cond.instanceMethod yX9_ring ∈ lw_g := List.mem_filter.mpr ⟨List.mem_append_right _ (List.mem_of_getElem? (i := 895) (by decide +kernel)), by decide +kernel⟩
theorem tg_896 : Cond.selects "DeafAuctionModel" yX9_ring yX9_ring ∈ lw_g := List.mem_filter.mpr ⟨List.mem_append_right _ (List.mem_of_getElem? (i := 896) (by decide +kernel)), by decide +kernel⟩
set_option maxRecDepth 100000 in
theorem tg_897 : Cond.code yX9_ring prog_11_method_43_code 5 (some FieldType.int) ∈ lw_g := List.mem_filter.mpr ⟨List.mem_append_right _ (List.mem_of_getElem? (i := 897) rfl), rfl⟩
theorem tg_898 : Cond.methodLink "DeafAuctionLaw" 78 yX9_mean ∈ lw_g := List.mem_filter.mpr ⟨List.mem_append_right _ (List.mem_of_getElem? (i := 898) (by decide +kernel)), by decide +kernel⟩
theorem tg_899 : Cond.instanceMethod yX9_mean ∈ lw_g := List.mem_filter.mpr ⟨List.mem_append_right _ (List.mem_of_getElem? (i := 899) (by decide +kernel)), by decide +kernel⟩
theorem tg_900 : Cond.selects "DeafAuctionModel" yX9_mean yX9_mean ∈ lw_g := List.mem_filter.mpr ⟨List.mem_append_right _ (List.mem_of_getElem? (i := 900) (by decide +kernel)), by decide +kernel⟩
set_option maxRecDepth 100000 in
theorem tg_901 : Cond.code yX9_mean prog_11_method_44_code 5 (some FieldType.long) ∈ lw_g := List.mem_filter.mpr ⟨List.mem_append_right _ (List.mem_of_getElem? (i := 901) rfl), rfl⟩
theorem tg_902 : Cond.methodLink "DeafAuctionModel" 70 yX9_lost ∈ lw_g := List.mem_filter.mpr ⟨List.mem_append_right _ (List.mem_of_getElem? (i := 902) (by decide +kernel)), by decide +kernel⟩
theorem tg_903 : Cond.static yX9_lost ∈ lw_g := List.mem_filter.mpr ⟨List.mem_append_right _ (List.mem_of_getElem? (i := 903) (by decide +kernel)), by decide +kernel⟩
set_option maxRecDepth 100000 in
theorem tg_904 : Cond.code yX9_lost prog_11_method_3_code 0 (some FieldType.long) ∈ lw_g := List.mem_filter.mpr ⟨List.mem_append_right _ (List.mem_of_getElem? (i := 904) rfl), rfl⟩
theorem tg_905 : Cond.constantLong "DeafAuctionModel" 64 (-9223372036854775808 : Int64) ∈ lw_g := List.mem_filter.mpr ⟨List.mem_append_right _ (List.mem_of_getElem? (i := 905) (by decide +kernel)), by decide +kernel⟩
theorem tg_906 : Cond.methodLink "DeafAuctionModel" 210 yX9_told ∈ lw_g := List.mem_filter.mpr ⟨List.mem_append_right _ (List.mem_of_getElem? (i := 906) (by decide +kernel)), by decide +kernel⟩
theorem tg_907 : Cond.static yX9_told ∈ lw_g := List.mem_filter.mpr ⟨List.mem_append_right _ (List.mem_of_getElem? (i := 907) (by decide +kernel)), by decide +kernel⟩
set_option maxRecDepth 100000 in
theorem tg_908 : Cond.code yX9_told prog_11_method_6_code 11 (some FieldType.long) ∈ lw_g := List.mem_filter.mpr ⟨List.mem_append_right _ (List.mem_of_getElem? (i := 908) rfl), rfl⟩
theorem tg_909 : Cond.methodLink "DeafAuctionLaw" 82 yX9_hangs ∈ lw_g := List.mem_filter.mpr ⟨List.mem_append_right _ (List.mem_of_getElem? (i := 909) (by decide +kernel)), by decide +kernel⟩
theorem tg_910 : Cond.instanceMethod yX9_hangs ∈ lw_g := List.mem_filter.mpr ⟨List.mem_append_right _ (List.mem_of_getElem? (i := 910) (by decide +kernel)), by decide +kernel⟩
theorem tg_911 : Cond.selects "DeafAuctionModel" yX9_hangs yX9_hangs ∈ lw_g := List.mem_filter.mpr ⟨List.mem_append_right _ (List.mem_of_getElem? (i := 911) (by decide +kernel)), by decide +kernel⟩
set_option maxRecDepth 100000 in
theorem tg_912 : Cond.code yX9_hangs prog_11_method_45_code 5 (some FieldType.int) ∈ lw_g := List.mem_filter.mpr ⟨List.mem_append_right _ (List.mem_of_getElem? (i := 912) rfl), rfl⟩
theorem tg_913 : Cond.methodLink "DeafAuctionLaw" 86 yX9_reading ∈ lw_g := List.mem_filter.mpr ⟨List.mem_append_right _ (List.mem_of_getElem? (i := 913) (by decide +kernel)), by decide +kernel⟩
theorem tg_914 : Cond.instanceMethod yX9_reading ∈ lw_g := List.mem_filter.mpr ⟨List.mem_append_right _ (List.mem_of_getElem? (i := 914) (by decide +kernel)), by decide +kernel⟩
theorem tg_915 : Cond.selects "DeafAuctionModel" yX9_reading yX9_reading ∈ lw_g := List.mem_filter.mpr ⟨List.mem_append_right _ (List.mem_of_getElem? (i := 915) (by decide +kernel)), by decide +kernel⟩
set_option maxRecDepth 100000 in
theorem tg_916 : Cond.code yX9_reading prog_11_method_46_code 3 (some FieldType.int) ∈ lw_g := List.mem_filter.mpr ⟨List.mem_append_right _ (List.mem_of_getElem? (i := 916) rfl), rfl⟩
theorem tg_917 : Cond.methodLink "DeafAuctionLaw" 90 yX9_back ∈ lw_g := List.mem_filter.mpr ⟨List.mem_append_right _ (List.mem_of_getElem? (i := 917) (by decide +kernel)), by decide +kernel⟩
theorem tg_918 : Cond.instanceMethod yX9_back ∈ lw_g := List.mem_filter.mpr ⟨List.mem_append_right _ (List.mem_of_getElem? (i := 918) (by decide +kernel)), by decide +kernel⟩
theorem tg_919 : Cond.selects "DeafAuctionModel" yX9_back yX9_back ∈ lw_g := List.mem_filter.mpr ⟨List.mem_append_right _ (List.mem_of_getElem? (i := 919) (by decide +kernel)), by decide +kernel⟩
set_option maxRecDepth 100000 in
theorem tg_920 : Cond.code yX9_back prog_11_method_47_code 2 (some FieldType.int) ∈ lw_g := List.mem_filter.mpr ⟨List.mem_append_right _ (List.mem_of_getElem? (i := 920) rfl), rfl⟩
theorem tg_921 : Cond.methodLink "DeafAuctionLaw" 94 yX9_values ∈ lw_g := List.mem_filter.mpr ⟨List.mem_append_right _ (List.mem_of_getElem? (i := 921) (by decide +kernel)), by decide +kernel⟩
theorem tg_922 : Cond.instanceMethod yX9_values ∈ lw_g := List.mem_filter.mpr ⟨List.mem_append_right _ (List.mem_of_getElem? (i := 922) (by decide +kernel)), by decide +kernel⟩
theorem tg_923 : Cond.selects "DeafAuctionModel" yX9_values yX9_values ∈ lw_g := List.mem_filter.mpr ⟨List.mem_append_right _ (List.mem_of_getElem? (i := 923) (by decide +kernel)), by decide +kernel⟩
set_option maxRecDepth 100000 in
theorem tg_924 : Cond.code yX9_values prog_11_method_49_code 8 (some FieldType.int) ∈ lw_g := List.mem_filter.mpr ⟨List.mem_append_right _ (List.mem_of_getElem? (i := 924) rfl), rfl⟩
theorem tg_925 : Cond.methodLink "DeafAuctionModel" 214 yX9_areSo ∈ lw_g := List.mem_filter.mpr ⟨List.mem_append_right _ (List.mem_of_getElem? (i := 925) (by decide +kernel)), by decide +kernel⟩
theorem tg_927 : Cond.instanceMethod yX9_areSo ∈ lw_g := List.mem_filter.mpr ⟨List.mem_append_right _ (List.mem_of_getElem? (i := 927) (by decide +kernel)), by decide +kernel⟩
set_option maxRecDepth 100000 in
theorem tg_928 : Cond.code yX9_areSo prog_11_method_48_code 3 (some FieldType.boolean) ∈ lw_g := List.mem_filter.mpr ⟨List.mem_append_right _ (List.mem_of_getElem? (i := 928) rfl), rfl⟩
theorem tg_929 : Cond.methodLink "DeafAuctionLaw" 98 yX9_places ∈ lw_g := List.mem_filter.mpr ⟨List.mem_append_right _ (List.mem_of_getElem? (i := 929) (by decide +kernel)), by decide +kernel⟩
theorem tg_930 : Cond.instanceMethod yX9_places ∈ lw_g := List.mem_filter.mpr ⟨List.mem_append_right _ (List.mem_of_getElem? (i := 930) (by decide +kernel)), by decide +kernel⟩
theorem tg_931 : Cond.selects "DeafAuctionModel" yX9_places yX9_places ∈ lw_g := List.mem_filter.mpr ⟨List.mem_append_right _ (List.mem_of_getElem? (i := 931) (by decide +kernel)), by decide +kernel⟩
set_option maxRecDepth 100000 in
theorem tg_932 : Cond.code yX9_places prog_11_method_50_code 6 (some FieldType.int) ∈ lw_g := List.mem_filter.mpr ⟨List.mem_append_right _ (List.mem_of_getElem? (i := 932) rfl), rfl⟩
theorem tg_933 : Cond.methodLink "DeafAuctionLaw" 102 yX9_sheet ∈ lw_g := List.mem_filter.mpr ⟨List.mem_append_right _ (List.mem_of_getElem? (i := 933) (by decide +kernel)), by decide +kernel⟩
theorem tg_934 : Cond.instanceMethod yX9_sheet ∈ lw_g := List.mem_filter.mpr ⟨List.mem_append_right _ (List.mem_of_getElem? (i := 934) (by decide +kernel)), by decide +kernel⟩
theorem tg_935 : Cond.selects "DeafAuctionModel" yX9_sheet yX9_sheet ∈ lw_g := List.mem_filter.mpr ⟨List.mem_append_right _ (List.mem_of_getElem? (i := 935) (by decide +kernel)), by decide +kernel⟩
set_option maxRecDepth 100000 in
theorem tg_936 : Cond.code yX9_sheet prog_11_method_52_code 5 (some FieldType.int) ∈ lw_g := List.mem_filter.mpr ⟨List.mem_append_right _ (List.mem_of_getElem? (i := 936) rfl), rfl⟩
theorem tg_937 : Cond.methodLink "DeafAuctionLaw" 106 yX9_lose ∈ lw_g := List.mem_filter.mpr ⟨List.mem_append_right _ (List.mem_of_getElem? (i := 937) (by decide +kernel)), by decide +kernel⟩
theorem tg_938 : Cond.instanceMethod yX9_lose ∈ lw_g := List.mem_filter.mpr ⟨List.mem_append_right _ (List.mem_of_getElem? (i := 938) (by decide +kernel)), by decide +kernel⟩
theorem tg_939 : Cond.selects "DeafAuctionModel" yX9_lose yX9_lose ∈ lw_g := List.mem_filter.mpr ⟨List.mem_append_right _ (List.mem_of_getElem? (i := 939) (by decide +kernel)), by decide +kernel⟩
set_option maxRecDepth 100000 in
theorem tg_940 : Cond.code yX9_lose prog_11_method_53_code 3 (some FieldType.int) ∈ lw_g := List.mem_filter.mpr ⟨List.mem_append_right _ (List.mem_of_getElem? (i := 940) rfl), rfl⟩
theorem tg_941 : Cond.methodLink "DeafAuctionLaw" 110 yX9_put ∈ lw_g := List.mem_filter.mpr ⟨List.mem_append_right _ (List.mem_of_getElem? (i := 941) (by decide +kernel)), by decide +kernel⟩
theorem tg_942 : Cond.instanceMethod yX9_put ∈ lw_g := List.mem_filter.mpr ⟨List.mem_append_right _ (List.mem_of_getElem? (i := 942) (by decide +kernel)), by decide +kernel⟩
theorem tg_943 : Cond.selects "DeafAuctionModel" yX9_put yX9_put ∈ lw_g := List.mem_filter.mpr ⟨List.mem_append_right _ (List.mem_of_getElem? (i := 943) (by decide +kernel)), by decide +kernel⟩
set_option maxRecDepth 100000 in
theorem tg_944 : Cond.code yX9_put prog_11_method_55_code 4 (some FieldType.int) ∈ lw_g := List.mem_filter.mpr ⟨List.mem_append_right _ (List.mem_of_getElem? (i := 944) rfl), rfl⟩
theorem tg_945 : Cond.methodLink "DeafAuctionModel" 218 yX9_noCell ∈ lw_g := List.mem_filter.mpr ⟨List.mem_append_right _ (List.mem_of_getElem? (i := 945) (by decide +kernel)), by decide +kernel⟩
theorem tg_947 : Cond.instanceMethod yX9_noCell ∈ lw_g := List.mem_filter.mpr ⟨List.mem_append_right _ (List.mem_of_getElem? (i := 947) (by decide +kernel)), by decide +kernel⟩
set_option maxRecDepth 100000 in
theorem tg_948 : Cond.code yX9_noCell prog_11_method_54_code 3 (some FieldType.int) ∈ lw_g := List.mem_filter.mpr ⟨List.mem_append_right _ (List.mem_of_getElem? (i := 948) rfl), rfl⟩
theorem tg_949 : Cond.methodLink "DeafAuctionLaw" 115 yX9_cell ∈ lw_g := List.mem_filter.mpr ⟨List.mem_append_right _ (List.mem_of_getElem? (i := 949) (by decide +kernel)), by decide +kernel⟩
theorem tg_950 : Cond.instanceMethod yX9_cell ∈ lw_g := List.mem_filter.mpr ⟨List.mem_append_right _ (List.mem_of_getElem? (i := 950) (by decide +kernel)), by decide +kernel⟩
theorem tg_951 : Cond.selects "DeafAuctionModel" yX9_cell yX9_cell ∈ lw_g := List.mem_filter.mpr ⟨List.mem_append_right _ (List.mem_of_getElem? (i := 951) (by decide +kernel)), by decide +kernel⟩
set_option maxRecDepth 100000 in
theorem tg_952 : Cond.code yX9_cell prog_11_method_56_code 4 (some FieldType.long) ∈ lw_g := List.mem_filter.mpr ⟨List.mem_append_right _ (List.mem_of_getElem? (i := 952) rfl), rfl⟩
theorem tg_953 : Cond.methodLink "DeafAuctionModel" 221 yX9_failedLong ∈ lw_g := List.mem_filter.mpr ⟨List.mem_append_right _ (List.mem_of_getElem? (i := 953) (by decide +kernel)), by decide +kernel⟩
theorem tg_955 : Cond.instanceMethod yX9_failedLong ∈ lw_g := List.mem_filter.mpr ⟨List.mem_append_right _ (List.mem_of_getElem? (i := 955) (by decide +kernel)), by decide +kernel⟩
set_option maxRecDepth 100000 in
theorem tg_956 : Cond.code yX9_failedLong prog_11_method_9_code 2 (some FieldType.long) ∈ lw_g := List.mem_filter.mpr ⟨List.mem_append_right _ (List.mem_of_getElem? (i := 956) rfl), rfl⟩
theorem tg_957 : Cond.methodLink "DeafAuctionLaw" 119 yX9_copy ∈ lw_g := List.mem_filter.mpr ⟨List.mem_append_right _ (List.mem_of_getElem? (i := 957) (by decide +kernel)), by decide +kernel⟩
theorem tg_958 : Cond.instanceMethod yX9_copy ∈ lw_g := List.mem_filter.mpr ⟨List.mem_append_right _ (List.mem_of_getElem? (i := 958) (by decide +kernel)), by decide +kernel⟩
theorem tg_959 : Cond.selects "DeafAuctionModel" yX9_copy yX9_copy ∈ lw_g := List.mem_filter.mpr ⟨List.mem_append_right _ (List.mem_of_getElem? (i := 959) (by decide +kernel)), by decide +kernel⟩
set_option maxRecDepth 100000 in
theorem tg_960 : Cond.code yX9_copy prog_11_method_58_code 7 (some FieldType.int) ∈ lw_g := List.mem_filter.mpr ⟨List.mem_append_right _ (List.mem_of_getElem? (i := 960) rfl), rfl⟩
theorem tg_961 : Cond.methodLink "DeafAuctionLaw" 123 yX9_tell ∈ lw_g := List.mem_filter.mpr ⟨List.mem_append_right _ (List.mem_of_getElem? (i := 961) (by decide +kernel)), by decide +kernel⟩
theorem tg_962 : Cond.instanceMethod yX9_tell ∈ lw_g := List.mem_filter.mpr ⟨List.mem_append_right _ (List.mem_of_getElem? (i := 962) (by decide +kernel)), by decide +kernel⟩
theorem tg_963 : Cond.selects "DeafAuctionModel" yX9_tell yX9_tell ∈ lw_g := List.mem_filter.mpr ⟨List.mem_append_right _ (List.mem_of_getElem? (i := 963) (by decide +kernel)), by decide +kernel⟩
set_option maxRecDepth 100000 in
theorem tg_964 : Cond.code yX9_tell prog_11_method_60_code 4 (some FieldType.int) ∈ lw_g := List.mem_filter.mpr ⟨List.mem_append_right _ (List.mem_of_getElem? (i := 964) rfl), rfl⟩
theorem tg_965 : Cond.methodLink "DeafAuctionModel" 228 yX9_traced ∈ lw_g := List.mem_filter.mpr ⟨List.mem_append_right _ (List.mem_of_getElem? (i := 965) (by decide +kernel)), by decide +kernel⟩
theorem tg_967 : Cond.instanceMethod yX9_traced ∈ lw_g := List.mem_filter.mpr ⟨List.mem_append_right _ (List.mem_of_getElem? (i := 967) (by decide +kernel)), by decide +kernel⟩
set_option maxRecDepth 100000 in
theorem tg_968 : Cond.code yX9_traced prog_11_method_59_code 2 none ∈ lw_g := List.mem_filter.mpr ⟨List.mem_append_right _ (List.mem_of_getElem? (i := 968) rfl), rfl⟩
theorem tg_969 : Cond.methodLink "DeafAuctionLaw" 127 yX9_nod ∈ lw_g := List.mem_filter.mpr ⟨List.mem_append_right _ (List.mem_of_getElem? (i := 969) (by decide +kernel)), by decide +kernel⟩
theorem tg_970 : Cond.instanceMethod yX9_nod ∈ lw_g := List.mem_filter.mpr ⟨List.mem_append_right _ (List.mem_of_getElem? (i := 970) (by decide +kernel)), by decide +kernel⟩
theorem tg_971 : Cond.selects "DeafAuctionModel" yX9_nod yX9_nod ∈ lw_g := List.mem_filter.mpr ⟨List.mem_append_right _ (List.mem_of_getElem? (i := 971) (by decide +kernel)), by decide +kernel⟩
set_option maxRecDepth 100000 in
theorem tg_972 : Cond.code yX9_nod prog_11_method_61_code 2 (some FieldType.int) ∈ lw_g := List.mem_filter.mpr ⟨List.mem_append_right _ (List.mem_of_getElem? (i := 972) rfl), rfl⟩
theorem tg_973 : Cond.methodLink "DeafAuctionLaw" 131 yX9_as ∈ lw_g := List.mem_filter.mpr ⟨List.mem_append_right _ (List.mem_of_getElem? (i := 973) (by decide +kernel)), by decide +kernel⟩
theorem tg_974 : Cond.instanceMethod yX9_as ∈ lw_g := List.mem_filter.mpr ⟨List.mem_append_right _ (List.mem_of_getElem? (i := 974) (by decide +kernel)), by decide +kernel⟩
theorem tg_975 : Cond.selects "DeafAuctionModel" yX9_as yX9_as ∈ lw_g := List.mem_filter.mpr ⟨List.mem_append_right _ (List.mem_of_getElem? (i := 975) (by decide +kernel)), by decide +kernel⟩
set_option maxRecDepth 100000 in
theorem tg_976 : Cond.code yX9_as prog_11_method_62_code 3 (some FieldType.int) ∈ lw_g := List.mem_filter.mpr ⟨List.mem_append_right _ (List.mem_of_getElem? (i := 976) rfl), rfl⟩
theorem tg_977 : Cond.methodLink "DeafAuctionLaw" 136 yX9_trace ∈ lw_g := List.mem_filter.mpr ⟨List.mem_append_right _ (List.mem_of_getElem? (i := 977) (by decide +kernel)), by decide +kernel⟩
theorem tg_978 : Cond.instanceMethod yX9_trace ∈ lw_g := List.mem_filter.mpr ⟨List.mem_append_right _ (List.mem_of_getElem? (i := 978) (by decide +kernel)), by decide +kernel⟩
theorem tg_979 : Cond.selects "DeafAuctionModel" yX9_trace yX9_trace ∈ lw_g := List.mem_filter.mpr ⟨List.mem_append_right _ (List.mem_of_getElem? (i := 979) (by decide +kernel)), by decide +kernel⟩
set_option maxRecDepth 100000 in
theorem tg_980 : Cond.code yX9_trace prog_11_method_63_code 1 (some FieldType.int) ∈ lw_g := List.mem_filter.mpr ⟨List.mem_append_right _ (List.mem_of_getElem? (i := 980) rfl), rfl⟩
theorem tg_981 : Cond.methodLink "DeafAuctionLaw" 140 yX9_fault ∈ lw_g := List.mem_filter.mpr ⟨List.mem_append_right _ (List.mem_of_getElem? (i := 981) (by decide +kernel)), by decide +kernel⟩
theorem tg_982 : Cond.instanceMethod yX9_fault ∈ lw_g := List.mem_filter.mpr ⟨List.mem_append_right _ (List.mem_of_getElem? (i := 982) (by decide +kernel)), by decide +kernel⟩
theorem tg_983 : Cond.selects "DeafAuctionModel" yX9_fault yX9_fault ∈ lw_g := List.mem_filter.mpr ⟨List.mem_append_right _ (List.mem_of_getElem? (i := 983) (by decide +kernel)), by decide +kernel⟩
set_option maxRecDepth 100000 in
theorem tg_984 : Cond.code yX9_fault prog_11_method_64_code 1 (some FieldType.int) ∈ lw_g := List.mem_filter.mpr ⟨List.mem_append_right _ (List.mem_of_getElem? (i := 984) rfl), rfl⟩
theorem tg_985 : Cond.methodLink "DeafAuctionLaw" 144 yX9_many ∈ lw_g := List.mem_filter.mpr ⟨List.mem_append_right _ (List.mem_of_getElem? (i := 985) (by decide +kernel)), by decide +kernel⟩
theorem tg_986 : Cond.instanceMethod yX9_many ∈ lw_g := List.mem_filter.mpr ⟨List.mem_append_right _ (List.mem_of_getElem? (i := 986) (by decide +kernel)), by decide +kernel⟩
theorem tg_987 : Cond.selects "DeafAuctionModel" yX9_many yX9_many ∈ lw_g := List.mem_filter.mpr ⟨List.mem_append_right _ (List.mem_of_getElem? (i := 987) (by decide +kernel)), by decide +kernel⟩
set_option maxRecDepth 100000 in
theorem tg_988 : Cond.code yX9_many prog_11_method_65_code 2 (some FieldType.int) ∈ lw_g := List.mem_filter.mpr ⟨List.mem_append_right _ (List.mem_of_getElem? (i := 988) rfl), rfl⟩
theorem tg_989 : Cond.sameMethod "DeafAuction$Hatted" "DeafAuction$Hatted" "telling" "(LDeafAuction$Trail;)I" ∈ lw_g := List.mem_filter.mpr ⟨List.mem_append_right _ (List.mem_of_getElem? (i := 989) (by decide +kernel)), by decide +kernel⟩
theorem tg_990 : Cond.sameMethod "DeafAuction$Buyer" "DeafAuction$Buyer" "plainTelling" "(LDeafAuction$Trail;)I" ∈ lw_g := List.mem_filter.mpr ⟨List.mem_append_right _ (List.mem_of_getElem? (i := 990) (by decide +kernel)), by decide +kernel⟩
theorem tg_991 : Cond.selects "DeafAuction$Buyer" yX1_plainTelling yX1_plainTelling ∈ lw_g := List.mem_filter.mpr ⟨List.mem_append_right _ (List.mem_of_getElem? (i := 991) (by decide +kernel)), by decide +kernel⟩
theorem tg_992 : Cond.selects "DeafAuction$Hatted" yX1_plainTelling yX1_plainTelling ∈ lw_g := List.mem_filter.mpr ⟨List.mem_append_right _ (List.mem_of_getElem? (i := 992) (by decide +kernel)), by decide +kernel⟩
theorem tg_993 : Cond.selects "DeafAuction$Nervous" yX1_plainTelling yX1_plainTelling ∈ lw_g := List.mem_filter.mpr ⟨List.mem_append_right _ (List.mem_of_getElem? (i := 993) (by decide +kernel)), by decide +kernel⟩
theorem ts_yX8_sheetOf : Cond.selects "DeafAuction" yX8_sheetOf yX8_sheetOf ∈ lw_g := List.mem_filter.mpr ⟨List.mem_append_left _ (List.mem_of_getElem? (i := 0) (by decide +kernel)), by decide +kernel⟩
theorem ts_yX8_meet : Cond.selects "DeafAuction" yX8_meet yX8_meet ∈ lw_g := List.mem_filter.mpr ⟨List.mem_append_left _ (List.mem_of_getElem? (i := 1) (by decide +kernel)), by decide +kernel⟩
theorem ts_yX8_fillRoom : Cond.selects "DeafAuction" yX8_fillRoom yX8_fillRoom ∈ lw_g := List.mem_filter.mpr ⟨List.mem_append_left _ (List.mem_of_getElem? (i := 2) (by decide +kernel)), by decide +kernel⟩
theorem ts_yX8_sellTo : Cond.selects "DeafAuction" yX8_sellTo yX8_sellTo ∈ lw_g := List.mem_filter.mpr ⟨List.mem_append_left _ (List.mem_of_getElem? (i := 3) (by decide +kernel)), by decide +kernel⟩
theorem ts_yX0_lineUp : Cond.selects "DeafAuction$Bidding" yX0_lineUp yX0_lineUp ∈ lw_g := List.mem_filter.mpr ⟨List.mem_append_left _ (List.mem_of_getElem? (i := 4) (by decide +kernel)), by decide +kernel⟩
theorem ts_yX0_nextBidder : Cond.selects "DeafAuction$Bidding" yX0_nextBidder yX0_nextBidder ∈ lw_g := List.mem_filter.mpr ⟨List.mem_append_left _ (List.mem_of_getElem? (i := 5) (by decide +kernel)), by decide +kernel⟩
theorem ts_yX0_riseBy : Cond.selects "DeafAuction$Bidding" yX0_riseBy yX0_riseBy ∈ lw_g := List.mem_filter.mpr ⟨List.mem_append_left _ (List.mem_of_getElem? (i := 6) (by decide +kernel)), by decide +kernel⟩
theorem ts_yX0_isSeen : Cond.selects "DeafAuction$Bidding" yX0_isSeen yX0_isSeen ∈ lw_g := List.mem_filter.mpr ⟨List.mem_append_left _ (List.mem_of_getElem? (i := 7) (by decide +kernel)), by decide +kernel⟩
theorem ts_yX0_takeBidOf : Cond.selects "DeafAuction$Bidding" yX0_takeBidOf yX0_takeBidOf ∈ lw_g := List.mem_filter.mpr ⟨List.mem_append_left _ (List.mem_of_getElem? (i := 8) (by decide +kernel)), by decide +kernel⟩
theorem ts_yX8_sellRow : Cond.selects "DeafAuction" yX8_sellRow yX8_sellRow ∈ lw_g := List.mem_filter.mpr ⟨List.mem_append_left _ (List.mem_of_getElem? (i := 9) (by decide +kernel)), by decide +kernel⟩
theorem ts_yX8_gainFrom : Cond.selects "DeafAuction" yX8_gainFrom yX8_gainFrom ∈ lw_g := List.mem_filter.mpr ⟨List.mem_append_left _ (List.mem_of_getElem? (i := 10) (by decide +kernel)), by decide +kernel⟩
theorem ts_yX8_sellFrom : Cond.selects "DeafAuction" yX8_sellFrom yX8_sellFrom ∈ lw_g := List.mem_filter.mpr ⟨List.mem_append_left _ (List.mem_of_getElem? (i := 11) (by decide +kernel)), by decide +kernel⟩
theorem ts_yX8_sellOrder : Cond.selects "DeafAuction" yX8_sellOrder yX8_sellOrder ∈ lw_g := List.mem_filter.mpr ⟨List.mem_append_left _ (List.mem_of_getElem? (i := 12) (by decide +kernel)), by decide +kernel⟩
theorem ts_yX8_areReadingsSo : Cond.selects "DeafAuction" yX8_areReadingsSo yX8_areReadingsSo ∈ lw_g := List.mem_filter.mpr ⟨List.mem_append_left _ (List.mem_of_getElem? (i := 13) (by decide +kernel)), by decide +kernel⟩
theorem ts_yX8_isReadingSo : Cond.selects "DeafAuction" yX8_isReadingSo yX8_isReadingSo ∈ lw_g := List.mem_filter.mpr ⟨List.mem_append_left _ (List.mem_of_getElem? (i := 14) (by decide +kernel)), by decide +kernel⟩
theorem ts_yX6_cut : Cond.selects "DeafAuction$Sheet" yX6_cut yX6_cut ∈ lw_g := List.mem_filter.mpr ⟨List.mem_append_left _ (List.mem_of_getElem? (i := 15) (by decide +kernel)), by decide +kernel⟩
theorem ts_yX9_refused : Cond.selects "DeafAuctionModel" yX9_refused yX9_refused ∈ lw_g := List.mem_filter.mpr ⟨List.mem_append_left _ (List.mem_of_getElem? (i := 16) (by decide +kernel)), by decide +kernel⟩
theorem ts_yX9_cellsBarred : Cond.selects "DeafAuctionModel" yX9_cellsBarred yX9_cellsBarred ∈ lw_g := List.mem_filter.mpr ⟨List.mem_append_left _ (List.mem_of_getElem? (i := 17) (by decide +kernel)), by decide +kernel⟩
theorem ts_yX9_failed : Cond.selects "DeafAuctionModel" yX9_failed yX9_failed ∈ lw_g := List.mem_filter.mpr ⟨List.mem_append_left _ (List.mem_of_getElem? (i := 18) (by decide +kernel)), by decide +kernel⟩
theorem ts_yX9_readsHall : Cond.selects "DeafAuctionModel" yX9_readsHall yX9_readsHall ∈ lw_g := List.mem_filter.mpr ⟨List.mem_append_left _ (List.mem_of_getElem? (i := 19) (by decide +kernel)), by decide +kernel⟩
theorem ts_yX9_codeAt : Cond.selects "DeafAuctionModel" yX9_codeAt yX9_codeAt ∈ lw_g := List.mem_filter.mpr ⟨List.mem_append_left _ (List.mem_of_getElem? (i := 20) (by decide +kernel)), by decide +kernel⟩
theorem ts_yX9_figure : Cond.selects "DeafAuctionModel" yX9_figure yX9_figure ∈ lw_g := List.mem_filter.mpr ⟨List.mem_append_left _ (List.mem_of_getElem? (i := 21) (by decide +kernel)), by decide +kernel⟩
theorem ts_yX9_readsBuyer : Cond.selects "DeafAuctionModel" yX9_readsBuyer yX9_readsBuyer ∈ lw_g := List.mem_filter.mpr ⟨List.mem_append_left _ (List.mem_of_getElem? (i := 22) (by decide +kernel)), by decide +kernel⟩
theorem ts_yX9_noBuyer : Cond.selects "DeafAuctionModel" yX9_noBuyer yX9_noBuyer ∈ lw_g := List.mem_filter.mpr ⟨List.mem_append_left _ (List.mem_of_getElem? (i := 23) (by decide +kernel)), by decide +kernel⟩
theorem ts_yX9_sitDown : Cond.selects "DeafAuctionModel" yX9_sitDown yX9_sitDown ∈ lw_g := List.mem_filter.mpr ⟨List.mem_append_left _ (List.mem_of_getElem? (i := 24) (by decide +kernel)), by decide +kernel⟩
theorem ts_yX9_isSeen : Cond.selects "DeafAuctionModel" yX9_isSeen yX9_isSeen ∈ lw_g := List.mem_filter.mpr ⟨List.mem_append_left _ (List.mem_of_getElem? (i := 25) (by decide +kernel)), by decide +kernel⟩
theorem ts_yX9_isTaken : Cond.selects "DeafAuctionModel" yX9_isTaken yX9_isTaken ∈ lw_g := List.mem_filter.mpr ⟨List.mem_append_left _ (List.mem_of_getElem? (i := 26) (by decide +kernel)), by decide +kernel⟩
theorem ts_yX9_limitOf : Cond.selects "DeafAuctionModel" yX9_limitOf yX9_limitOf ∈ lw_g := List.mem_filter.mpr ⟨List.mem_append_left _ (List.mem_of_getElem? (i := 27) (by decide +kernel)), by decide +kernel⟩
theorem ts_yX9_noSeat : Cond.selects "DeafAuctionModel" yX9_noSeat yX9_noSeat ∈ lw_g := List.mem_filter.mpr ⟨List.mem_append_left _ (List.mem_of_getElem? (i := 28) (by decide +kernel)), by decide +kernel⟩
theorem ts_yX9_sitterIn : Cond.selects "DeafAuctionModel" yX9_sitterIn yX9_sitterIn ∈ lw_g := List.mem_filter.mpr ⟨List.mem_append_left _ (List.mem_of_getElem? (i := 29) (by decide +kernel)), by decide +kernel⟩
theorem ts_yX9_all : Cond.selects "DeafAuctionModel" yX9_all yX9_all ∈ lw_g := List.mem_filter.mpr ⟨List.mem_append_left _ (List.mem_of_getElem? (i := 30) (by decide +kernel)), by decide +kernel⟩
theorem ts_yX9_sellTo : Cond.selects "DeafAuctionModel" yX9_sellTo yX9_sellTo ∈ lw_g := List.mem_filter.mpr ⟨List.mem_append_left _ (List.mem_of_getElem? (i := 31) (by decide +kernel)), by decide +kernel⟩
theorem ts_yX9_sell : Cond.selects "DeafAuctionModel" yX9_sell yX9_sell ∈ lw_g := List.mem_filter.mpr ⟨List.mem_append_left _ (List.mem_of_getElem? (i := 32) (by decide +kernel)), by decide +kernel⟩
theorem ts_yX9_nextBidder : Cond.selects "DeafAuctionModel" yX9_nextBidder yX9_nextBidder ∈ lw_g := List.mem_filter.mpr ⟨List.mem_append_left _ (List.mem_of_getElem? (i := 33) (by decide +kernel)), by decide +kernel⟩
theorem ts_yX9_step : Cond.selects "DeafAuctionModel" yX9_step yX9_step ∈ lw_g := List.mem_filter.mpr ⟨List.mem_append_left _ (List.mem_of_getElem? (i := 34) (by decide +kernel)), by decide +kernel⟩
theorem ts_yX9_brings : Cond.selects "DeafAuctionModel" yX9_brings yX9_brings ∈ lw_g := List.mem_filter.mpr ⟨List.mem_append_left _ (List.mem_of_getElem? (i := 35) (by decide +kernel)), by decide +kernel⟩
theorem ts_yX9_gainOf : Cond.selects "DeafAuctionModel" yX9_gainOf yX9_gainOf ∈ lw_g := List.mem_filter.mpr ⟨List.mem_append_left _ (List.mem_of_getElem? (i := 36) (by decide +kernel)), by decide +kernel⟩
theorem ts_yX9_areSo : Cond.selects "DeafAuctionModel" yX9_areSo yX9_areSo ∈ lw_g := List.mem_filter.mpr ⟨List.mem_append_left _ (List.mem_of_getElem? (i := 37) (by decide +kernel)), by decide +kernel⟩
theorem ts_yX9_noCell : Cond.selects "DeafAuctionModel" yX9_noCell yX9_noCell ∈ lw_g := List.mem_filter.mpr ⟨List.mem_append_left _ (List.mem_of_getElem? (i := 38) (by decide +kernel)), by decide +kernel⟩
theorem ts_yX9_failedLong : Cond.selects "DeafAuctionModel" yX9_failedLong yX9_failedLong ∈ lw_g := List.mem_filter.mpr ⟨List.mem_append_left _ (List.mem_of_getElem? (i := 39) (by decide +kernel)), by decide +kernel⟩
theorem ts_yX9_traced : Cond.selects "DeafAuctionModel" yX9_traced yX9_traced ∈ lw_g := List.mem_filter.mpr ⟨List.mem_append_left _ (List.mem_of_getElem? (i := 40) (by decide +kernel)), by decide +kernel⟩
theorem inX0 : ∀ w ∈ u_ws RX0 TX0 13, w ∈ lw_g := by decide +kernel
theorem inX1 : ∀ w ∈ u_ws RX1 TX1 4, w ∈ lw_g := by decide +kernel
theorem inX2 : ∀ w ∈ u_ws RX2 TX2 3, w ∈ lw_g := by decide +kernel
theorem inX3 : ∀ w ∈ u_ws RX3 TX3 4, w ∈ lw_g := by decide +kernel
theorem inX4 : ∀ w ∈ u_ws RX4 TX4 4, w ∈ lw_g := by decide +kernel
theorem inX5 : ∀ w ∈ u_ws RX5 TX5 7, w ∈ lw_g := by decide +kernel
theorem inX6 : ∀ w ∈ u_ws RX6 TX6 3, w ∈ lw_g := by decide +kernel
theorem inX7 : ∀ w ∈ u_ws RX7 TX7 1, w ∈ lw_g := by decide +kernel
theorem inX8 : ∀ w ∈ u_ws RX8 TX8 6, w ∈ lw_g := by decide +kernel
theorem inX9 : ∀ w ∈ u_ws RX9 TX9 32, w ∈ lw_g := by decide +kernel
end
section
/-! the static facts that every method rests on, beside the good words of the tables -/
def nestB : Cond → Bool
  | .fieldLinkNest .. => true
  | .methodLinkNest .. => true
  | _ => false
def nestL : List Cond := tables_1.filter nestB
def castL : List (String × String) := [("DeafAuction$Nervous", "DeafAuction$Hatted")]
abbrev tyl (cI cB cS : ClassId) : List (ClassId × FieldType) := [(cI, .int), (cB, .object "DeafAuction$Buyer"), (cS, .object "DeafAuction$Sheet")]
def gK (D : va_G) (cI cB cS : ClassId) (U : State) : Prop := va_K D vwCl (tyl cI cB cS) U ∧ (∀ w ∈ nestL, va_Nw w U) ∧ (va_Nc "DeafAuction$Buyer" "DeafAuction$Hatted" U ∧ va_Nc "DeafAuction$Buyer" "DeafAuction$Nervous" U ∧ va_Nc "DeafAuction$Hatted" "DeafAuction$Nervous" U) ∧ va_Nw (.castable "DeafAuction$Nervous" "DeafAuction$Hatted") U
theorem gK.moved {D : va_G} {cI cB cS : ClassId} {s U : State} (hW : s.WarmedH U.vm) (h : gK D cI cB cS s) : gK D cI cB cS U := by
  obtain ⟨h1, h2, ⟨h3, h4, h5⟩, h6⟩ := h
  refine ⟨va_K.moved hW.alike h1, fun w hw => ?_, ⟨h3.moved hW.alike, h4.moved hW.alike, h5.moved hW.alike⟩, ?_⟩
  · have hn : nestB w = true := (List.mem_filter.mp hw).2
    have h0 := h2 w hw
    cases w <;> first | exact va_Nw.warmF hW h0 | exact va_Nw.warmM hW h0 | (simp [nestB] at hn; done)
  · exact va_Nw.warmC hW h6
theorem gK.same {D : va_G} {cI cB cS : ClassId} {s U : State} (hW : s.vm = U.vm) (h : gK D cI cB cS s) : gK D cI cB cS U := by
  obtain ⟨h1, h2, ⟨h3, h4, h5⟩, h6⟩ := h
  have al : s.vm.Alike U.vm := by rw [hW]; exact Vm.Alike.refl U.vm
  refine ⟨va_K.moved al h1, fun w hw => ?_, ⟨h3.moved al, h4.moved al, h5.moved al⟩, va_Nw.same rfl hW h6⟩
  have hn : nestB w = true := (List.mem_filter.mp hw).2
  have h0 := h2 w hw
  cases w <;> first | (simp [nestB] at hn; done) | exact va_Nw.same rfl hW h0
/-- the machine's and the code's facts that a row needs -/
def cx (p : Program) (c : Code) (cc : ByteArray) (nL : Nat) (s : State) (args : Array Value) (m : MethodId) (own : String) (D : va_G) (cI cB cS : ClassId) : Prop :=
  p.tables.exec = Jvm.exec ∧ c.code = cc ∧ c.maxLocals = nL ∧ s.vm.findClass own = some m.cls ∧ (∀ w ∈ lw_g, w.before args s = true) ∧ gK D cI cB cS s
/-- a world: the cells ws stand in H, apart, and nothing outside A has changed since H0 -/
def wd (D : va_G) (A : Nat → Prop) (H0 : Heap) (ws : va_W) (H : Heap) (locs : List Loc) : Prop := va_P D vwCl ws H ∧ va_D A ws ∧ va_S A H0 H locs
theorem wd.to {D : va_G} {A : Nat → Prop} {H0 : Heap} {ws ws' : va_W} {H : Heap} {locs : List Loc} (h : wd D A H0 ws H locs) (e : ws = ws') : wd D A H0 ws' H locs := e ▸ h
/-- a contract of a method that makes nothing: with arguments As and the world ws it answers v and leaves ws' -/
def Ct (l : Launch) (D : va_G) (cI cB cS : ClassId) (y : MethodName) (b : ByteArray) (n : Nat) (ret : Option FieldType) (fr lo : Nat) (As : List Value) (ws : va_W) (v : Option Value) (ws' : va_W) : Prop :=
  ∀ sz : Nat, Met l y (.code y b n ret :: lw_g) { frames := fr, cells := 0, slots := 0, locals := lo } (va_Pc As (fun U => U.heap.size = sz ∧ va_P D vwCl ws U.heap ∧ gK D cI cB cS U ∧ va_D (fun _ => True) ws))
    (fun _ st oc t => (oc = .returned v ∧ va_P D vwCl ws' t.heap ∧ va_D (va_A ws sz) ws') ∧ va_F (va_A ws sz) st t) 0 0 (va_A ws sz)
/-- what a walk of such a method ends in -/
abbrev Qt (D : va_G) (below : List Frame) (args : Array Value) (s : State) (ws : va_W) (v : Option Value) (ws' : va_W) : State → Prop :=
  MQ below (fun _ st oc t => (oc = .returned v ∧ va_P D vwCl ws' t.heap ∧ va_D (va_A ws s.heap.size) ws') ∧ va_F (va_A ws s.heap.size) st t) args s 0 0 (va_A ws s.heap.size)
section BASE
variable {p : Program} {l : Launch} {e : Env} {R : Room} {s : State} {m : MethodId} {args : Array Value} {below : List Frame} {meth : Method} {c : Code} {H : Heap} {locs : List Loc} {cells slots : Nat} {Q : State → Prop}
  {cc : ByteArray} {pc nL : Nat} {ls : Array Slot} {rest : List Value} {D : va_G} {A : Nat → Prop} {H0 : Heap} {cI cB cS : ClassId} {own : String}
/-- from the entry of a method to its contract -/
theorem Ct.ofW {y : MethodName} {b : ByteArray} {n : Nat} {ret : Option FieldType} {fr lo : Nat} {As : List Value} {ws ws' : va_W} {v : Option Value} (hy : plainName y.cls = true) (hn : (lg_sl As).length ≤ n)
    (body : ∀ p e s m args below meth c (ls : Array Slot), cx p c b n s args m y.cls D cI cB cS → meth.sig.returnType = ret → meth.locks = false → meth.name = y.name → wd D (va_A ws s.heap.size) s.heap ws s.heap [] → lv_has ls n (lv_args 0 As) →
      W p l e { frames := fr, cells := 0, slots := 0, locals := lo } s m args below meth c s.heap [] 0 0 (Qt D below args s ws v ws') (F0 m 0 ls [])) : Ct l D cI cB cS y b n ret fr lo As ws v ws' := by
  intro sz
  refine Met.ofW (cc := b) (maxL := n) (ret := ret) hy rfl ?_
  intro p e s m args below meth c s₁ B hml hv
  obtain ⟨rfl, hsz, hP, hK, hD0⟩ := hv
  have hts := atoms_spec (ws := .code y b n ret :: lw_g) B.pre
  have hown : s.vm.findClass y.cls = some m.cls := findClass_of_methodNamed B.named
  subst hsz
  have hD := hD0.self (sz := s.heap.size)
  have hl := lv_entry As (n := n) hn
  rw [lg_entry_eq]
  exact body p e s m As.toArray below meth c _ ⟨B.exec, B.bytes, hml, hown, fun w h => hts w (List.mem_cons_of_mem _ h), hK⟩ B.returns B.notSynchronized (name_of_methodNamed B.named B.method).1 ⟨hP, hD, va_S.rf⟩ hl
theorem qt_i {ws ws' : va_W} {r : Int32} (C : cx p c cc nL s args m own D cI cB cS) (hr : meth.sig.returnType = some .int) (hlocks : meth.locks = false) (hw : wd D (va_A ws s.heap.size) s.heap ws' H locs) (hdg : decode cc pc = .ok (.ireturn, 1)) :
    W p l e R s m args below meth c H locs 0 0 (Qt D below args s ws (some (.int r)) ws') (F0 m pc ls [.int r]) :=
  W.iret (v := r) C.1 C.2.1 hr (fun t ht _ => ⟨⟨rfl, by rw [ht]; exact hw.1, hw.2.1⟩, hw.2.2.F ht⟩) hw.2.2.2.2 hdg hlocks
theorem qt_z {ws ws' : va_W} {r : Int32} (C : cx p c cc nL s args m own D cI cB cS) (hr : meth.sig.returnType = some .boolean) (hlocks : meth.locks = false) (hn : r = 0 ∨ r = 1) (hw : wd D (va_A ws s.heap.size) s.heap ws' H locs) (hdg : decode cc pc = .ok (.ireturn, 1)) :
    W p l e R s m args below meth c H locs 0 0 (Qt D below args s ws (some (.int r)) ws') (F0 m pc ls [.int r]) :=
  W.zret (v := r) C.1 C.2.1 hr (by rcases hn with rfl | rfl <;> decide) (fun t ht _ => ⟨⟨rfl, by rw [ht]; exact hw.1, hw.2.1⟩, hw.2.2.F ht⟩) hw.2.2.2.2 hdg hlocks
theorem qt_l {ws ws' : va_W} {r : Int64} (C : cx p c cc nL s args m own D cI cB cS) (hr : meth.sig.returnType = some .long) (hlocks : meth.locks = false) (hw : wd D (va_A ws s.heap.size) s.heap ws' H locs) (hdg : decode cc pc = .ok (.lreturn, 1)) :
    W p l e R s m args below meth c H locs 0 0 (Qt D below args s ws (some (.long r)) ws') (F0 m pc ls [.long r]) :=
  W.lret (v := r) C.1 C.2.1 hr (fun t ht _ => ⟨⟨rfl, by rw [ht]; exact hw.1, hw.2.1⟩, hw.2.2.F ht⟩) hw.2.2.2.2 hdg hlocks
theorem qt_v {ws ws' : va_W} (C : cx p c cc nL s args m own D cI cB cS) (hr : meth.sig.returnType = none) (hlocks : meth.locks = false) (hw : wd D (va_A ws s.heap.size) s.heap ws' H locs) (hdg : decode cc pc = .ok (.return_, 1)) :
    W p l e R s m args below meth c H locs 0 0 (Qt D below args s ws none ws') (F0 m pc ls []) :=
  W.vret C.1 C.2.1 hr (fun t ht _ => ⟨⟨rfl, by rw [ht]; exact hw.1, hw.2.1⟩, hw.2.2.F ht⟩) hw.2.2.2.2 hdg hlocks
theorem qt_a {ws ws' : va_W} {r : Option Nat} {n : String} (C : cx p c cc nL s args m own D cI cB cS) (hr : meth.sig.returnType = some (.object n)) (hlocks : meth.locks = false) (hw : wd D (va_A ws s.heap.size) s.heap ws' H locs) (hdg : decode cc pc = .ok (.areturn, 1)) :
    W p l e R s m args below meth c H locs 0 0 (Qt D below args s ws (some (va_rf r)) ws') (F0 m pc ls [va_rf r]) :=
  W.aret (v := va_rf r) C.1 C.2.1 hr (Or.inl ⟨n, rfl⟩) (by cases r <;> simp [va_rf]) (fun t ht _ => ⟨⟨rfl, by rw [ht]; exact hw.1, hw.2.1⟩, hw.2.2.F ht⟩) hw.2.2.2.2 hdg hlocks
/-- behind a call whose callee has the whole world -/
theorem ct_run {ws ws' : va_W} {v : Option Value} {st0 : List Value} (hr : va_Run p l e R s m args below meth c H locs cells slots 0 0 (F0 m pc ls st0) rest (fun st oc t => (oc = .returned v ∧ va_P D vwCl ws' t.heap ∧ va_D (va_A ws H.size) ws') ∧ va_F (va_A ws H.size) st t) (va_A ws H.size)) (hw : wd D A H0 ws H locs) (hA : ∀ q, H0.size ≤ q → A q)
    (kk : ∀ (H1 : Heap) (locs1 : List Loc), wd D A H0 ws' H1 locs1 → W p l e R s m args below meth c H1 locs1 cells slots Q (F0 m (pc + 3) ls (v.toList ++ rest))) : W p l e R s m args below meth c H locs cells slots Q (F0 m pc ls st0) := by
  have hF : ∀ q, va_A ws H.size q → A q := by
    intro q h
    rcases h with ⟨k, e, h⟩ | h
    · exact hw.2.1.2 k _ h
    · exact hA q (Nat.le_trans hw.2.2.1 h)
  intro T hT X
  obtain ⟨v', st₀, t, T', L, h0, X', hL, e1, e2, ⟨⟨hv, hp, hd⟩, hz, hk⟩, st⟩ := hr T hT X
  cases hv
  rw [h0] at hz hk
  obtain ⟨t2, a1, b1⟩ := kk T'.heap (locs ++ L) ⟨by rw [e1]; exact hp, hd.weaken (fun k q _ h => hF q.1 h), Nat.le_trans hw.2.2.1 (by rw [e1]; exact hz), fun q h1 h2 => by rw [e1, hk q (Nat.lt_of_lt_of_le h1 hw.2.2.1) (fun z => h2 (hF q z))]; exact hw.2.2.2.1 q h1 h2, fun q hq => by
      rcases List.mem_append.mp hq with h | h
      · exact hw.2.2.2.2 q h
      · exact hF _ (hL q h)⟩ T' rfl X'
  exact ⟨t2, st t2 a1, b1⟩
theorem fb_Pc {As : List Value} {ws : va_W} {sz : Nat} : FrameBlind (va_Pc As (fun U => U.heap.size = sz ∧ va_P D vwCl ws U.heap ∧ gK D cI cB cS U ∧ va_D (fun _ => True) ws)) := fun a U g mk q => by
  obtain ⟨q0, q1, qP, qK, qD⟩ := q
  exact ⟨q0, q1, qP, gK.same (s := U) (U := U.calling g mk a) rfl qK, qD⟩
theorem wl_good {y : MethodName} {b : ByteArray} {n : Nat} {ret : Option FieldType} (h : Cond.code y b n ret ∈ lw_g) : GoodIn lw_g (.code y b n ret :: lw_g) := fun w hw => by
  have hm : w ∈ lw_g := (List.mem_cons.mp hw).elim (fun e => e ▸ h) id
  exact ⟨hm, good_of_word (List.mem_filter.mp hm).2⟩
theorem app_good {ws ws' : List Cond} (h1 : ∀ w ∈ ws, w ∈ lw_g) (h2 : GoodIn lw_g ws') : GoodIn lw_g (ws ++ ws') := fun w hw => by
  rcases List.mem_append.mp hw with h | h
  · exact ⟨h1 w h, good_of_word (List.mem_filter.mp (h1 w h)).2⟩
  · exact h2 w h
/-- the facts of a callee that don't hang on the caller -/
def cf (y : MethodName) (b : ByteArray) (n : Nat) (ret : Option FieldType) (k : Nat) : Prop := Cond.code y b n ret ∈ lw_g ∧ (y.cls ≠ "java/lang/invoke/MethodHandle" ∧ y.cls ≠ "java/lang/invoke/VarHandle" ∧ (parseMethodDescriptor y.desc).map (fun d => d.parameters.length) = some k) ∧ Cond.initialized y.cls ∈ lw_g
/-- a call of an instance method of the receiver's own class -/
theorem ct_V {y : MethodName} {b : ByteArray} {n k idx : Nat} {ret : Option FieldType} {fr lo : Nat} {As : List Value} {a : Nat} {ws ws' : va_W} {v : Option Value} {st0 : List Value} {q0 ci : Nat} {q : vw_C} {fs : List Value}
    (C : cx p c cc nL s args m own D cI cB cS) (hw : wd D A H0 ws H locs) (hA : ∀ q, H0.size ≤ q → A q) (hM : Ct l D cI cB cS y b n ret fr lo (.ref a :: As) ws v ws') (F : cf y b n ret k) (hl : Cond.methodLink own idx y ∈ lw_g) (hi : Cond.instanceMethod y ∈ lw_g) (hs : Cond.selects y.cls y y ∈ lw_g)
    (hR : fr + 1 ≤ R.frames ∧ 8 + (n + 11) + lo ≤ R.locals) (hf : cells ≤ R.cells ∧ slots ≤ R.slots) (hk : As.length = k) (hc : vwCl[ci]? = some q) (hq : q.1 = y.cls) (he : ws[q0]? = some (a, .inr (ci, fs))) (hsz : ls.size = nL) (hst : st0 = As.reverse ++ .ref a :: rest) (hW : (rest.map fun v => v.category).sum ≤ 8) (hdg : decode cc pc = .ok (.invokevirtual idx, 3))
    (kk : ∀ (H1 : Heap) (locs1 : List Loc), wd D A H0 ws' H1 locs1 → W p l e R s m args below meth c H1 locs1 cells slots Q (F0 m (pc + 3) ls (v.toList ++ rest))) : W p l e R s m args below meth c H locs cells slots Q (F0 m pc ls st0) := by
  obtain ⟨hx, hb, hml, hown, hts, hK⟩ := C
  have hG : GoodIn lw_g (wsV own idx y.cls y (.code y b n ret :: lw_g)) := app_good (by simp only [List.mem_cons, List.not_mem_nil, or_false]; rintro w (rfl | rfl | rfl | rfl) <;> first | exact hl | exact hi | exact hs | exact F.2.2) (wl_good F.1)
  have hrc := va_recv hK.1 hw.1 hc he
  rw [hq] at hrc
  subst hst
  exact ct_run (va_runV (As := As) (rest := rest) ⟨hx, hb, hml, hown, hts⟩ (hM H.size) (cwV k hts hG rfl rfl rfl ⟨rfl, F.2.1⟩ hR) ⟨fb_Pc, hrc, fun U hU hWm => ⟨rfl, by rw [hU], by rw [hU]; exact hw.1, gK.moved hWm hK, hw.2.1.weaken (fun _ _ _ _ => trivial)⟩⟩ rfl hk hsz rfl (lv_room hW) hdg hf) hw hA kk
/-- a call of a static method -/
theorem ct_S {y : MethodName} {b : ByteArray} {n k idx : Nat} {ret : Option FieldType} {fr lo : Nat} {As : List Value} {ws ws' : va_W} {v : Option Value} {st0 : List Value}
    (C : cx p c cc nL s args m own D cI cB cS) (hw : wd D A H0 ws H locs) (hA : ∀ q, H0.size ≤ q → A q) (hM : Ct l D cI cB cS y b n ret fr lo As ws v ws') (F : cf y b n ret k) (hl : Cond.methodLink own idx y ∈ lw_g) (hs : Cond.static y ∈ lw_g)
    (hR : fr + 1 ≤ R.frames ∧ 8 + (n + 11) + lo ≤ R.locals) (hf : cells ≤ R.cells ∧ slots ≤ R.slots) (hk : As.length = k) (hsz : ls.size = nL) (hst : st0 = As.reverse ++ rest) (hW : (rest.map fun v => v.category).sum ≤ 8) (hdg : decode cc pc = .ok (.invokestatic idx, 3))
    (kk : ∀ (H1 : Heap) (locs1 : List Loc), wd D A H0 ws' H1 locs1 → W p l e R s m args below meth c H1 locs1 cells slots Q (F0 m (pc + 3) ls (v.toList ++ rest))) : W p l e R s m args below meth c H locs cells slots Q (F0 m pc ls st0) := by
  obtain ⟨hx, hb, hml, hown, hts, hK⟩ := C
  have hG : GoodIn lw_g (va_wsS own idx y (.code y b n ret :: lw_g)) := app_good (by simp only [List.mem_cons, List.not_mem_nil, or_false]; rintro w (rfl | rfl | rfl) <;> first | exact hl | exact hs | exact F.2.2) (wl_good F.1)
  subst hst
  exact ct_run (va_runS (As := As) (rest := rest) ⟨hx, hb, hml, hown, hts⟩ (hM H.size) (va_cwS k hts hG rfl rfl rfl F.2.1 hR) ⟨fb_Pc, fun U hU hWm => ⟨rfl, by rw [hU], by rw [hU]; exact hw.1, gK.moved hWm hK, hw.2.1.weaken (fun _ _ _ _ => trivial)⟩⟩ rfl hk hsz rfl (lv_room hW) hdg hf) hw hA kk
/-- a call of a private static method of a nest mate -/
theorem ct_SN {y : MethodName} {b : ByteArray} {n k idx : Nat} {ret : Option FieldType} {host : String} {fr lo : Nat} {As : List Value} {ws ws' : va_W} {v : Option Value} {st0 : List Value}
    (C : cx p c cc nL s args m own D cI cB cS) (hw : wd D A H0 ws H locs) (hA : ∀ q, H0.size ≤ q → A q) (hM : Ct l D cI cB cS y b n ret fr lo As ws v ws') (F : cf y b n ret k) (hl : Cond.methodLinkNest own idx y host ∈ nestL) (hs : Cond.static y ∈ lw_g)
    (hR : fr + 1 ≤ R.frames ∧ 8 + (n + 11) + lo ≤ R.locals) (hf : cells ≤ R.cells ∧ slots ≤ R.slots) (hk : As.length = k) (hsz : ls.size = nL) (hst : st0 = As.reverse ++ rest) (hW : (rest.map fun v => v.category).sum ≤ 8) (hdg : decode cc pc = .ok (.invokestatic idx, 3))
    (kk : ∀ (H1 : Heap) (locs1 : List Loc), wd D A H0 ws' H1 locs1 → W p l e R s m args below meth c H1 locs1 cells slots Q (F0 m (pc + 3) ls (v.toList ++ rest))) : W p l e R s m args below meth c H locs cells slots Q (F0 m pc ls st0) := by
  obtain ⟨hx, hb, hml, hown, hts, hK⟩ := C
  subst hst
  exact ct_run (va_runSN (As := As) (rest := rest) ⟨hx, hb, hml, hown, hts⟩ (hM H.size) ⟨va_cnB k hts (wl_good F.1) rfl rfl rfl (hK.2.1 _ hl) (hts _ F.2.2) F.2.1 hR, hts _ hs, trivial⟩ ⟨fb_Pc, fun U hU hWm => ⟨rfl, by rw [hU], by rw [hU]; exact hw.1, gK.moved hWm hK, hw.2.1.weaken (fun _ _ _ _ => trivial)⟩⟩ rfl hk hsz rfl (lv_room hW) hdg hf) hw hA kk
end BASE
end
