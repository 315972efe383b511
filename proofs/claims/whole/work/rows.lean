section
-- ===== PART A: goes FIRST, ahead of the names: the tables' words, and 'selects' of the private methods out of them =====
/-- a private method of a class that the tables say can be made, by its rows of tables_1 -/
def lw_okq (q : MethodName × Nat) : Prop := (q.1.cls ≠ "java/lang/invoke/MethodHandle" ∧ q.1.cls ≠ "java/lang/invoke/VarHandle") ∧ Cond.instantiable q.1.cls q.2 ∈ tables_1 ∧ Cond.privateMethod q.1 ∈ tables_1 ∧ Cond.instanceMethod q.1 ∈ tables_1
theorem lw_p0 : lw_okq (⟨"EvenWhite", "beginChange", "()V"⟩, 6) := ⟨⟨by decide +kernel, by decide +kernel⟩, List.mem_of_getElem? (i := 11) (by decide +kernel), List.mem_of_getElem? (i := 175) (by decide +kernel), List.mem_of_getElem? (i := 176) (by decide +kernel)⟩
theorem lw_p1 : lw_okq (⟨"EvenWhite$Even", "writeRows", "()V"⟩, 8) := ⟨⟨by decide +kernel, by decide +kernel⟩, List.mem_of_getElem? (i := 56) (by decide +kernel), List.mem_of_getElem? (i := 332) (by decide +kernel), List.mem_of_getElem? (i := 333) (by decide +kernel)⟩
theorem lw_p2 : lw_okq (⟨"EvenWhite$Even", "addPair", "(II)V"⟩, 8) := ⟨⟨by decide +kernel, by decide +kernel⟩, List.mem_of_getElem? (i := 56) (by decide +kernel), List.mem_of_getElem? (i := 336) (by decide +kernel), List.mem_of_getElem? (i := 337) (by decide +kernel)⟩
theorem lw_p3 : lw_okq (⟨"EvenWhite$Even", "numberOf", "(II)I"⟩, 8) := ⟨⟨by decide +kernel, by decide +kernel⟩, List.mem_of_getElem? (i := 56) (by decide +kernel), List.mem_of_getElem? (i := 342) (by decide +kernel), List.mem_of_getElem? (i := 343) (by decide +kernel)⟩
theorem lw_p4 : lw_okq (⟨"EvenWhite$Even", "solveRows", "()V"⟩, 8) := ⟨⟨by decide +kernel, by decide +kernel⟩, List.mem_of_getElem? (i := 56) (by decide +kernel), List.mem_of_getElem? (i := 346) (by decide +kernel), List.mem_of_getElem? (i := 347) (by decide +kernel)⟩
theorem lw_p5 : lw_okq (⟨"EvenWhite$Even", "spaces", "()I"⟩, 8) := ⟨⟨by decide +kernel, by decide +kernel⟩, List.mem_of_getElem? (i := 56) (by decide +kernel), List.mem_of_getElem? (i := 350) (by decide +kernel), List.mem_of_getElem? (i := 351) (by decide +kernel)⟩
theorem lw_p6 : lw_okq (⟨"EvenWhite$Even", "clearColumn", "(I)V"⟩, 8) := ⟨⟨by decide +kernel, by decide +kernel⟩, List.mem_of_getElem? (i := 56) (by decide +kernel), List.mem_of_getElem? (i := 354) (by decide +kernel), List.mem_of_getElem? (i := 355) (by decide +kernel)⟩
theorem lw_p7 : lw_okq (⟨"EvenWhite$Even", "makeWhole", "()V"⟩, 8) := ⟨⟨by decide +kernel, by decide +kernel⟩, List.mem_of_getElem? (i := 56) (by decide +kernel), List.mem_of_getElem? (i := 361) (by decide +kernel), List.mem_of_getElem? (i := 362) (by decide +kernel)⟩
theorem lw_p8 : lw_okq (⟨"EvenWhite$Even", "firstOfGreatestRest", "()I"⟩, 8) := ⟨⟨by decide +kernel, by decide +kernel⟩, List.mem_of_getElem? (i := 56) (by decide +kernel), List.mem_of_getElem? (i := 373) (by decide +kernel), List.mem_of_getElem? (i := 374) (by decide +kernel)⟩
theorem lw_p9 : lw_okq (⟨"EvenWhite$Line", "signBetween", "(II)I"⟩, 5) := ⟨⟨by decide +kernel, by decide +kernel⟩, List.mem_of_getElem? (i := 111) (by decide +kernel), List.mem_of_getElem? (i := 447) (by decide +kernel), List.mem_of_getElem? (i := 448) (by decide +kernel)⟩
theorem lw_p10 : lw_okq (⟨"EvenWhiteModel", "beginLetters", "(I)V"⟩, 17) := ⟨⟨by decide +kernel, by decide +kernel⟩, List.mem_of_getElem? (i := 556) (by decide +kernel), List.mem_of_getElem? (i := 562) (by decide +kernel), List.mem_of_getElem? (i := 563) (by decide +kernel)⟩
theorem lw_p11 : lw_okq (⟨"EvenWhiteModel", "solve", "()V"⟩, 17) := ⟨⟨by decide +kernel, by decide +kernel⟩, List.mem_of_getElem? (i := 556) (by decide +kernel), List.mem_of_getElem? (i := 627) (by decide +kernel), List.mem_of_getElem? (i := 628) (by decide +kernel)⟩
theorem lw_p12 : lw_okq (⟨"EvenWhiteModel", "layOpen", "()V"⟩, 17) := ⟨⟨by decide +kernel, by decide +kernel⟩, List.mem_of_getElem? (i := 556) (by decide +kernel), List.mem_of_getElem? (i := 631) (by decide +kernel), List.mem_of_getElem? (i := 632) (by decide +kernel)⟩
theorem lw_p13 : lw_okq (⟨"EvenWhiteModel", "layGroups", "()V"⟩, 17) := ⟨⟨by decide +kernel, by decide +kernel⟩, List.mem_of_getElem? (i := 556) (by decide +kernel), List.mem_of_getElem? (i := 635) (by decide +kernel), List.mem_of_getElem? (i := 636) (by decide +kernel)⟩
theorem lw_p14 : lw_okq (⟨"EvenWhiteModel", "joins", "(II)I"⟩, 17) := ⟨⟨by decide +kernel, by decide +kernel⟩, List.mem_of_getElem? (i := 556) (by decide +kernel), List.mem_of_getElem? (i := 639) (by decide +kernel), List.mem_of_getElem? (i := 640) (by decide +kernel)⟩
theorem lw_p15 : lw_okq (⟨"EvenWhiteModel", "isThere", "(I)Z"⟩, 17) := ⟨⟨by decide +kernel, by decide +kernel⟩, List.mem_of_getElem? (i := 556) (by decide +kernel), List.mem_of_getElem? (i := 643) (by decide +kernel), List.mem_of_getElem? (i := 644) (by decide +kernel)⟩
def lw_privs_1 : List (MethodName × Nat) := [(⟨"EvenWhite", "beginChange", "()V"⟩, 6), (⟨"EvenWhite$Even", "writeRows", "()V"⟩, 8), (⟨"EvenWhite$Even", "addPair", "(II)V"⟩, 8), (⟨"EvenWhite$Even", "numberOf", "(II)I"⟩, 8), (⟨"EvenWhite$Even", "solveRows", "()V"⟩, 8), (⟨"EvenWhite$Even", "spaces", "()I"⟩, 8), (⟨"EvenWhite$Even", "clearColumn", "(I)V"⟩, 8), (⟨"EvenWhite$Even", "makeWhole", "()V"⟩, 8), (⟨"EvenWhite$Even", "firstOfGreatestRest", "()I"⟩, 8), (⟨"EvenWhite$Line", "signBetween", "(II)I"⟩, 5), (⟨"EvenWhiteModel", "beginLetters", "(I)V"⟩, 17), (⟨"EvenWhiteModel", "solve", "()V"⟩, 17), (⟨"EvenWhiteModel", "layOpen", "()V"⟩, 17), (⟨"EvenWhiteModel", "layGroups", "()V"⟩, 17), (⟨"EvenWhiteModel", "joins", "(II)I"⟩, 17), (⟨"EvenWhiteModel", "isThere", "(I)Z"⟩, 17)]
theorem lw_r1 : ∀ q ∈ lw_privs_1, lw_okq q := List.forall_mem_cons.mpr ⟨lw_p0, List.forall_mem_cons.mpr ⟨lw_p1, List.forall_mem_cons.mpr ⟨lw_p2, List.forall_mem_cons.mpr ⟨lw_p3, List.forall_mem_cons.mpr ⟨lw_p4, List.forall_mem_cons.mpr ⟨lw_p5, List.forall_mem_cons.mpr ⟨lw_p6, List.forall_mem_cons.mpr ⟨lw_p7, List.forall_mem_cons.mpr ⟨lw_p8, List.forall_mem_cons.mpr ⟨lw_p9, List.forall_mem_cons.mpr ⟨lw_p10, List.forall_mem_cons.mpr ⟨lw_p11, List.forall_mem_cons.mpr ⟨lw_p12, List.forall_mem_cons.mpr ⟨lw_p13, List.forall_mem_cons.mpr ⟨lw_p14, List.forall_mem_cons.mpr ⟨lw_p15, fun _ h => absurd h List.not_mem_nil⟩⟩⟩⟩⟩⟩⟩⟩⟩⟩⟩⟩⟩⟩⟩⟩
theorem lw_p16 : lw_okq (⟨"EvenWhiteModel", "weightOf", "(II)I"⟩, 17) := ⟨⟨by decide +kernel, by decide +kernel⟩, List.mem_of_getElem? (i := 556) (by decide +kernel), List.mem_of_getElem? (i := 647) (by decide +kernel), List.mem_of_getElem? (i := 648) (by decide +kernel)⟩
theorem lw_p17 : lw_okq (⟨"EvenWhiteModel", "isJoined", "(I)Z"⟩, 17) := ⟨⟨by decide +kernel, by decide +kernel⟩, List.mem_of_getElem? (i := 556) (by decide +kernel), List.mem_of_getElem? (i := 651) (by decide +kernel), List.mem_of_getElem? (i := 652) (by decide +kernel)⟩
theorem lw_p18 : lw_okq (⟨"EvenWhiteModel", "layEquations", "()I"⟩, 17) := ⟨⟨by decide +kernel, by decide +kernel⟩, List.mem_of_getElem? (i := 556) (by decide +kernel), List.mem_of_getElem? (i := 655) (by decide +kernel), List.mem_of_getElem? (i := 656) (by decide +kernel)⟩
theorem lw_p19 : lw_okq (⟨"EvenWhiteModel", "sumOfWeights", "(I)I"⟩, 17) := ⟨⟨by decide +kernel, by decide +kernel⟩, List.mem_of_getElem? (i := 556) (by decide +kernel), List.mem_of_getElem? (i := 659) (by decide +kernel), List.mem_of_getElem? (i := 660) (by decide +kernel)⟩
theorem lw_p20 : lw_okq (⟨"EvenWhiteModel", "wantedOf", "(I)J"⟩, 17) := ⟨⟨by decide +kernel, by decide +kernel⟩, List.mem_of_getElem? (i := 556) (by decide +kernel), List.mem_of_getElem? (i := 663) (by decide +kernel), List.mem_of_getElem? (i := 664) (by decide +kernel)⟩
theorem lw_p21 : lw_okq (⟨"EvenWhiteModel", "bare", "(II)I"⟩, 17) := ⟨⟨by decide +kernel, by decide +kernel⟩, List.mem_of_getElem? (i := 556) (by decide +kernel), List.mem_of_getElem? (i := 667) (by decide +kernel), List.mem_of_getElem? (i := 668) (by decide +kernel)⟩
theorem lw_p22 : lw_okq (⟨"EvenWhiteModel", "writeLine", "()V"⟩, 17) := ⟨⟨by decide +kernel, by decide +kernel⟩, List.mem_of_getElem? (i := 556) (by decide +kernel), List.mem_of_getElem? (i := 674) (by decide +kernel), List.mem_of_getElem? (i := 675) (by decide +kernel)⟩
theorem lw_p23 : lw_okq (⟨"EvenWhiteModel", "write", "(I)V"⟩, 17) := ⟨⟨by decide +kernel, by decide +kernel⟩, List.mem_of_getElem? (i := 556) (by decide +kernel), List.mem_of_getElem? (i := 678) (by decide +kernel), List.mem_of_getElem? (i := 679) (by decide +kernel)⟩
theorem lw_p24 : lw_okq (⟨"EvenWhiteModel", "overOf", "(II)J"⟩, 17) := ⟨⟨by decide +kernel, by decide +kernel⟩, List.mem_of_getElem? (i := 556) (by decide +kernel), List.mem_of_getElem? (i := 682) (by decide +kernel), List.mem_of_getElem? (i := 683) (by decide +kernel)⟩
theorem lw_p25 : lw_okq (⟨"EvenWhiteModel", "whiteOf", "(II)J"⟩, 17) := ⟨⟨by decide +kernel, by decide +kernel⟩, List.mem_of_getElem? (i := 556) (by decide +kernel), List.mem_of_getElem? (i := 686) (by decide +kernel), List.mem_of_getElem? (i := 687) (by decide +kernel)⟩
theorem lw_p26 : lw_okq (⟨"EvenWhiteModel", "wide", "()J"⟩, 17) := ⟨⟨by decide +kernel, by decide +kernel⟩, List.mem_of_getElem? (i := 556) (by decide +kernel), List.mem_of_getElem? (i := 690) (by decide +kernel), List.mem_of_getElem? (i := 691) (by decide +kernel)⟩
theorem lw_p27 : lw_okq (⟨"EvenWhiteModel", "writeNumber", "(J)V"⟩, 17) := ⟨⟨by decide +kernel, by decide +kernel⟩, List.mem_of_getElem? (i := 556) (by decide +kernel), List.mem_of_getElem? (i := 701) (by decide +kernel), List.mem_of_getElem? (i := 702) (by decide +kernel)⟩
theorem lw_p28 : lw_okq (⟨"EvenWhiteModel", "weighted", "()I"⟩, 17) := ⟨⟨by decide +kernel, by decide +kernel⟩, List.mem_of_getElem? (i := 556) (by decide +kernel), List.mem_of_getElem? (i := 710) (by decide +kernel), List.mem_of_getElem? (i := 711) (by decide +kernel)⟩
theorem lw_p29 : lw_okq (⟨"EvenWhiteModel", "worst", "()I"⟩, 17) := ⟨⟨by decide +kernel, by decide +kernel⟩, List.mem_of_getElem? (i := 556) (by decide +kernel), List.mem_of_getElem? (i := 714) (by decide +kernel), List.mem_of_getElem? (i := 715) (by decide +kernel)⟩
theorem lw_p30 : lw_okq (⟨"EvenWhiteModel", "squares", "()J"⟩, 17) := ⟨⟨by decide +kernel, by decide +kernel⟩, List.mem_of_getElem? (i := 556) (by decide +kernel), List.mem_of_getElem? (i := 719) (by decide +kernel), List.mem_of_getElem? (i := 720) (by decide +kernel)⟩
theorem lw_p31 : lw_okq (⟨"EvenWhiteModel", "openOnes", "()I"⟩, 17) := ⟨⟨by decide +kernel, by decide +kernel⟩, List.mem_of_getElem? (i := 556) (by decide +kernel), List.mem_of_getElem? (i := 723) (by decide +kernel), List.mem_of_getElem? (i := 724) (by decide +kernel)⟩
def lw_privs_2 : List (MethodName × Nat) := [(⟨"EvenWhiteModel", "weightOf", "(II)I"⟩, 17), (⟨"EvenWhiteModel", "isJoined", "(I)Z"⟩, 17), (⟨"EvenWhiteModel", "layEquations", "()I"⟩, 17), (⟨"EvenWhiteModel", "sumOfWeights", "(I)I"⟩, 17), (⟨"EvenWhiteModel", "wantedOf", "(I)J"⟩, 17), (⟨"EvenWhiteModel", "bare", "(II)I"⟩, 17), (⟨"EvenWhiteModel", "writeLine", "()V"⟩, 17), (⟨"EvenWhiteModel", "write", "(I)V"⟩, 17), (⟨"EvenWhiteModel", "overOf", "(II)J"⟩, 17), (⟨"EvenWhiteModel", "whiteOf", "(II)J"⟩, 17), (⟨"EvenWhiteModel", "wide", "()J"⟩, 17), (⟨"EvenWhiteModel", "writeNumber", "(J)V"⟩, 17), (⟨"EvenWhiteModel", "weighted", "()I"⟩, 17), (⟨"EvenWhiteModel", "worst", "()I"⟩, 17), (⟨"EvenWhiteModel", "squares", "()J"⟩, 17), (⟨"EvenWhiteModel", "openOnes", "()I"⟩, 17)]
theorem lw_r2 : ∀ q ∈ lw_privs_2, lw_okq q := List.forall_mem_cons.mpr ⟨lw_p16, List.forall_mem_cons.mpr ⟨lw_p17, List.forall_mem_cons.mpr ⟨lw_p18, List.forall_mem_cons.mpr ⟨lw_p19, List.forall_mem_cons.mpr ⟨lw_p20, List.forall_mem_cons.mpr ⟨lw_p21, List.forall_mem_cons.mpr ⟨lw_p22, List.forall_mem_cons.mpr ⟨lw_p23, List.forall_mem_cons.mpr ⟨lw_p24, List.forall_mem_cons.mpr ⟨lw_p25, List.forall_mem_cons.mpr ⟨lw_p26, List.forall_mem_cons.mpr ⟨lw_p27, List.forall_mem_cons.mpr ⟨lw_p28, List.forall_mem_cons.mpr ⟨lw_p29, List.forall_mem_cons.mpr ⟨lw_p30, List.forall_mem_cons.mpr ⟨lw_p31, fun _ h => absurd h List.not_mem_nil⟩⟩⟩⟩⟩⟩⟩⟩⟩⟩⟩⟩⟩⟩⟩⟩
theorem lw_p32 : lw_okq (⟨"EvenWhiteModel", "thin", "()I"⟩, 17) := ⟨⟨by decide +kernel, by decide +kernel⟩, List.mem_of_getElem? (i := 556) (by decide +kernel), List.mem_of_getElem? (i := 727) (by decide +kernel), List.mem_of_getElem? (i := 728) (by decide +kernel)⟩
theorem lw_p33 : lw_okq (⟨"EvenWhiteModel", "isLetter", "(I)Z"⟩, 17) := ⟨⟨by decide +kernel, by decide +kernel⟩, List.mem_of_getElem? (i := 556) (by decide +kernel), List.mem_of_getElem? (i := 736) (by decide +kernel), List.mem_of_getElem? (i := 737) (by decide +kernel)⟩
theorem lw_p34 : lw_okq (⟨"EvenWhiteModel", "isAlike", "(I)Z"⟩, 17) := ⟨⟨by decide +kernel, by decide +kernel⟩, List.mem_of_getElem? (i := 556) (by decide +kernel), List.mem_of_getElem? (i := 741) (by decide +kernel), List.mem_of_getElem? (i := 742) (by decide +kernel)⟩
theorem lw_p35 : lw_okq (⟨"EvenWhiteModel", "sumOf", "(II)I"⟩, 17) := ⟨⟨by decide +kernel, by decide +kernel⟩, List.mem_of_getElem? (i := 556) (by decide +kernel), List.mem_of_getElem? (i := 745) (by decide +kernel), List.mem_of_getElem? (i := 746) (by decide +kernel)⟩
theorem lw_p36 : lw_okq (⟨"EvenWhiteModel", "layWholes", "()V"⟩, 17) := ⟨⟨by decide +kernel, by decide +kernel⟩, List.mem_of_getElem? (i := 556) (by decide +kernel), List.mem_of_getElem? (i := 767) (by decide +kernel), List.mem_of_getElem? (i := 768) (by decide +kernel)⟩
theorem lw_p37 : lw_okq (⟨"EvenWhiteModel", "restOf", "(I)J"⟩, 17) := ⟨⟨by decide +kernel, by decide +kernel⟩, List.mem_of_getElem? (i := 556) (by decide +kernel), List.mem_of_getElem? (i := 776) (by decide +kernel), List.mem_of_getElem? (i := 777) (by decide +kernel)⟩
theorem lw_p38 : lw_okq (⟨"EvenWhiteModel", "remember", "()V"⟩, 17) := ⟨⟨by decide +kernel, by decide +kernel⟩, List.mem_of_getElem? (i := 556) (by decide +kernel), List.mem_of_getElem? (i := 792) (by decide +kernel), List.mem_of_getElem? (i := 793) (by decide +kernel)⟩
theorem lw_p39 : lw_okq (⟨"EvenWhiteModel", "become", "(II)I"⟩, 17) := ⟨⟨by decide +kernel, by decide +kernel⟩, List.mem_of_getElem? (i := 556) (by decide +kernel), List.mem_of_getElem? (i := 801) (by decide +kernel), List.mem_of_getElem? (i := 802) (by decide +kernel)⟩
theorem lw_p40 : lw_okq (⟨"EvenWhiteModel", "mirrorNow", "(I)V"⟩, 17) := ⟨⟨by decide +kernel, by decide +kernel⟩, List.mem_of_getElem? (i := 556) (by decide +kernel), List.mem_of_getElem? (i := 824) (by decide +kernel), List.mem_of_getElem? (i := 825) (by decide +kernel)⟩
def lw_privs_3 : List (MethodName × Nat) := [(⟨"EvenWhiteModel", "thin", "()I"⟩, 17), (⟨"EvenWhiteModel", "isLetter", "(I)Z"⟩, 17), (⟨"EvenWhiteModel", "isAlike", "(I)Z"⟩, 17), (⟨"EvenWhiteModel", "sumOf", "(II)I"⟩, 17), (⟨"EvenWhiteModel", "layWholes", "()V"⟩, 17), (⟨"EvenWhiteModel", "restOf", "(I)J"⟩, 17), (⟨"EvenWhiteModel", "remember", "()V"⟩, 17), (⟨"EvenWhiteModel", "become", "(II)I"⟩, 17), (⟨"EvenWhiteModel", "mirrorNow", "(I)V"⟩, 17)]
theorem lw_r3 : ∀ q ∈ lw_privs_3, lw_okq q := List.forall_mem_cons.mpr ⟨lw_p32, List.forall_mem_cons.mpr ⟨lw_p33, List.forall_mem_cons.mpr ⟨lw_p34, List.forall_mem_cons.mpr ⟨lw_p35, List.forall_mem_cons.mpr ⟨lw_p36, List.forall_mem_cons.mpr ⟨lw_p37, List.forall_mem_cons.mpr ⟨lw_p38, List.forall_mem_cons.mpr ⟨lw_p39, List.forall_mem_cons.mpr ⟨lw_p40, fun _ h => absurd h List.not_mem_nil⟩⟩⟩⟩⟩⟩⟩⟩⟩
def lw_privs : List (MethodName × Nat) := lw_privs_1 ++ (lw_privs_2 ++ (lw_privs_3))
def lw_tbl : List Cond := k2_sels lw_privs ++ tables_1
theorem lw_privs_ok : ∀ q ∈ lw_privs, lw_okq q := by
  show ∀ q ∈ lw_privs_1 ++ (lw_privs_2 ++ (lw_privs_3)), lw_okq q
  exact List.forall_mem_append.mpr ⟨lw_r1, List.forall_mem_append.mpr ⟨lw_r2, lw_r3⟩⟩
end
section
/-! ===== BEGIN words of one list among another's, by their places ===== -/
theorem goodIn_r {big : List Cond} (ws : List Cond) (ps : List Nat) (hp : ws = ps.filterMap (fun i => big[i]?)) (h : ws.all goodWord = true) : GoodIn big ws := by
  intro w hw
  have h1 := List.all_eq_true.mp h w hw
  rw [hp] at hw
  obtain ⟨i, -, hi⟩ := List.mem_filterMap.mp hw
  have hm : w ∈ big := by first | exact List.mem_of_getElem? hi | exact List.getElem?_mem hi
  exact ⟨hm, good_of_word h1⟩
theorem goodIn_app {big a b : List Cond} (ha : GoodIn big a) (hb : GoodIn big b) : GoodIn big (a ++ b) := fun w h => (List.mem_append.mp h).elim (ha w) (hb w)
theorem goodIn_ca {big a b : List Cond} {c : Cond} (ha : GoodIn big (c :: a)) (hb : GoodIn big b) : GoodIn big (c :: (a ++ b)) := fun w h => (List.mem_cons.mp h).elim (fun e => ha w (List.mem_cons.mpr (Or.inl e))) (fun h => (List.mem_append.mp h).elim (fun h => ha w (List.mem_cons.mpr (Or.inr h))) (hb w))
theorem goodIn_sub {big ws : List Cond} (hm : ∀ w ∈ ws, w ∈ big) (h : ws.all goodWord = true) : GoodIn big ws := fun w hw => ⟨hm w hw, good_of_word (List.all_eq_true.mp h w hw)⟩
/-! ===== END ===== -/
def RX0 : String := "EvenWhite$Even"
def TX0 : u_T := fun k => match k with
  | 0 => ("EvenWhite$Even", "fount", "LEvenWhite$Fount;", true)
  | 1 => ("EvenWhite$Even", "rows", "[[J", true)
  | 2 => ("EvenWhite$Even", "open", "[Z", true)
  | 3 => ("EvenWhite$Even", "eightfold", "[J", true)
  | 4 => ("EvenWhite$Even", "below", "J", false)
  | 5 => ("EvenWhite$Even", "whole", "[J", true)
  | 6 => ("EvenWhite$Even", "rest", "[J", true)
  | _ => ("EvenWhite$Even", "found", "Z", false)
def tyX0 : Nat → FieldType := fun k => match k with
  | 0 => .object "EvenWhite$Fount"
  | 1 => .array (.array .long)
  | 2 => .array .boolean
  | 3 => .array .long
  | 4 => .long
  | 5 => .array .long
  | 6 => .array .long
  | _ => .boolean
abbrev wsX00 : List Cond := u_ws RX0 TX0 8
theorem nmX0 : ∀ a, a < 8 → ∀ b, b < 8 → a ≠ b → (TX0 a).2.1 ≠ (TX0 b).2.1 := by decide +kernel
theorem tyX0_ok : ∀ k, k < 8 → parseFieldDescriptor (TX0 k).2.2.1 = some (tyX0 k) := by decide +kernel
abbrev cX0_init : ByteArray := prog_2_method_1_code
def yX0_init : MethodName := ⟨RX0, "<init>", "(LEvenWhite$Fount;)V"⟩
abbrev cX0_forget : ByteArray := prog_2_method_2_code
def yX0_forget : MethodName := ⟨RX0, "forget", "()V"⟩
abbrev cX0_find : ByteArray := prog_2_method_3_code
def yX0_find : MethodName := ⟨RX0, "find", "()V"⟩
abbrev cX0_spaces : ByteArray := prog_2_method_4_code
def yX0_spaces : MethodName := ⟨RX0, "spaces", "()I"⟩
abbrev cX0_numberOf : ByteArray := prog_2_method_5_code
def yX0_numberOf : MethodName := ⟨RX0, "numberOf", "(II)I"⟩
abbrev cX0_writeRows : ByteArray := prog_2_method_6_code
def yX0_writeRows : MethodName := ⟨RX0, "writeRows", "()V"⟩
abbrev cX0_addPair : ByteArray := prog_2_method_7_code
def yX0_addPair : MethodName := ⟨RX0, "addPair", "(II)V"⟩
abbrev cX0_solveRows : ByteArray := prog_2_method_8_code
def yX0_solveRows : MethodName := ⟨RX0, "solveRows", "()V"⟩
abbrev cX0_clearColumn : ByteArray := prog_2_method_9_code
def yX0_clearColumn : MethodName := ⟨RX0, "clearColumn", "(I)V"⟩
abbrev cX0_makeWhole : ByteArray := prog_2_method_10_code
def yX0_makeWhole : MethodName := ⟨RX0, "makeWhole", "()V"⟩
abbrev cX0_firstOfGreatestRest : ByteArray := prog_2_method_11_code
def yX0_firstOfGreatestRest : MethodName := ⟨RX0, "firstOfGreatestRest", "()I"⟩
abbrev cX0_isOpen : ByteArray := prog_2_method_12_code
def yX0_isOpen : MethodName := ⟨RX0, "isOpen", "(II)Z"⟩
abbrev cX0_openSpaces : ByteArray := prog_2_method_13_code
def yX0_openSpaces : MethodName := ⟨RX0, "openSpaces", "()I"⟩
abbrev cX0_spaceAbove : ByteArray := prog_2_method_14_code
def yX0_spaceAbove : MethodName := ⟨RX0, "spaceAbove", "(II)J"⟩
abbrev cX0_spaceBelow : ByteArray := prog_2_method_15_code
def yX0_spaceBelow : MethodName := ⟨RX0, "spaceBelow", "()J"⟩
abbrev cX0_wholeSpace : ByteArray := prog_2_method_16_code
def yX0_wholeSpace : MethodName := ⟨RX0, "wholeSpace", "(II)J"⟩
abbrev cX0_whiteAbove : ByteArray := prog_2_method_17_code
def yX0_whiteAbove : MethodName := ⟨RX0, "whiteAbove", "(II)J"⟩
abbrev cX0_whiteBelow : ByteArray := prog_2_method_18_code
def yX0_whiteBelow : MethodName := ⟨RX0, "whiteBelow", "()J"⟩
abbrev cX0_leftOverAbove : ByteArray := prog_2_method_19_code
def yX0_leftOverAbove : MethodName := ⟨RX0, "leftOverAbove", "(II)J"⟩
abbrev cX0_squaresAbove : ByteArray := prog_2_method_20_code
def yX0_squaresAbove : MethodName := ⟨RX0, "squaresAbove", "()J"⟩
abbrev cX0_squaresBelow : ByteArray := prog_2_method_21_code
def yX0_squaresBelow : MethodName := ⟨RX0, "squaresBelow", "()J"⟩
abbrev cX0_worst : ByteArray := prog_2_method_22_code
def yX0_worst : MethodName := ⟨RX0, "worst", "()I"⟩
def RX1 : String := "EvenWhite$Fount"
def TX1 : u_T := fun k => match k with
  | 0 => ("EvenWhite$Fount", "many", "I", false)
  | 1 => ("EvenWhite$Fount", "depth", "I", false)
  | 2 => ("EvenWhite$Fount", "wanted", "I", false)
  | 3 => ("EvenWhite$Fount", "bodies", "[I", true)
  | 4 => ("EvenWhite$Fount", "backs", "[I", true)
  | _ => ("EvenWhite$Fount", "weights", "[I", true)
def tyX1 : Nat → FieldType := fun k => match k with
  | 0 => .int
  | 1 => .int
  | 2 => .int
  | 3 => .array .int
  | 4 => .array .int
  | _ => .array .int
abbrev wsX10 : List Cond := u_ws RX1 TX1 6
theorem nmX1 : ∀ a, a < 6 → ∀ b, b < 6 → a ≠ b → (TX1 a).2.1 ≠ (TX1 b).2.1 := by decide +kernel
theorem tyX1_ok : ∀ k, k < 6 → parseFieldDescriptor (TX1 k).2.2.1 = some (tyX1 k) := by decide +kernel
abbrev cX1_init : ByteArray := prog_3_method_1_code
def yX1_init : MethodName := ⟨RX1, "<init>", "()V"⟩
abbrev cX1_startAnew : ByteArray := prog_3_method_2_code
def yX1_startAnew : MethodName := ⟨RX1, "startAnew", "(I)V"⟩
abbrev cX1_takeAll : ByteArray := prog_3_method_3_code
def yX1_takeAll : MethodName := ⟨RX1, "takeAll", "(LEvenWhite$Fount;)V"⟩
abbrev cX1_hasLetter : ByteArray := prog_3_method_4_code
def yX1_hasLetter : MethodName := ⟨RX1, "hasLetter", "(I)Z"⟩
abbrev cX1_hasPair : ByteArray := prog_3_method_5_code
def yX1_hasPair : MethodName := ⟨RX1, "hasPair", "(II)Z"⟩
abbrev cX1_placeOfBack : ByteArray := prog_3_method_6_code
def yX1_placeOfBack : MethodName := ⟨RX1, "placeOfBack", "(III)I"⟩
abbrev cX1_backOf : ByteArray := prog_3_method_7_code
def yX1_backOf : MethodName := ⟨RX1, "backOf", "(III)I"⟩
abbrev cX1_putBack : ByteArray := prog_3_method_8_code
def yX1_putBack : MethodName := ⟨RX1, "putBack", "(IIII)V"⟩
abbrev cX1_weightOf : ByteArray := prog_3_method_9_code
def yX1_weightOf : MethodName := ⟨RX1, "weightOf", "(II)I"⟩
abbrev cX1_putWeight : ByteArray := prog_3_method_10_code
def yX1_putWeight : MethodName := ⟨RX1, "putWeight", "(III)V"⟩
abbrev cX1_pairsWithWeight : ByteArray := prog_3_method_11_code
def yX1_pairsWithWeight : MethodName := ⟨RX1, "pairsWithWeight", "()I"⟩
abbrev cX1_sumOfSide : ByteArray := prog_3_method_12_code
def yX1_sumOfSide : MethodName := ⟨RX1, "sumOfSide", "(II)I"⟩
abbrev cX1_bareOf : ByteArray := prog_3_method_13_code
def yX1_bareOf : MethodName := ⟨RX1, "bareOf", "(II)I"⟩
abbrev cX1_bareOfAll : ByteArray := prog_3_method_14_code
def yX1_bareOfAll : MethodName := ⟨RX1, "bareOfAll", "()I"⟩
abbrev cX1_hasLikeSides : ByteArray := prog_3_method_15_code
def yX1_hasLikeSides : MethodName := ⟨RX1, "hasLikeSides", "(I)Z"⟩
abbrev cX1_swapSides : ByteArray := prog_3_method_16_code
def yX1_swapSides : MethodName := ⟨RX1, "swapSides", "(I)V"⟩
abbrev cX1_turnRound : ByteArray := prog_3_method_17_code
def yX1_turnRound : MethodName := ⟨RX1, "turnRound", "()V"⟩
abbrev cX1_takeLetter : ByteArray := prog_3_method_18_code
def yX1_takeLetter : MethodName := ⟨RX1, "takeLetter", "(II)I"⟩
abbrev cX1_drawLots : ByteArray := prog_3_method_19_code
def yX1_drawLots : MethodName := ⟨RX1, "drawLots", "(I)V"⟩
abbrev cX1_nextLot : ByteArray := prog_3_method_20_code
def yX1_nextLot : MethodName := ⟨RX1, "nextLot", "(J)J"⟩
def RX2 : String := "EvenWhite$Line"
def TX2 : u_T := fun k => match k with
  | 0 => ("EvenWhite$Line", "many", "I", false)
  | 1 => ("EvenWhite$Line", "places", "[I", true)
  | 2 => ("EvenWhite$Line", "fount", "LEvenWhite$Fount;", true)
  | 3 => ("EvenWhite$Line", "even", "LEvenWhite$Even;", true)
  | _ => ("EvenWhite$Line", "text", "LEvenWhite$Text;", true)
def tyX2 : Nat → FieldType := fun k => match k with
  | 0 => .int
  | 1 => .array .int
  | 2 => .object "EvenWhite$Fount"
  | 3 => .object "EvenWhite$Even"
  | _ => .object "EvenWhite$Text"
abbrev wsX20 : List Cond := u_ws RX2 TX2 5
theorem nmX2 : ∀ a, a < 5 → ∀ b, b < 5 → a ≠ b → (TX2 a).2.1 ≠ (TX2 b).2.1 := by decide +kernel
theorem tyX2_ok : ∀ k, k < 5 → parseFieldDescriptor (TX2 k).2.2.1 = some (tyX2 k) := by decide +kernel
abbrev cX2_init : ByteArray := prog_4_method_1_code
def yX2_init : MethodName := ⟨RX2, "<init>", "(LEvenWhite$Fount;LEvenWhite$Even;)V"⟩
abbrev cX2_makeEmpty : ByteArray := prog_4_method_2_code
def yX2_makeEmpty : MethodName := ⟨RX2, "makeEmpty", "()V"⟩
abbrev cX2_add : ByteArray := prog_4_method_3_code
def yX2_add : MethodName := ⟨RX2, "add", "(I)V"⟩
abbrev cX2_letterAt : ByteArray := prog_4_method_4_code
def yX2_letterAt : MethodName := ⟨RX2, "letterAt", "(I)I"⟩
abbrev cX2_wideAbove : ByteArray := prog_4_method_5_code
def yX2_wideAbove : MethodName := ⟨RX2, "wideAbove", "()J"⟩
abbrev cX2_thin : ByteArray := prog_4_method_6_code
def yX2_thin : MethodName := ⟨RX2, "thin", "()I"⟩
abbrev cX2_written : ByteArray := prog_4_method_7_code
def yX2_written : MethodName := ⟨RX2, "written", "()LEvenWhite$Text;"⟩
abbrev cX2_signBetween : ByteArray := prog_4_method_8_code
def yX2_signBetween : MethodName := ⟨RX2, "signBetween", "(II)I"⟩
def RX3 : String := "EvenWhite$Past"
def TX3 : u_T := fun k => match k with
  | 0 => ("EvenWhite$Past", "many", "I", false)
  | 1 => ("EvenWhite$Past", "next", "I", false)
  | _ => ("EvenWhite$Past", "ring", "[LEvenWhite$Fount;", true)
def tyX3 : Nat → FieldType := fun k => match k with
  | 0 => .int
  | 1 => .int
  | _ => .array (.object "EvenWhite$Fount")
abbrev wsX30 : List Cond := u_ws RX3 TX3 3
theorem nmX3 : ∀ a, a < 3 → ∀ b, b < 3 → a ≠ b → (TX3 a).2.1 ≠ (TX3 b).2.1 := by decide +kernel
theorem tyX3_ok : ∀ k, k < 3 → parseFieldDescriptor (TX3 k).2.2.1 = some (tyX3 k) := by decide +kernel
abbrev cX3_init : ByteArray := prog_5_method_1_code
def yX3_init : MethodName := ⟨RX3, "<init>", "()V"⟩
abbrev cX3_remember : ByteArray := prog_5_method_2_code
def yX3_remember : MethodName := ⟨RX3, "remember", "(LEvenWhite$Fount;)V"⟩
abbrev cX3_giveBack : ByteArray := prog_5_method_3_code
def yX3_giveBack : MethodName := ⟨RX3, "giveBack", "(LEvenWhite$Fount;)V"⟩
abbrev cX3_forget : ByteArray := prog_5_method_4_code
def yX3_forget : MethodName := ⟨RX3, "forget", "()V"⟩
def RX4 : String := "EvenWhite$Text"
def TX4 : u_T := fun k => match k with
  | 0 => ("EvenWhite$Text", "many", "I", false)
  | _ => ("EvenWhite$Text", "signs", "[I", true)
def tyX4 : Nat → FieldType := fun k => match k with
  | 0 => .int
  | _ => .array .int
abbrev wsX40 : List Cond := u_ws RX4 TX4 2
theorem nmX4 : ∀ a, a < 2 → ∀ b, b < 2 → a ≠ b → (TX4 a).2.1 ≠ (TX4 b).2.1 := by decide +kernel
theorem tyX4_ok : ∀ k, k < 2 → parseFieldDescriptor (TX4 k).2.2.1 = some (tyX4 k) := by decide +kernel
abbrev cX4_init : ByteArray := prog_6_method_1_code
def yX4_init : MethodName := ⟨RX4, "<init>", "()V"⟩
abbrev cX4_makeEmpty : ByteArray := prog_6_method_2_code
def yX4_makeEmpty : MethodName := ⟨RX4, "makeEmpty", "()V"⟩
abbrev cX4_addSign : ByteArray := prog_6_method_3_code
def yX4_addSign : MethodName := ⟨RX4, "addSign", "(I)V"⟩
abbrev cX4_addNumber : ByteArray := prog_6_method_4_code
def yX4_addNumber : MethodName := ⟨RX4, "addNumber", "(J)V"⟩
abbrev cX4_signAt : ByteArray := prog_6_method_5_code
def yX4_signAt : MethodName := ⟨RX4, "signAt", "(I)I"⟩
def RX5 : String := "EvenWhite"
def TX5 : u_T := fun k => match k with
  | 0 => ("EvenWhite", "fount", "LEvenWhite$Fount;", true)
  | 1 => ("EvenWhite", "even", "LEvenWhite$Even;", true)
  | 2 => ("EvenWhite", "past", "LEvenWhite$Past;", true)
  | 3 => ("EvenWhite", "line", "LEvenWhite$Line;", true)
  | 4 => ("EvenWhite", "images", "[LEvenWhite$Fount;", true)
  | _ => ("EvenWhite", "kept", "[Z", true)
def tyX5 : Nat → FieldType := fun k => match k with
  | 0 => .object "EvenWhite$Fount"
  | 1 => .object "EvenWhite$Even"
  | 2 => .object "EvenWhite$Past"
  | 3 => .object "EvenWhite$Line"
  | 4 => .array (.object "EvenWhite$Fount")
  | _ => .array .boolean
abbrev wsX50 : List Cond := u_ws RX5 TX5 6
theorem nmX5 : ∀ a, a < 6 → ∀ b, b < 6 → a ≠ b → (TX5 a).2.1 ≠ (TX5 b).2.1 := by decide +kernel
theorem tyX5_ok : ∀ k, k < 6 → parseFieldDescriptor (TX5 k).2.2.1 = some (tyX5 k) := by decide +kernel
abbrev cX5_init : ByteArray := prog_1_method_1_code
def yX5_init : MethodName := ⟨RX5, "<init>", "()V"⟩
abbrev cX5_letters : ByteArray := prog_1_method_2_code
def yX5_letters : MethodName := ⟨RX5, "letters", "(I)I"⟩
abbrev cX5_side : ByteArray := prog_1_method_3_code
def yX5_side : MethodName := ⟨RX5, "side", "(IIII)I"⟩
abbrev cX5_body : ByteArray := prog_1_method_4_code
def yX5_body : MethodName := ⟨RX5, "body", "(II)I"⟩
abbrev cX5_bound : ByteArray := prog_1_method_5_code
def yX5_bound : MethodName := ⟨RX5, "bound", "(II)I"⟩
abbrev cX5_weight : ByteArray := prog_1_method_6_code
def yX5_weight : MethodName := ⟨RX5, "weight", "(III)I"⟩
abbrev cX5_mirror : ByteArray := prog_1_method_7_code
def yX5_mirror : MethodName := ⟨RX5, "mirror", "(I)I"⟩
abbrev cX5_turn : ByteArray := prog_1_method_8_code
def yX5_turn : MethodName := ⟨RX5, "turn", "()I"⟩
abbrev cX5_copy : ByteArray := prog_1_method_9_code
def yX5_copy : MethodName := ⟨RX5, "copy", "(II)I"⟩
abbrev cX5_drift : ByteArray := prog_1_method_10_code
def yX5_drift : MethodName := ⟨RX5, "drift", "(I)I"⟩
abbrev cX5_undo : ByteArray := prog_1_method_11_code
def yX5_undo : MethodName := ⟨RX5, "undo", "()I"⟩
abbrev cX5_told : ByteArray := prog_1_method_12_code
def yX5_told : MethodName := ⟨RX5, "told", "(I)J"⟩
abbrev cX5_letter : ByteArray := prog_1_method_13_code
def yX5_letter : MethodName := ⟨RX5, "letter", "(II)I"⟩
abbrev cX5_back : ByteArray := prog_1_method_14_code
def yX5_back : MethodName := ⟨RX5, "back", "(III)I"⟩
abbrev cX5_space : ByteArray := prog_1_method_15_code
def yX5_space : MethodName := ⟨RX5, "space", "(III)J"⟩
abbrev cX5_pair : ByteArray := prog_1_method_16_code
def yX5_pair : MethodName := ⟨RX5, "pair", "(III)J"⟩
abbrev cX5_white : ByteArray := prog_1_method_17_code
def yX5_white : MethodName := ⟨RX5, "white", "(II)I"⟩
abbrev cX5_set : ByteArray := prog_1_method_18_code
def yX5_set : MethodName := ⟨RX5, "set", "(I)I"⟩
abbrev cX5_wipe : ByteArray := prog_1_method_19_code
def yX5_wipe : MethodName := ⟨RX5, "wipe", "()I"⟩
abbrev cX5_place : ByteArray := prog_1_method_20_code
def yX5_place : MethodName := ⟨RX5, "place", "(I)I"⟩
abbrev cX5_sign : ByteArray := prog_1_method_21_code
def yX5_sign : MethodName := ⟨RX5, "sign", "(I)I"⟩
abbrev cX5_keep : ByteArray := prog_1_method_22_code
def yX5_keep : MethodName := ⟨RX5, "keep", "(I)I"⟩
abbrev cX5_goBack : ByteArray := prog_1_method_23_code
def yX5_goBack : MethodName := ⟨RX5, "goBack", "(I)I"⟩
abbrev cX5_beginChange : ByteArray := prog_1_method_24_code
def yX5_beginChange : MethodName := ⟨RX5, "beginChange", "()V"⟩
abbrev cX5_within : ByteArray := prog_1_method_25_code
def yX5_within : MethodName := ⟨RX5, "within", "(III)Z"⟩
abbrev cX5_isSide : ByteArray := prog_1_method_26_code
def yX5_isSide : MethodName := ⟨RX5, "isSide", "(I)Z"⟩
abbrev cX5_isHeight : ByteArray := prog_1_method_27_code
def yX5_isHeight : MethodName := ⟨RX5, "isHeight", "(I)Z"⟩
abbrev cX5_isImage : ByteArray := prog_1_method_28_code
def yX5_isImage : MethodName := ⟨RX5, "isImage", "(I)Z"⟩
abbrev cX5_aboveOf : ByteArray := prog_1_method_29_code
def yX5_aboveOf : MethodName := ⟨RX5, "aboveOf", "(JJ)J"⟩
abbrev cX5_belowOf : ByteArray := prog_1_method_30_code
def yX5_belowOf : MethodName := ⟨RX5, "belowOf", "(JJ)J"⟩
abbrev cX5_commonDivisor : ByteArray := prog_1_method_31_code
def yX5_commonDivisor : MethodName := ⟨RX5, "commonDivisor", "(JJ)J"⟩
def RX6 : String := "EvenWhiteModel"
def TX6 : u_T := fun k => match k with
  | 0 => ("EvenWhiteModel", "now", "[I", true)
  | 1 => ("EvenWhiteModel", "lined", "I", false)
  | 2 => ("EvenWhiteModel", "line", "[I", true)
  | 3 => ("EvenWhiteModel", "isOpen", "[Z", true)
  | 4 => ("EvenWhiteModel", "spaces", "[J", true)
  | 5 => ("EvenWhiteModel", "whole", "J", false)
  | 6 => ("EvenWhiteModel", "group", "[I", true)
  | 7 => ("EvenWhiteModel", "cells", "[J", true)
  | 8 => ("EvenWhiteModel", "unknown", "[I", true)
  | 9 => ("EvenWhiteModel", "wholes", "[J", true)
  | 10 => ("EvenWhiteModel", "isMore", "[Z", true)
  | 11 => ("EvenWhiteModel", "signs", "[I", true)
  | 12 => ("EvenWhiteModel", "signed", "I", false)
  | 13 => ("EvenWhiteModel", "undos", "I", false)
  | 14 => ("EvenWhiteModel", "past", "[I", true)
  | 15 => ("EvenWhiteModel", "images", "[I", true)
  | _ => ("EvenWhiteModel", "isKept", "[Z", true)
def tyX6 : Nat → FieldType := fun k => match k with
  | 0 => .array .int
  | 1 => .int
  | 2 => .array .int
  | 3 => .array .boolean
  | 4 => .array .long
  | 5 => .long
  | 6 => .array .int
  | 7 => .array .long
  | 8 => .array .int
  | 9 => .array .long
  | 10 => .array .boolean
  | 11 => .array .int
  | 12 => .int
  | 13 => .int
  | 14 => .array .int
  | 15 => .array .int
  | _ => .array .boolean
abbrev wsX60 : List Cond := u_ws RX6 TX6 17
theorem nmX6 : ∀ a, a < 17 → ∀ b, b < 17 → a ≠ b → (TX6 a).2.1 ≠ (TX6 b).2.1 := by decide +kernel
theorem tyX6_ok : ∀ k, k < 17 → parseFieldDescriptor (TX6 k).2.2.1 = some (tyX6 k) := by decide +kernel
abbrev cX6_init : ByteArray := prog_8_method_1_code
def yX6_init : MethodName := ⟨RX6, "<init>", "()V"⟩
abbrev cX6_in : ByteArray := prog_8_method_3_code
def yX6_in : MethodName := ⟨RX6, "in", "(JJJ)Z"⟩
abbrev cX6_beginLetters : ByteArray := prog_8_method_4_code
def yX6_beginLetters : MethodName := ⟨RX6, "beginLetters", "(I)V"⟩
abbrev cX6_isLetter : ByteArray := prog_8_method_5_code
def yX6_isLetter : MethodName := ⟨RX6, "isLetter", "(I)Z"⟩
abbrev cX6_isHeight : ByteArray := prog_8_method_6_code
def yX6_isHeight : MethodName := ⟨RX6, "isHeight", "(I)Z"⟩
abbrev cX6_isSide : ByteArray := prog_8_method_7_code
def yX6_isSide : MethodName := ⟨RX6, "isSide", "(I)Z"⟩
abbrev cX6_at : ByteArray := prog_8_method_8_code
def yX6_at : MethodName := ⟨RX6, "at", "(III)I"⟩
abbrev cX6_weightOf : ByteArray := prog_8_method_9_code
def yX6_weightOf : MethodName := ⟨RX6, "weightOf", "(II)I"⟩
abbrev cX6_bare : ByteArray := prog_8_method_10_code
def yX6_bare : MethodName := ⟨RX6, "bare", "(II)I"⟩
abbrev cX6_divisor : ByteArray := prog_8_method_11_code
def yX6_divisor : MethodName := ⟨RX6, "divisor", "(JJ)J"⟩
abbrev cX6_above : ByteArray := prog_8_method_12_code
def yX6_above : MethodName := ⟨RX6, "above", "(JJ)J"⟩
abbrev cX6_below : ByteArray := prog_8_method_13_code
def yX6_below : MethodName := ⟨RX6, "below", "(JJ)J"⟩
abbrev cX6_floor : ByteArray := prog_8_method_14_code
def yX6_floor : MethodName := ⟨RX6, "floor", "(JJ)J"⟩
abbrev cX6_isThere : ByteArray := prog_8_method_15_code
def yX6_isThere : MethodName := ⟨RX6, "isThere", "(I)Z"⟩
abbrev cX6_joins : ByteArray := prog_8_method_16_code
def yX6_joins : MethodName := ⟨RX6, "joins", "(II)I"⟩
abbrev cX6_isJoined : ByteArray := prog_8_method_17_code
def yX6_isJoined : MethodName := ⟨RX6, "isJoined", "(I)Z"⟩
abbrev cX6_layGroups : ByteArray := prog_8_method_18_code
def yX6_layGroups : MethodName := ⟨RX6, "layGroups", "()V"⟩
abbrev cX6_layOpen : ByteArray := prog_8_method_19_code
def yX6_layOpen : MethodName := ⟨RX6, "layOpen", "()V"⟩
abbrev cX6_layEquations : ByteArray := prog_8_method_20_code
def yX6_layEquations : MethodName := ⟨RX6, "layEquations", "()I"⟩
abbrev cX6_sumOfWeights : ByteArray := prog_8_method_21_code
def yX6_sumOfWeights : MethodName := ⟨RX6, "sumOfWeights", "(I)I"⟩
abbrev cX6_wantedOf : ByteArray := prog_8_method_22_code
def yX6_wantedOf : MethodName := ⟨RX6, "wantedOf", "(I)J"⟩
abbrev cX6_solve : ByteArray := prog_8_method_23_code
def yX6_solve : MethodName := ⟨RX6, "solve", "()V"⟩
abbrev cX6_whiteOf : ByteArray := prog_8_method_24_code
def yX6_whiteOf : MethodName := ⟨RX6, "whiteOf", "(II)J"⟩
abbrev cX6_overOf : ByteArray := prog_8_method_25_code
def yX6_overOf : MethodName := ⟨RX6, "overOf", "(II)J"⟩
abbrev cX6_squares : ByteArray := prog_8_method_26_code
def yX6_squares : MethodName := ⟨RX6, "squares", "()J"⟩
abbrev cX6_worst : ByteArray := prog_8_method_27_code
def yX6_worst : MethodName := ⟨RX6, "worst", "()I"⟩
abbrev cX6_weighted : ByteArray := prog_8_method_28_code
def yX6_weighted : MethodName := ⟨RX6, "weighted", "()I"⟩
abbrev cX6_openOnes : ByteArray := prog_8_method_29_code
def yX6_openOnes : MethodName := ⟨RX6, "openOnes", "()I"⟩
abbrev cX6_restOf : ByteArray := prog_8_method_30_code
def yX6_restOf : MethodName := ⟨RX6, "restOf", "(I)J"⟩
abbrev cX6_layWholes : ByteArray := prog_8_method_31_code
def yX6_layWholes : MethodName := ⟨RX6, "layWholes", "()V"⟩
abbrev cX6_wide : ByteArray := prog_8_method_32_code
def yX6_wide : MethodName := ⟨RX6, "wide", "()J"⟩
abbrev cX6_thin : ByteArray := prog_8_method_33_code
def yX6_thin : MethodName := ⟨RX6, "thin", "()I"⟩
abbrev cX6_write : ByteArray := prog_8_method_34_code
def yX6_write : MethodName := ⟨RX6, "write", "(I)V"⟩
abbrev cX6_writeNumber : ByteArray := prog_8_method_35_code
def yX6_writeNumber : MethodName := ⟨RX6, "writeNumber", "(J)V"⟩
abbrev cX6_writeLine : ByteArray := prog_8_method_36_code
def yX6_writeLine : MethodName := ⟨RX6, "writeLine", "()V"⟩
abbrev cX6_told : ByteArray := prog_8_method_37_code
def yX6_told : MethodName := ⟨RX6, "told", "(I)J"⟩
abbrev cX6_isAlike : ByteArray := prog_8_method_38_code
def yX6_isAlike : MethodName := ⟨RX6, "isAlike", "(I)Z"⟩
abbrev cX6_sumOf : ByteArray := prog_8_method_39_code
def yX6_sumOf : MethodName := ⟨RX6, "sumOf", "(II)I"⟩
abbrev cX6_letter : ByteArray := prog_8_method_40_code
def yX6_letter : MethodName := ⟨RX6, "letter", "(II)I"⟩
abbrev cX6_back : ByteArray := prog_8_method_41_code
def yX6_back : MethodName := ⟨RX6, "back", "(III)I"⟩
abbrev cX6_space : ByteArray := prog_8_method_42_code
def yX6_space : MethodName := ⟨RX6, "space", "(III)J"⟩
abbrev cX6_pair : ByteArray := prog_8_method_43_code
def yX6_pair : MethodName := ⟨RX6, "pair", "(III)J"⟩
abbrev cX6_white : ByteArray := prog_8_method_44_code
def yX6_white : MethodName := ⟨RX6, "white", "(II)I"⟩
abbrev cX6_remember : ByteArray := prog_8_method_45_code
def yX6_remember : MethodName := ⟨RX6, "remember", "()V"⟩
abbrev cX6_letters : ByteArray := prog_8_method_46_code
def yX6_letters : MethodName := ⟨RX6, "letters", "(I)I"⟩
abbrev cX6_become : ByteArray := prog_8_method_47_code
def yX6_become : MethodName := ⟨RX6, "become", "(II)I"⟩
abbrev cX6_side : ByteArray := prog_8_method_48_code
def yX6_side : MethodName := ⟨RX6, "side", "(IIII)I"⟩
abbrev cX6_body : ByteArray := prog_8_method_49_code
def yX6_body : MethodName := ⟨RX6, "body", "(II)I"⟩
abbrev cX6_bound : ByteArray := prog_8_method_50_code
def yX6_bound : MethodName := ⟨RX6, "bound", "(II)I"⟩
abbrev cX6_weight : ByteArray := prog_8_method_51_code
def yX6_weight : MethodName := ⟨RX6, "weight", "(III)I"⟩
abbrev cX6_mirrorNow : ByteArray := prog_8_method_52_code
def yX6_mirrorNow : MethodName := ⟨RX6, "mirrorNow", "(I)V"⟩
abbrev cX6_mirror : ByteArray := prog_8_method_53_code
def yX6_mirror : MethodName := ⟨RX6, "mirror", "(I)I"⟩
abbrev cX6_turn : ByteArray := prog_8_method_54_code
def yX6_turn : MethodName := ⟨RX6, "turn", "()I"⟩
abbrev cX6_copy : ByteArray := prog_8_method_55_code
def yX6_copy : MethodName := ⟨RX6, "copy", "(II)I"⟩
abbrev cX6_drift : ByteArray := prog_8_method_56_code
def yX6_drift : MethodName := ⟨RX6, "drift", "(I)I"⟩
abbrev cX6_undo : ByteArray := prog_8_method_57_code
def yX6_undo : MethodName := ⟨RX6, "undo", "()I"⟩
abbrev cX6_set : ByteArray := prog_8_method_58_code
def yX6_set : MethodName := ⟨RX6, "set", "(I)I"⟩
abbrev cX6_wipe : ByteArray := prog_8_method_59_code
def yX6_wipe : MethodName := ⟨RX6, "wipe", "()I"⟩
abbrev cX6_place : ByteArray := prog_8_method_60_code
def yX6_place : MethodName := ⟨RX6, "place", "(I)I"⟩
abbrev cX6_sign : ByteArray := prog_8_method_61_code
def yX6_sign : MethodName := ⟨RX6, "sign", "(I)I"⟩
abbrev cX6_keep : ByteArray := prog_8_method_62_code
def yX6_keep : MethodName := ⟨RX6, "keep", "(I)I"⟩
abbrev cX6_goBack : ByteArray := prog_8_method_63_code
def yX6_goBack : MethodName := ⟨RX6, "goBack", "(I)I"⟩
def RJ9 : String := "java/lang/Math"
def TJ9 : u_T := fun k => match k with
  | _ => ("", "", "", false)
def tyJ9 : Nat → FieldType := fun k => match k with
  | _ => .int
abbrev wsJ90 : List Cond := u_ws RJ9 TJ9 0
theorem nmJ9 : ∀ a, a < 0 → ∀ b, b < 0 → a ≠ b → (TJ9 a).2.1 ≠ (TJ9 b).2.1 := by decide +kernel
theorem tyJ9_ok : ∀ k, k < 0 → parseFieldDescriptor (TJ9 k).2.2.1 = some (tyJ9 k) := by decide +kernel
abbrev cJ9_floorDiv_f86c9 : ByteArray := prog_9_method_49_code
def yJ9_floorDiv_f86c9 : MethodName := ⟨RJ9, "floorDiv", "(JJ)J"⟩
abbrev cJ9_floorMod_f86c9 : ByteArray := prog_9_method_52_code
def yJ9_floorMod_f86c9 : MethodName := ⟨RJ9, "floorMod", "(JJ)J"⟩
abbrev cJ9_abs_067f4 : ByteArray := prog_9_method_61_code
def yJ9_abs_067f4 : MethodName := ⟨RJ9, "abs", "(J)J"⟩
abbrev cJ9_max_7cf53 : ByteArray := prog_9_method_65_code
def yJ9_max_7cf53 : MethodName := ⟨RJ9, "max", "(II)I"⟩
abbrev cJ9_max_f86c9 : ByteArray := prog_9_method_66_code
def yJ9_max_f86c9 : MethodName := ⟨RJ9, "max", "(JJ)J"⟩
abbrev cJ9_min_7cf53 : ByteArray := prog_9_method_69_code
def yJ9_min_7cf53 : MethodName := ⟨RJ9, "min", "(II)I"⟩
def RJ10 : String := "java/lang/System"
def TJ10 : u_T := fun k => match k with
  | _ => ("", "", "", false)
def tyJ10 : Nat → FieldType := fun k => match k with
  | _ => .int
abbrev wsJ100 : List Cond := u_ws RJ10 TJ10 0
theorem nmJ10 : ∀ a, a < 0 → ∀ b, b < 0 → a ≠ b → (TJ10 a).2.1 ≠ (TJ10 b).2.1 := by decide +kernel
theorem tyJ10_ok : ∀ k, k < 0 → parseFieldDescriptor (TJ10 k).2.2.1 = some (tyJ10 k) := by decide +kernel
def RL : String := "EvenWhiteLaw"
abbrev cL_law : ByteArray := code
def yL_law : MethodName := ⟨RL, "law", "([I)Z"⟩
def wsX0_init : List Cond := .code yX0_init cX0_init 2 none :: ([.methodLink RX0 3 objectInit, .instanceMethod objectInit, .code objectInit ⟨#[0xb1]⟩ 1 none, .fieldLink RX0 9 "EvenWhite$Even" "fount" "LEvenWhite$Fount;", .classLink RX0 15 "[[J", .arrayClass .long, .fieldLink RX0 17 "EvenWhite$Even" "rows" "[[J", .arrayClass .boolean, .fieldLink RX0 20 "EvenWhite$Even" "open" "[Z", .fieldLink RX0 24 "EvenWhite$Even" "eightfold" "[J", .fieldLink RX0 28 "EvenWhite$Even" "below" "J", .fieldLink RX0 32 "EvenWhite$Even" "whole" "[J", .fieldLink RX0 35 "EvenWhite$Even" "rest" "[J"] ++ wsX00)
def wsX0_forget : List Cond := .code yX0_forget cX0_forget 1 none :: ([.fieldLink RX0 38 "EvenWhite$Even" "found" "Z"] ++ wsX00)
def wsX1_weightOf : List Cond := .code yX1_weightOf cX1_weightOf 3 (some .int) :: ([.fieldLink RX1 25 "EvenWhite$Fount" "weights" "[I"] ++ wsX10)
def wsX1_placeOfBack : List Cond := .code yX1_placeOfBack cX1_placeOfBack 3 (some .int) :: ([])
def wsX1_bareOf : List Cond := .code yX1_bareOf cX1_bareOf 7 (some .int) :: ([.fieldLink RX1 9 "EvenWhite$Fount" "depth" "I", .fieldLink RX1 22 "EvenWhite$Fount" "backs" "[I", .methodLink RX1 56 Lib.Math.min.name, .static Lib.Math.min.name, .initialized "java/lang/Math", .code Lib.Math.min.name Lib.Math.min.code 2 (some .int), .methodLink RX1 49 yX1_placeOfBack, .static yX1_placeOfBack, .initialized RX1, .code yX1_placeOfBack cX1_placeOfBack 3 (some .int)] ++ wsX10)
def wsX0_numberOf : List Cond := .code yX0_numberOf cX0_numberOf 3 (some .int) :: ([.fieldLink RX0 9 "EvenWhite$Even" "fount" "LEvenWhite$Fount;", .fieldLink RX0 51 "EvenWhite$Fount" "many" "I"] ++ wsX00 ++ wsX10)
def wsX0_addPair_r1 : List Cond := [Cond.fieldLink RX0 9 "EvenWhite$Even" "fount" "LEvenWhite$Fount;", Cond.fieldLink RX0 65 "EvenWhite$Fount" "wanted" "I", Cond.fieldLink RX0 17 "EvenWhite$Even" "rows" "[[J", Cond.methodLink RX0 61 yX1_weightOf, Cond.instanceMethod yX1_weightOf, Cond.selects RX1 yX1_weightOf yX1_weightOf, Cond.initialized RX1, Cond.code yX1_weightOf cX1_weightOf 3 (some .int), Cond.fieldLink RX1 25 "EvenWhite$Fount" "weights" "[I", Cond.methodLink RX0 68 yX1_bareOf, Cond.instanceMethod yX1_bareOf, Cond.selects RX1 yX1_bareOf yX1_bareOf, Cond.code yX1_bareOf cX1_bareOf 7 (some .int), Cond.fieldLink RX1 9 "EvenWhite$Fount" "depth" "I", Cond.fieldLink RX1 22 "EvenWhite$Fount" "backs" "[I", Cond.methodLink RX1 56 Lib.Math.min.name, Cond.static Lib.Math.min.name, Cond.initialized "java/lang/Math", Cond.code Lib.Math.min.name Lib.Math.min.code 2 (some .int), Cond.methodLink RX1 49 yX1_placeOfBack, Cond.static yX1_placeOfBack, Cond.code yX1_placeOfBack cX1_placeOfBack 3 (some .int), Cond.methodLink RX0 71 yX0_numberOf, Cond.instanceMethod yX0_numberOf]
def wsX0_addPair_r2 : List Cond := [Cond.selects RX0 yX0_numberOf yX0_numberOf, Cond.initialized RX0, Cond.code yX0_numberOf cX0_numberOf 3 (some .int), Cond.fieldLink RX0 51 "EvenWhite$Fount" "many" "I"]
def wsX0_addPair : List Cond := .code yX0_addPair cX0_addPair 9 none :: ((wsX0_addPair_r1 ++ wsX0_addPair_r2) ++ wsX00 ++ wsX10)
def wsX0_writeRows_r1 : List Cond := [Cond.fieldLink RX0 17 "EvenWhite$Even" "rows" "[[J", Cond.fieldLink RX0 9 "EvenWhite$Even" "fount" "LEvenWhite$Fount;", Cond.fieldLink RX0 51 "EvenWhite$Fount" "many" "I", Cond.methodLink RX0 57 yX0_addPair, Cond.instanceMethod yX0_addPair, Cond.selects RX0 yX0_addPair yX0_addPair, Cond.initialized RX0, Cond.code yX0_addPair cX0_addPair 9 none, Cond.fieldLink RX0 65 "EvenWhite$Fount" "wanted" "I", Cond.methodLink RX0 61 yX1_weightOf, Cond.instanceMethod yX1_weightOf, Cond.selects RX1 yX1_weightOf yX1_weightOf, Cond.initialized RX1, Cond.code yX1_weightOf cX1_weightOf 3 (some .int), Cond.fieldLink RX1 25 "EvenWhite$Fount" "weights" "[I", Cond.methodLink RX0 68 yX1_bareOf, Cond.instanceMethod yX1_bareOf, Cond.selects RX1 yX1_bareOf yX1_bareOf, Cond.code yX1_bareOf cX1_bareOf 7 (some .int), Cond.fieldLink RX1 9 "EvenWhite$Fount" "depth" "I", Cond.fieldLink RX1 22 "EvenWhite$Fount" "backs" "[I", Cond.methodLink RX1 56 Lib.Math.min.name, Cond.static Lib.Math.min.name, Cond.initialized "java/lang/Math"]
def wsX0_writeRows_r2 : List Cond := [Cond.code Lib.Math.min.name Lib.Math.min.code 2 (some .int), Cond.methodLink RX1 49 yX1_placeOfBack, Cond.static yX1_placeOfBack, Cond.code yX1_placeOfBack cX1_placeOfBack 3 (some .int), Cond.methodLink RX0 71 yX0_numberOf, Cond.instanceMethod yX0_numberOf, Cond.selects RX0 yX0_numberOf yX0_numberOf, Cond.code yX0_numberOf cX0_numberOf 3 (some .int)]
def wsX0_writeRows : List Cond := .code yX0_writeRows cX0_writeRows 3 none :: ((wsX0_writeRows_r1 ++ wsX0_writeRows_r2) ++ wsX00 ++ wsX10)
def wsX0_spaces : List Cond := .code yX0_spaces cX0_spaces 1 (some .int) :: ([.fieldLink RX0 9 "EvenWhite$Even" "fount" "LEvenWhite$Fount;", .fieldLink RX0 51 "EvenWhite$Fount" "many" "I"] ++ wsX00 ++ wsX10)
def wsX0_clearColumn : List Cond := .code yX0_clearColumn cX0_clearColumn 10 none :: ([.fieldLink RX0 17 "EvenWhite$Even" "rows" "[[J", .fieldLink RX0 28 "EvenWhite$Even" "below" "J", .methodLink RX0 82 Lib.MathLoose.max_long.x, .static Lib.MathLoose.max_long.x, .initialized "java/lang/Math", .code Lib.MathLoose.max_long.x Lib.MathLoose.max_long.code 4 (some .long), .methodLink RX0 74 yX0_spaces, .instanceMethod yX0_spaces, .selects RX0 yX0_spaces yX0_spaces, .initialized RX0, .code yX0_spaces cX0_spaces 1 (some .int), .fieldLink RX0 9 "EvenWhite$Even" "fount" "LEvenWhite$Fount;", .fieldLink RX0 51 "EvenWhite$Fount" "many" "I"] ++ wsX00 ++ wsX10)
def wsX0_solveRows : List Cond := .code yX0_solveRows cX0_solveRows 2 none :: ([.fieldLink RX0 28 "EvenWhite$Even" "below" "J", .fieldLink RX0 20 "EvenWhite$Even" "open" "[Z", .fieldLink RX0 17 "EvenWhite$Even" "rows" "[[J", .fieldLink RX0 24 "EvenWhite$Even" "eightfold" "[J", .methodLink RX0 74 yX0_spaces, .instanceMethod yX0_spaces, .selects RX0 yX0_spaces yX0_spaces, .initialized RX0, .code yX0_spaces cX0_spaces 1 (some .int), .fieldLink RX0 9 "EvenWhite$Even" "fount" "LEvenWhite$Fount;", .fieldLink RX0 51 "EvenWhite$Fount" "many" "I", .methodLink RX0 78 yX0_clearColumn, .instanceMethod yX0_clearColumn, .selects RX0 yX0_clearColumn yX0_clearColumn, .code yX0_clearColumn cX0_clearColumn 10 none, .methodLink RX0 82 Lib.MathLoose.max_long.x, .static Lib.MathLoose.max_long.x, .initialized "java/lang/Math", .code Lib.MathLoose.max_long.x Lib.MathLoose.max_long.code 4 (some .long)] ++ wsX00 ++ wsX10)
def wsJ9_floorDiv_f86c9 : List Cond := .code yJ9_floorDiv_f86c9 cJ9_floorDiv_f86c9 6 (some .long) :: ([])
def wsJ9_floorMod_f86c9 : List Cond := .code yJ9_floorMod_f86c9 cJ9_floorMod_f86c9 6 (some .long) :: ([])
def wsX0_firstOfGreatestRest : List Cond := .code yX0_firstOfGreatestRest cX0_firstOfGreatestRest 3 (some .int) :: ([.fieldLink RX0 35 "EvenWhite$Even" "rest" "[J", .methodLink RX0 74 yX0_spaces, .instanceMethod yX0_spaces, .selects RX0 yX0_spaces yX0_spaces, .initialized RX0, .code yX0_spaces cX0_spaces 1 (some .int), .fieldLink RX0 9 "EvenWhite$Even" "fount" "LEvenWhite$Fount;", .fieldLink RX0 51 "EvenWhite$Fount" "many" "I"] ++ wsX00 ++ wsX10)
def wsX0_makeWhole_r1 : List Cond := [Cond.constantLong RX0 88 (8), Cond.fieldLink RX0 28 "EvenWhite$Even" "below" "J", Cond.methodLink RX0 82 Lib.MathLoose.max_long.x, Cond.static Lib.MathLoose.max_long.x, Cond.initialized "java/lang/Math", Cond.code Lib.MathLoose.max_long.x Lib.MathLoose.max_long.code 4 (some .long), Cond.fieldLink RX0 32 "EvenWhite$Even" "whole" "[J", Cond.fieldLink RX0 24 "EvenWhite$Even" "eightfold" "[J", Cond.fieldLink RX0 35 "EvenWhite$Even" "rest" "[J", Cond.constantLong RX0 96 (2), Cond.constantLong RX0 101 (-1), Cond.methodLink RX0 74 yX0_spaces, Cond.instanceMethod yX0_spaces, Cond.selects RX0 yX0_spaces yX0_spaces, Cond.initialized RX0, Cond.code yX0_spaces cX0_spaces 1 (some .int), Cond.fieldLink RX0 9 "EvenWhite$Even" "fount" "LEvenWhite$Fount;", Cond.fieldLink RX0 51 "EvenWhite$Fount" "many" "I", Cond.methodLink RX0 90 yJ9_floorDiv_f86c9, Cond.static yJ9_floorDiv_f86c9, Cond.initialized RJ9, Cond.code yJ9_floorDiv_f86c9 cJ9_floorDiv_f86c9 6 (some .long), Cond.methodLink RX0 93 yJ9_floorMod_f86c9, Cond.static yJ9_floorMod_f86c9]
def wsX0_makeWhole_r2 : List Cond := [Cond.code yJ9_floorMod_f86c9 cJ9_floorMod_f86c9 6 (some .long), Cond.methodLink RX0 98 yX0_firstOfGreatestRest, Cond.instanceMethod yX0_firstOfGreatestRest, Cond.selects RX0 yX0_firstOfGreatestRest yX0_firstOfGreatestRest, Cond.code yX0_firstOfGreatestRest cX0_firstOfGreatestRest 3 (some .int)]
def wsX0_makeWhole : List Cond := .code yX0_makeWhole cX0_makeWhole 11 none :: ((wsX0_makeWhole_r1 ++ wsX0_makeWhole_r2) ++ wsX00 ++ wsX10)
def wsX0_find_r1 : List Cond := [Cond.fieldLink RX0 38 "EvenWhite$Even" "found" "Z", Cond.methodLink RX0 42 yX0_writeRows, Cond.instanceMethod yX0_writeRows, Cond.selects RX0 yX0_writeRows yX0_writeRows, Cond.initialized RX0, Cond.code yX0_writeRows cX0_writeRows 3 none, Cond.fieldLink RX0 17 "EvenWhite$Even" "rows" "[[J", Cond.fieldLink RX0 9 "EvenWhite$Even" "fount" "LEvenWhite$Fount;", Cond.fieldLink RX0 51 "EvenWhite$Fount" "many" "I", Cond.methodLink RX0 57 yX0_addPair, Cond.instanceMethod yX0_addPair, Cond.selects RX0 yX0_addPair yX0_addPair, Cond.code yX0_addPair cX0_addPair 9 none, Cond.fieldLink RX0 65 "EvenWhite$Fount" "wanted" "I", Cond.methodLink RX0 61 yX1_weightOf, Cond.instanceMethod yX1_weightOf, Cond.selects RX1 yX1_weightOf yX1_weightOf, Cond.initialized RX1, Cond.code yX1_weightOf cX1_weightOf 3 (some .int), Cond.fieldLink RX1 25 "EvenWhite$Fount" "weights" "[I", Cond.methodLink RX0 68 yX1_bareOf, Cond.instanceMethod yX1_bareOf, Cond.selects RX1 yX1_bareOf yX1_bareOf, Cond.code yX1_bareOf cX1_bareOf 7 (some .int)]
def wsX0_find_r2 : List Cond := [Cond.fieldLink RX1 9 "EvenWhite$Fount" "depth" "I", Cond.fieldLink RX1 22 "EvenWhite$Fount" "backs" "[I", Cond.methodLink RX1 56 Lib.Math.min.name, Cond.static Lib.Math.min.name, Cond.initialized "java/lang/Math", Cond.code Lib.Math.min.name Lib.Math.min.code 2 (some .int), Cond.methodLink RX1 49 yX1_placeOfBack, Cond.static yX1_placeOfBack, Cond.code yX1_placeOfBack cX1_placeOfBack 3 (some .int), Cond.methodLink RX0 71 yX0_numberOf, Cond.instanceMethod yX0_numberOf, Cond.selects RX0 yX0_numberOf yX0_numberOf, Cond.code yX0_numberOf cX0_numberOf 3 (some .int), Cond.methodLink RX0 45 yX0_solveRows, Cond.instanceMethod yX0_solveRows, Cond.selects RX0 yX0_solveRows yX0_solveRows, Cond.code yX0_solveRows cX0_solveRows 2 none, Cond.fieldLink RX0 28 "EvenWhite$Even" "below" "J", Cond.fieldLink RX0 20 "EvenWhite$Even" "open" "[Z", Cond.fieldLink RX0 24 "EvenWhite$Even" "eightfold" "[J", Cond.methodLink RX0 74 yX0_spaces, Cond.instanceMethod yX0_spaces, Cond.selects RX0 yX0_spaces yX0_spaces, Cond.code yX0_spaces cX0_spaces 1 (some .int)]
def wsX0_find_r3 : List Cond := [Cond.methodLink RX0 78 yX0_clearColumn, Cond.instanceMethod yX0_clearColumn, Cond.selects RX0 yX0_clearColumn yX0_clearColumn, Cond.code yX0_clearColumn cX0_clearColumn 10 none, Cond.methodLink RX0 82 Lib.MathLoose.max_long.x, Cond.static Lib.MathLoose.max_long.x, Cond.code Lib.MathLoose.max_long.x Lib.MathLoose.max_long.code 4 (some .long), Cond.methodLink RX0 48 yX0_makeWhole, Cond.instanceMethod yX0_makeWhole, Cond.selects RX0 yX0_makeWhole yX0_makeWhole, Cond.code yX0_makeWhole cX0_makeWhole 11 none, Cond.constantLong RX0 88 (8), Cond.fieldLink RX0 32 "EvenWhite$Even" "whole" "[J", Cond.fieldLink RX0 35 "EvenWhite$Even" "rest" "[J", Cond.constantLong RX0 96 (2), Cond.constantLong RX0 101 (-1), Cond.methodLink RX0 90 yJ9_floorDiv_f86c9, Cond.static yJ9_floorDiv_f86c9, Cond.initialized RJ9, Cond.code yJ9_floorDiv_f86c9 cJ9_floorDiv_f86c9 6 (some .long), Cond.methodLink RX0 93 yJ9_floorMod_f86c9, Cond.static yJ9_floorMod_f86c9, Cond.code yJ9_floorMod_f86c9 cJ9_floorMod_f86c9 6 (some .long), Cond.methodLink RX0 98 yX0_firstOfGreatestRest]
def wsX0_find_r4 : List Cond := [Cond.instanceMethod yX0_firstOfGreatestRest, Cond.selects RX0 yX0_firstOfGreatestRest yX0_firstOfGreatestRest, Cond.code yX0_firstOfGreatestRest cX0_firstOfGreatestRest 3 (some .int)]
def wsX0_find : List Cond := .code yX0_find cX0_find 1 none :: ((wsX0_find_r1 ++ (wsX0_find_r2 ++ (wsX0_find_r3 ++ wsX0_find_r4))) ++ wsX00 ++ wsX10)
def wsX0_isOpen : List Cond := .code yX0_isOpen cX0_isOpen 3 (some .boolean) :: ([.fieldLink RX0 20 "EvenWhite$Even" "open" "[Z", .methodLink RX0 71 yX0_numberOf, .instanceMethod yX0_numberOf, .selects RX0 yX0_numberOf yX0_numberOf, .initialized RX0, .code yX0_numberOf cX0_numberOf 3 (some .int), .fieldLink RX0 9 "EvenWhite$Even" "fount" "LEvenWhite$Fount;", .fieldLink RX0 51 "EvenWhite$Fount" "many" "I"] ++ wsX00 ++ wsX10)
def wsX0_openSpaces : List Cond := .code yX0_openSpaces cX0_openSpaces 3 (some .int) :: ([.fieldLink RX0 20 "EvenWhite$Even" "open" "[Z", .methodLink RX0 74 yX0_spaces, .instanceMethod yX0_spaces, .selects RX0 yX0_spaces yX0_spaces, .initialized RX0, .code yX0_spaces cX0_spaces 1 (some .int), .fieldLink RX0 9 "EvenWhite$Even" "fount" "LEvenWhite$Fount;", .fieldLink RX0 51 "EvenWhite$Fount" "many" "I"] ++ wsX00 ++ wsX10)
def wsX0_spaceAbove : List Cond := .code yX0_spaceAbove cX0_spaceAbove 3 (some .long) :: ([.fieldLink RX0 24 "EvenWhite$Even" "eightfold" "[J", .methodLink RX0 71 yX0_numberOf, .instanceMethod yX0_numberOf, .selects RX0 yX0_numberOf yX0_numberOf, .initialized RX0, .code yX0_numberOf cX0_numberOf 3 (some .int), .fieldLink RX0 9 "EvenWhite$Even" "fount" "LEvenWhite$Fount;", .fieldLink RX0 51 "EvenWhite$Fount" "many" "I"] ++ wsX00 ++ wsX10)
def wsX0_spaceBelow : List Cond := .code yX0_spaceBelow cX0_spaceBelow 1 (some .long) :: ([.constantLong RX0 88 (8), .fieldLink RX0 28 "EvenWhite$Even" "below" "J"] ++ wsX00)
def wsX0_wholeSpace : List Cond := .code yX0_wholeSpace cX0_wholeSpace 3 (some .long) :: ([.fieldLink RX0 32 "EvenWhite$Even" "whole" "[J", .methodLink RX0 71 yX0_numberOf, .instanceMethod yX0_numberOf, .selects RX0 yX0_numberOf yX0_numberOf, .initialized RX0, .code yX0_numberOf cX0_numberOf 3 (some .int), .fieldLink RX0 9 "EvenWhite$Even" "fount" "LEvenWhite$Fount;", .fieldLink RX0 51 "EvenWhite$Fount" "many" "I"] ++ wsX00 ++ wsX10)
def wsX0_whiteAbove_r1 : List Cond := [Cond.fieldLink RX0 9 "EvenWhite$Even" "fount" "LEvenWhite$Fount;", Cond.fieldLink RX0 28 "EvenWhite$Even" "below" "J", Cond.methodLink RX0 103 yX0_spaceAbove, Cond.instanceMethod yX0_spaceAbove, Cond.selects RX0 yX0_spaceAbove yX0_spaceAbove, Cond.initialized RX0, Cond.code yX0_spaceAbove cX0_spaceAbove 3 (some .long), Cond.fieldLink RX0 24 "EvenWhite$Even" "eightfold" "[J", Cond.methodLink RX0 71 yX0_numberOf, Cond.instanceMethod yX0_numberOf, Cond.selects RX0 yX0_numberOf yX0_numberOf, Cond.code yX0_numberOf cX0_numberOf 3 (some .int), Cond.fieldLink RX0 51 "EvenWhite$Fount" "many" "I", Cond.methodLink RX0 68 yX1_bareOf, Cond.instanceMethod yX1_bareOf, Cond.selects RX1 yX1_bareOf yX1_bareOf, Cond.initialized RX1, Cond.code yX1_bareOf cX1_bareOf 7 (some .int), Cond.fieldLink RX1 9 "EvenWhite$Fount" "depth" "I", Cond.fieldLink RX1 22 "EvenWhite$Fount" "backs" "[I", Cond.methodLink RX1 56 Lib.Math.min.name, Cond.static Lib.Math.min.name, Cond.initialized "java/lang/Math", Cond.code Lib.Math.min.name Lib.Math.min.code 2 (some .int)]
def wsX0_whiteAbove_r2 : List Cond := [Cond.methodLink RX1 49 yX1_placeOfBack, Cond.static yX1_placeOfBack, Cond.code yX1_placeOfBack cX1_placeOfBack 3 (some .int)]
def wsX0_whiteAbove : List Cond := .code yX0_whiteAbove cX0_whiteAbove 3 (some .long) :: ((wsX0_whiteAbove_r1 ++ wsX0_whiteAbove_r2) ++ wsX00 ++ wsX10)
def wsX0_whiteBelow : List Cond := .code yX0_whiteBelow cX0_whiteBelow 1 (some .long) :: ([.fieldLink RX0 28 "EvenWhite$Even" "below" "J"] ++ wsX00)
def wsX0_leftOverAbove_r1 : List Cond := [Cond.fieldLink RX0 9 "EvenWhite$Even" "fount" "LEvenWhite$Fount;", Cond.fieldLink RX0 65 "EvenWhite$Fount" "wanted" "I", Cond.fieldLink RX0 28 "EvenWhite$Even" "below" "J", Cond.methodLink RX0 107 yX0_whiteAbove, Cond.instanceMethod yX0_whiteAbove, Cond.selects RX0 yX0_whiteAbove yX0_whiteAbove, Cond.initialized RX0, Cond.code yX0_whiteAbove cX0_whiteAbove 3 (some .long), Cond.methodLink RX0 103 yX0_spaceAbove, Cond.instanceMethod yX0_spaceAbove, Cond.selects RX0 yX0_spaceAbove yX0_spaceAbove, Cond.code yX0_spaceAbove cX0_spaceAbove 3 (some .long), Cond.fieldLink RX0 24 "EvenWhite$Even" "eightfold" "[J", Cond.methodLink RX0 71 yX0_numberOf, Cond.instanceMethod yX0_numberOf, Cond.selects RX0 yX0_numberOf yX0_numberOf, Cond.code yX0_numberOf cX0_numberOf 3 (some .int), Cond.fieldLink RX0 51 "EvenWhite$Fount" "many" "I", Cond.methodLink RX0 68 yX1_bareOf, Cond.instanceMethod yX1_bareOf, Cond.selects RX1 yX1_bareOf yX1_bareOf, Cond.initialized RX1, Cond.code yX1_bareOf cX1_bareOf 7 (some .int), Cond.fieldLink RX1 9 "EvenWhite$Fount" "depth" "I"]
def wsX0_leftOverAbove_r2 : List Cond := [Cond.fieldLink RX1 22 "EvenWhite$Fount" "backs" "[I", Cond.methodLink RX1 56 Lib.Math.min.name, Cond.static Lib.Math.min.name, Cond.initialized "java/lang/Math", Cond.code Lib.Math.min.name Lib.Math.min.code 2 (some .int), Cond.methodLink RX1 49 yX1_placeOfBack, Cond.static yX1_placeOfBack, Cond.code yX1_placeOfBack cX1_placeOfBack 3 (some .int)]
def wsX0_leftOverAbove : List Cond := .code yX0_leftOverAbove cX0_leftOverAbove 3 (some .long) :: ((wsX0_leftOverAbove_r1 ++ wsX0_leftOverAbove_r2) ++ wsX00 ++ wsX10)
def wsX0_squaresAbove_r1 : List Cond := [Cond.fieldLink RX0 9 "EvenWhite$Even" "fount" "LEvenWhite$Fount;", Cond.fieldLink RX0 51 "EvenWhite$Fount" "many" "I", Cond.methodLink RX0 110 yX0_leftOverAbove, Cond.instanceMethod yX0_leftOverAbove, Cond.selects RX0 yX0_leftOverAbove yX0_leftOverAbove, Cond.initialized RX0, Cond.code yX0_leftOverAbove cX0_leftOverAbove 3 (some .long), Cond.fieldLink RX0 65 "EvenWhite$Fount" "wanted" "I", Cond.fieldLink RX0 28 "EvenWhite$Even" "below" "J", Cond.methodLink RX0 107 yX0_whiteAbove, Cond.instanceMethod yX0_whiteAbove, Cond.selects RX0 yX0_whiteAbove yX0_whiteAbove, Cond.code yX0_whiteAbove cX0_whiteAbove 3 (some .long), Cond.methodLink RX0 103 yX0_spaceAbove, Cond.instanceMethod yX0_spaceAbove, Cond.selects RX0 yX0_spaceAbove yX0_spaceAbove, Cond.code yX0_spaceAbove cX0_spaceAbove 3 (some .long), Cond.fieldLink RX0 24 "EvenWhite$Even" "eightfold" "[J", Cond.methodLink RX0 71 yX0_numberOf, Cond.instanceMethod yX0_numberOf, Cond.selects RX0 yX0_numberOf yX0_numberOf, Cond.code yX0_numberOf cX0_numberOf 3 (some .int), Cond.methodLink RX0 68 yX1_bareOf, Cond.instanceMethod yX1_bareOf]
def wsX0_squaresAbove_r2 : List Cond := [Cond.selects RX1 yX1_bareOf yX1_bareOf, Cond.initialized RX1, Cond.code yX1_bareOf cX1_bareOf 7 (some .int), Cond.fieldLink RX1 9 "EvenWhite$Fount" "depth" "I", Cond.fieldLink RX1 22 "EvenWhite$Fount" "backs" "[I", Cond.methodLink RX1 56 Lib.Math.min.name, Cond.static Lib.Math.min.name, Cond.initialized "java/lang/Math", Cond.code Lib.Math.min.name Lib.Math.min.code 2 (some .int), Cond.methodLink RX1 49 yX1_placeOfBack, Cond.static yX1_placeOfBack, Cond.code yX1_placeOfBack cX1_placeOfBack 3 (some .int), Cond.methodLink RX0 61 yX1_weightOf, Cond.instanceMethod yX1_weightOf, Cond.selects RX1 yX1_weightOf yX1_weightOf, Cond.code yX1_weightOf cX1_weightOf 3 (some .int), Cond.fieldLink RX1 25 "EvenWhite$Fount" "weights" "[I"]
def wsX0_squaresAbove : List Cond := .code yX0_squaresAbove cX0_squaresAbove 7 (some .long) :: ((wsX0_squaresAbove_r1 ++ wsX0_squaresAbove_r2) ++ wsX00 ++ wsX10)
def wsX0_squaresBelow : List Cond := .code yX0_squaresBelow cX0_squaresBelow 1 (some .long) :: ([.fieldLink RX0 28 "EvenWhite$Even" "below" "J"] ++ wsX00)
def wsX0_worst_r1 : List Cond := [Cond.constantLong RX0 101 (-1), Cond.fieldLink RX0 9 "EvenWhite$Even" "fount" "LEvenWhite$Fount;", Cond.fieldLink RX0 51 "EvenWhite$Fount" "many" "I", Cond.methodLink RX0 113 Lib.MathLoose.abs_long.x, Cond.static Lib.MathLoose.abs_long.x, Cond.initialized "java/lang/Math", Cond.code Lib.MathLoose.abs_long.x Lib.MathLoose.abs_long.code 2 (some .long), Cond.methodLink RX0 110 yX0_leftOverAbove, Cond.instanceMethod yX0_leftOverAbove, Cond.selects RX0 yX0_leftOverAbove yX0_leftOverAbove, Cond.initialized RX0, Cond.code yX0_leftOverAbove cX0_leftOverAbove 3 (some .long), Cond.fieldLink RX0 65 "EvenWhite$Fount" "wanted" "I", Cond.fieldLink RX0 28 "EvenWhite$Even" "below" "J", Cond.methodLink RX0 107 yX0_whiteAbove, Cond.instanceMethod yX0_whiteAbove, Cond.selects RX0 yX0_whiteAbove yX0_whiteAbove, Cond.code yX0_whiteAbove cX0_whiteAbove 3 (some .long), Cond.methodLink RX0 103 yX0_spaceAbove, Cond.instanceMethod yX0_spaceAbove, Cond.selects RX0 yX0_spaceAbove yX0_spaceAbove, Cond.code yX0_spaceAbove cX0_spaceAbove 3 (some .long), Cond.fieldLink RX0 24 "EvenWhite$Even" "eightfold" "[J", Cond.methodLink RX0 71 yX0_numberOf]
def wsX0_worst_r2 : List Cond := [Cond.instanceMethod yX0_numberOf, Cond.selects RX0 yX0_numberOf yX0_numberOf, Cond.code yX0_numberOf cX0_numberOf 3 (some .int), Cond.methodLink RX0 68 yX1_bareOf, Cond.instanceMethod yX1_bareOf, Cond.selects RX1 yX1_bareOf yX1_bareOf, Cond.initialized RX1, Cond.code yX1_bareOf cX1_bareOf 7 (some .int), Cond.fieldLink RX1 9 "EvenWhite$Fount" "depth" "I", Cond.fieldLink RX1 22 "EvenWhite$Fount" "backs" "[I", Cond.methodLink RX1 56 Lib.Math.min.name, Cond.static Lib.Math.min.name, Cond.code Lib.Math.min.name Lib.Math.min.code 2 (some .int), Cond.methodLink RX1 49 yX1_placeOfBack, Cond.static yX1_placeOfBack, Cond.code yX1_placeOfBack cX1_placeOfBack 3 (some .int), Cond.methodLink RX0 61 yX1_weightOf, Cond.instanceMethod yX1_weightOf, Cond.selects RX1 yX1_weightOf yX1_weightOf, Cond.code yX1_weightOf cX1_weightOf 3 (some .int), Cond.fieldLink RX1 25 "EvenWhite$Fount" "weights" "[I"]
def wsX0_worst : List Cond := .code yX0_worst cX0_worst 8 (some .int) :: ((wsX0_worst_r1 ++ wsX0_worst_r2) ++ wsX00 ++ wsX10)
def wsX1_startAnew : List Cond := .code yX1_startAnew cX1_startAnew 3 none :: ([.fieldLink RX1 32 "EvenWhite$Fount" "many" "I", .fieldLink RX1 18 "EvenWhite$Fount" "bodies" "[I", .fieldLink RX1 22 "EvenWhite$Fount" "backs" "[I", .fieldLink RX1 25 "EvenWhite$Fount" "weights" "[I"] ++ wsX10)
def wsX1_init : List Cond := .code yX1_init cX1_init 1 none :: ([.methodLink RX1 3 objectInit, .instanceMethod objectInit, .code objectInit ⟨#[0xb1]⟩ 1 none, .fieldLink RX1 9 "EvenWhite$Fount" "depth" "I", .fieldLink RX1 15 "EvenWhite$Fount" "wanted" "I", .arrayClass .int, .fieldLink RX1 18 "EvenWhite$Fount" "bodies" "[I", .fieldLink RX1 22 "EvenWhite$Fount" "backs" "[I", .fieldLink RX1 25 "EvenWhite$Fount" "weights" "[I", .methodLink RX1 28 yX1_startAnew, .instanceMethod yX1_startAnew, .selects RX1 yX1_startAnew yX1_startAnew, .initialized RX1, .code yX1_startAnew cX1_startAnew 3 none, .fieldLink RX1 32 "EvenWhite$Fount" "many" "I"] ++ wsX10)
def wsX1_takeAll : List Cond := .code yX1_takeAll cX1_takeAll 2 none :: ([.fieldLink RX1 32 "EvenWhite$Fount" "many" "I", .fieldLink RX1 9 "EvenWhite$Fount" "depth" "I", .fieldLink RX1 15 "EvenWhite$Fount" "wanted" "I", .fieldLink RX1 18 "EvenWhite$Fount" "bodies" "[I", .methodLink RX1 35 arraycopyName, .native arraycopyName, .static arraycopyName, .initialized "java/lang/System", .fieldLink RX1 22 "EvenWhite$Fount" "backs" "[I", .fieldLink RX1 25 "EvenWhite$Fount" "weights" "[I"] ++ wsX10)
def wsX5_within : List Cond := .code yX5_within cX5_within 3 (some .boolean) :: ([])
def wsX1_hasLetter : List Cond := .code yX1_hasLetter cX1_hasLetter 2 (some .boolean) :: ([.fieldLink RX1 32 "EvenWhite$Fount" "many" "I", .static yX5_within, .initialized RX5, .code yX5_within cX5_within 3 (some .boolean)] ++ wsX10)
def wsX1_hasPair : List Cond := .code yX1_hasPair cX1_hasPair 3 (some .boolean) :: ([.methodLink RX1 45 yX1_hasLetter, .instanceMethod yX1_hasLetter, .selects RX1 yX1_hasLetter yX1_hasLetter, .initialized RX1, .code yX1_hasLetter cX1_hasLetter 2 (some .boolean), .fieldLink RX1 32 "EvenWhite$Fount" "many" "I", .static yX5_within, .initialized RX5, .code yX5_within cX5_within 3 (some .boolean)] ++ wsX10)
def wsX1_backOf : List Cond := .code yX1_backOf cX1_backOf 4 (some .int) :: ([.fieldLink RX1 22 "EvenWhite$Fount" "backs" "[I", .methodLink RX1 49 yX1_placeOfBack, .static yX1_placeOfBack, .initialized RX1, .code yX1_placeOfBack cX1_placeOfBack 3 (some .int)] ++ wsX10)
def wsX1_putBack : List Cond := .code yX1_putBack cX1_putBack 5 none :: ([.fieldLink RX1 22 "EvenWhite$Fount" "backs" "[I", .methodLink RX1 49 yX1_placeOfBack, .static yX1_placeOfBack, .initialized RX1, .code yX1_placeOfBack cX1_placeOfBack 3 (some .int)] ++ wsX10)
def wsX1_putWeight : List Cond := .code yX1_putWeight cX1_putWeight 4 none :: ([.fieldLink RX1 25 "EvenWhite$Fount" "weights" "[I"] ++ wsX10)
def wsX1_pairsWithWeight : List Cond := .code yX1_pairsWithWeight cX1_pairsWithWeight 3 (some .int) :: ([.fieldLink RX1 25 "EvenWhite$Fount" "weights" "[I"] ++ wsX10)
def wsX1_sumOfSide : List Cond := .code yX1_sumOfSide cX1_sumOfSide 5 (some .int) :: ([.methodLink RX1 53 yX1_backOf, .instanceMethod yX1_backOf, .selects RX1 yX1_backOf yX1_backOf, .initialized RX1, .code yX1_backOf cX1_backOf 4 (some .int), .fieldLink RX1 22 "EvenWhite$Fount" "backs" "[I", .methodLink RX1 49 yX1_placeOfBack, .static yX1_placeOfBack, .code yX1_placeOfBack cX1_placeOfBack 3 (some .int)] ++ wsX10)
def wsX1_bareOfAll : List Cond := .code yX1_bareOfAll cX1_bareOfAll 4 (some .int) :: ([.fieldLink RX1 32 "EvenWhite$Fount" "many" "I", .methodLink RX1 62 yX1_bareOf, .instanceMethod yX1_bareOf, .selects RX1 yX1_bareOf yX1_bareOf, .initialized RX1, .code yX1_bareOf cX1_bareOf 7 (some .int), .fieldLink RX1 9 "EvenWhite$Fount" "depth" "I", .fieldLink RX1 22 "EvenWhite$Fount" "backs" "[I", .methodLink RX1 56 Lib.Math.min.name, .static Lib.Math.min.name, .initialized "java/lang/Math", .code Lib.Math.min.name Lib.Math.min.code 2 (some .int), .methodLink RX1 49 yX1_placeOfBack, .static yX1_placeOfBack, .code yX1_placeOfBack cX1_placeOfBack 3 (some .int)] ++ wsX10)
def wsX1_hasLikeSides : List Cond := .code yX1_hasLikeSides cX1_hasLikeSides 3 (some .boolean) :: ([.methodLink RX1 53 yX1_backOf, .instanceMethod yX1_backOf, .selects RX1 yX1_backOf yX1_backOf, .initialized RX1, .code yX1_backOf cX1_backOf 4 (some .int), .fieldLink RX1 22 "EvenWhite$Fount" "backs" "[I", .methodLink RX1 49 yX1_placeOfBack, .static yX1_placeOfBack, .code yX1_placeOfBack cX1_placeOfBack 3 (some .int)] ++ wsX10)
def wsX1_swapSides : List Cond := .code yX1_swapSides cX1_swapSides 4 none :: ([.methodLink RX1 53 yX1_backOf, .instanceMethod yX1_backOf, .selects RX1 yX1_backOf yX1_backOf, .initialized RX1, .code yX1_backOf cX1_backOf 4 (some .int), .fieldLink RX1 22 "EvenWhite$Fount" "backs" "[I", .methodLink RX1 49 yX1_placeOfBack, .static yX1_placeOfBack, .code yX1_placeOfBack cX1_placeOfBack 3 (some .int), .methodLink RX1 65 yX1_putBack, .instanceMethod yX1_putBack, .selects RX1 yX1_putBack yX1_putBack, .code yX1_putBack cX1_putBack 5 none] ++ wsX10)
def wsX1_turnRound_r1 : List Cond := [Cond.fieldLink RX1 32 "EvenWhite$Fount" "many" "I", Cond.methodLink RX1 69 yX1_swapSides, Cond.instanceMethod yX1_swapSides, Cond.selects RX1 yX1_swapSides yX1_swapSides, Cond.initialized RX1, Cond.code yX1_swapSides cX1_swapSides 4 none, Cond.methodLink RX1 53 yX1_backOf, Cond.instanceMethod yX1_backOf, Cond.selects RX1 yX1_backOf yX1_backOf, Cond.code yX1_backOf cX1_backOf 4 (some .int), Cond.fieldLink RX1 22 "EvenWhite$Fount" "backs" "[I", Cond.methodLink RX1 49 yX1_placeOfBack, Cond.static yX1_placeOfBack, Cond.code yX1_placeOfBack cX1_placeOfBack 3 (some .int), Cond.methodLink RX1 65 yX1_putBack, Cond.instanceMethod yX1_putBack, Cond.selects RX1 yX1_putBack yX1_putBack, Cond.code yX1_putBack cX1_putBack 5 none, Cond.methodLink RX1 72 yX1_weightOf, Cond.instanceMethod yX1_weightOf, Cond.selects RX1 yX1_weightOf yX1_weightOf, Cond.code yX1_weightOf cX1_weightOf 3 (some .int), Cond.fieldLink RX1 25 "EvenWhite$Fount" "weights" "[I", Cond.methodLink RX1 75 yX1_putWeight]
def wsX1_turnRound_r2 : List Cond := [Cond.instanceMethod yX1_putWeight, Cond.selects RX1 yX1_putWeight yX1_putWeight, Cond.code yX1_putWeight cX1_putWeight 4 none]
def wsX1_turnRound : List Cond := .code yX1_turnRound cX1_turnRound 4 none :: ((wsX1_turnRound_r1 ++ wsX1_turnRound_r2) ++ wsX10)
def wsX1_takeLetter : List Cond := .code yX1_takeLetter cX1_takeLetter 7 (some .int) :: ([.fieldLink RX1 18 "EvenWhite$Fount" "bodies" "[I", .methodLink RX1 53 yX1_backOf, .instanceMethod yX1_backOf, .selects RX1 yX1_backOf yX1_backOf, .initialized RX1, .code yX1_backOf cX1_backOf 4 (some .int), .fieldLink RX1 22 "EvenWhite$Fount" "backs" "[I", .methodLink RX1 49 yX1_placeOfBack, .static yX1_placeOfBack, .code yX1_placeOfBack cX1_placeOfBack 3 (some .int), .methodLink RX1 65 yX1_putBack, .instanceMethod yX1_putBack, .selects RX1 yX1_putBack yX1_putBack, .code yX1_putBack cX1_putBack 5 none] ++ wsX10)
def wsX1_nextLot : List Cond := .code yX1_nextLot cX1_nextLot 2 (some .long) :: ([.constantLong RX1 87 (16807), .constantLong RX1 89 (2147483647)])
def wsX1_drawLots : List Cond := .code yX1_drawLots cX1_drawLots 7 none :: ([.fieldLink RX1 32 "EvenWhite$Fount" "many" "I", .constantLong RX1 83 (31), .constantLong RX1 85 (5), .methodLink RX1 79 yX1_nextLot, .static yX1_nextLot, .initialized RX1, .code yX1_nextLot cX1_nextLot 2 (some .long), .constantLong RX1 87 (16807), .constantLong RX1 89 (2147483647), .methodLink RX1 65 yX1_putBack, .instanceMethod yX1_putBack, .selects RX1 yX1_putBack yX1_putBack, .code yX1_putBack cX1_putBack 5 none, .fieldLink RX1 22 "EvenWhite$Fount" "backs" "[I", .methodLink RX1 49 yX1_placeOfBack, .static yX1_placeOfBack, .code yX1_placeOfBack cX1_placeOfBack 3 (some .int), .methodLink RX1 75 yX1_putWeight, .instanceMethod yX1_putWeight, .selects RX1 yX1_putWeight yX1_putWeight, .code yX1_putWeight cX1_putWeight 4 none, .fieldLink RX1 25 "EvenWhite$Fount" "weights" "[I"] ++ wsX10)
def wsX4_init : List Cond := .code yX4_init cX4_init 1 none :: ([.methodLink RX4 3 objectInit, .instanceMethod objectInit, .code objectInit ⟨#[0xb1]⟩ 1 none, .arrayClass .int, .fieldLink RX4 9 "EvenWhite$Text" "signs" "[I"] ++ wsX40)
def wsX2_init : List Cond := .code yX2_init cX2_init 3 none :: ([.methodLink RX2 3 objectInit, .instanceMethod objectInit, .code objectInit ⟨#[0xb1]⟩ 1 none, .arrayClass .int, .fieldLink RX2 9 "EvenWhite$Line" "places" "[I", .fieldLink RX2 15 "EvenWhite$Line" "fount" "LEvenWhite$Fount;", .fieldLink RX2 19 "EvenWhite$Line" "even" "LEvenWhite$Even;", .classLink RX2 23 RX4, .instantiable RX4 2, .initialized RX4, .fieldLink RX2 26 "EvenWhite$Line" "text" "LEvenWhite$Text;", .methodLink RX2 25 yX4_init, .instanceMethod yX4_init, .code yX4_init cX4_init 1 none, .methodLink RX4 3 objectInit, .fieldLink RX4 9 "EvenWhite$Text" "signs" "[I"] ++ wsX20 ++ wsX40)
def wsX2_makeEmpty : List Cond := .code yX2_makeEmpty cX2_makeEmpty 1 none :: ([.fieldLink RX2 30 "EvenWhite$Line" "many" "I"] ++ wsX20)
def wsX2_add : List Cond := .code yX2_add cX2_add 2 none :: ([.fieldLink RX2 30 "EvenWhite$Line" "many" "I", .fieldLink RX2 9 "EvenWhite$Line" "places" "[I"] ++ wsX20)
def wsX2_letterAt : List Cond := .code yX2_letterAt cX2_letterAt 2 (some .int) :: ([.fieldLink RX2 30 "EvenWhite$Line" "many" "I", .fieldLink RX2 9 "EvenWhite$Line" "places" "[I", .static yX5_within, .initialized RX5, .code yX5_within cX5_within 3 (some .boolean)] ++ wsX20)
def wsX2_wideAbove : List Cond := .code yX2_wideAbove cX2_wideAbove 4 (some .long) :: ([.fieldLink RX2 30 "EvenWhite$Line" "many" "I", .fieldLink RX2 15 "EvenWhite$Line" "fount" "LEvenWhite$Fount;", .fieldLink RX2 38 "EvenWhite$Fount" "bodies" "[I", .fieldLink RX2 9 "EvenWhite$Line" "places" "[I", .fieldLink RX2 19 "EvenWhite$Line" "even" "LEvenWhite$Even;", .methodLink RX2 43 yX0_spaceBelow, .instanceMethod yX0_spaceBelow, .selects RX0 yX0_spaceBelow yX0_spaceBelow, .initialized RX0, .code yX0_spaceBelow cX0_spaceBelow 1 (some .long), .constantLong RX0 88 (8), .fieldLink RX0 28 "EvenWhite$Even" "below" "J", .methodLink RX2 49 yX0_spaceAbove, .instanceMethod yX0_spaceAbove, .selects RX0 yX0_spaceAbove yX0_spaceAbove, .code yX0_spaceAbove cX0_spaceAbove 3 (some .long), .fieldLink RX0 24 "EvenWhite$Even" "eightfold" "[J", .methodLink RX0 71 yX0_numberOf, .instanceMethod yX0_numberOf, .selects RX0 yX0_numberOf yX0_numberOf, .code yX0_numberOf cX0_numberOf 3 (some .int), .fieldLink RX0 9 "EvenWhite$Even" "fount" "LEvenWhite$Fount;", .fieldLink RX0 51 "EvenWhite$Fount" "many" "I"] ++ wsX20 ++ wsX10 ++ wsX00)
def wsX2_thin_r1 : List Cond := [Cond.fieldLink RX2 30 "EvenWhite$Line" "many" "I", Cond.fieldLink RX2 19 "EvenWhite$Line" "even" "LEvenWhite$Even;", Cond.fieldLink RX2 9 "EvenWhite$Line" "places" "[I", Cond.methodLink RX2 53 yX0_whiteAbove, Cond.instanceMethod yX0_whiteAbove, Cond.selects RX0 yX0_whiteAbove yX0_whiteAbove, Cond.initialized RX0, Cond.code yX0_whiteAbove cX0_whiteAbove 3 (some .long), Cond.fieldLink RX0 9 "EvenWhite$Even" "fount" "LEvenWhite$Fount;", Cond.fieldLink RX0 28 "EvenWhite$Even" "below" "J", Cond.methodLink RX0 103 yX0_spaceAbove, Cond.instanceMethod yX0_spaceAbove, Cond.selects RX0 yX0_spaceAbove yX0_spaceAbove, Cond.code yX0_spaceAbove cX0_spaceAbove 3 (some .long), Cond.fieldLink RX0 24 "EvenWhite$Even" "eightfold" "[J", Cond.methodLink RX0 71 yX0_numberOf, Cond.instanceMethod yX0_numberOf, Cond.selects RX0 yX0_numberOf yX0_numberOf, Cond.code yX0_numberOf cX0_numberOf 3 (some .int), Cond.fieldLink RX0 51 "EvenWhite$Fount" "many" "I", Cond.methodLink RX0 68 yX1_bareOf, Cond.instanceMethod yX1_bareOf, Cond.selects RX1 yX1_bareOf yX1_bareOf, Cond.initialized RX1]
def wsX2_thin_r2 : List Cond := [Cond.code yX1_bareOf cX1_bareOf 7 (some .int), Cond.fieldLink RX1 9 "EvenWhite$Fount" "depth" "I", Cond.fieldLink RX1 22 "EvenWhite$Fount" "backs" "[I", Cond.methodLink RX1 56 Lib.Math.min.name, Cond.static Lib.Math.min.name, Cond.initialized "java/lang/Math", Cond.code Lib.Math.min.name Lib.Math.min.code 2 (some .int), Cond.methodLink RX1 49 yX1_placeOfBack, Cond.static yX1_placeOfBack, Cond.code yX1_placeOfBack cX1_placeOfBack 3 (some .int)]
def wsX2_thin : List Cond := .code yX2_thin cX2_thin 7 (some .int) :: ((wsX2_thin_r1 ++ wsX2_thin_r2) ++ wsX20 ++ wsX00 ++ wsX10)
def wsX4_makeEmpty : List Cond := .code yX4_makeEmpty cX4_makeEmpty 1 none :: ([.fieldLink RX4 15 "EvenWhite$Text" "many" "I"] ++ wsX40)
def wsX2_signBetween_r1 : List Cond := [Cond.fieldLink RX2 19 "EvenWhite$Line" "even" "LEvenWhite$Even;", Cond.methodLink RX2 81 yX0_leftOverAbove, Cond.instanceMethod yX0_leftOverAbove, Cond.selects RX0 yX0_leftOverAbove yX0_leftOverAbove, Cond.initialized RX0, Cond.code yX0_leftOverAbove cX0_leftOverAbove 3 (some .long), Cond.fieldLink RX0 9 "EvenWhite$Even" "fount" "LEvenWhite$Fount;", Cond.fieldLink RX0 65 "EvenWhite$Fount" "wanted" "I", Cond.fieldLink RX0 28 "EvenWhite$Even" "below" "J", Cond.methodLink RX0 107 yX0_whiteAbove, Cond.instanceMethod yX0_whiteAbove, Cond.selects RX0 yX0_whiteAbove yX0_whiteAbove, Cond.code yX0_whiteAbove cX0_whiteAbove 3 (some .long), Cond.methodLink RX0 103 yX0_spaceAbove, Cond.instanceMethod yX0_spaceAbove, Cond.selects RX0 yX0_spaceAbove yX0_spaceAbove, Cond.code yX0_spaceAbove cX0_spaceAbove 3 (some .long), Cond.fieldLink RX0 24 "EvenWhite$Even" "eightfold" "[J", Cond.methodLink RX0 71 yX0_numberOf, Cond.instanceMethod yX0_numberOf, Cond.selects RX0 yX0_numberOf yX0_numberOf, Cond.code yX0_numberOf cX0_numberOf 3 (some .int), Cond.fieldLink RX0 51 "EvenWhite$Fount" "many" "I", Cond.methodLink RX0 68 yX1_bareOf]
def wsX2_signBetween_r2 : List Cond := [Cond.instanceMethod yX1_bareOf, Cond.selects RX1 yX1_bareOf yX1_bareOf, Cond.initialized RX1, Cond.code yX1_bareOf cX1_bareOf 7 (some .int), Cond.fieldLink RX1 9 "EvenWhite$Fount" "depth" "I", Cond.fieldLink RX1 22 "EvenWhite$Fount" "backs" "[I", Cond.methodLink RX1 56 Lib.Math.min.name, Cond.static Lib.Math.min.name, Cond.initialized "java/lang/Math", Cond.code Lib.Math.min.name Lib.Math.min.code 2 (some .int), Cond.methodLink RX1 49 yX1_placeOfBack, Cond.static yX1_placeOfBack, Cond.code yX1_placeOfBack cX1_placeOfBack 3 (some .int)]
def wsX2_signBetween : List Cond := .code yX2_signBetween cX2_signBetween 5 (some .int) :: ((wsX2_signBetween_r1 ++ wsX2_signBetween_r2) ++ wsX20 ++ wsX00 ++ wsX10)
def wsX4_addSign : List Cond := .code yX4_addSign cX4_addSign 2 none :: ([.fieldLink RX4 15 "EvenWhite$Text" "many" "I", .fieldLink RX4 9 "EvenWhite$Text" "signs" "[I"] ++ wsX40)
def wsX5_commonDivisor : List Cond := .code yX5_commonDivisor cX5_commonDivisor 11 (some .long) :: ([.methodLink RX5 235 Lib.MathLoose.abs_long.x, .static Lib.MathLoose.abs_long.x, .initialized "java/lang/Math", .code Lib.MathLoose.abs_long.x Lib.MathLoose.abs_long.code 2 (some .long), .methodLink RX5 241 Lib.MathLoose.max_long.x, .static Lib.MathLoose.max_long.x, .code Lib.MathLoose.max_long.x Lib.MathLoose.max_long.code 4 (some .long)])
def wsX5_aboveOf : List Cond := .code yX5_aboveOf cX5_aboveOf 4 (some .long) :: ([.methodLink RX5 232 yX5_commonDivisor, .static yX5_commonDivisor, .initialized RX5, .code yX5_commonDivisor cX5_commonDivisor 11 (some .long), .methodLink RX5 235 Lib.MathLoose.abs_long.x, .static Lib.MathLoose.abs_long.x, .initialized "java/lang/Math", .code Lib.MathLoose.abs_long.x Lib.MathLoose.abs_long.code 2 (some .long), .methodLink RX5 241 Lib.MathLoose.max_long.x, .static Lib.MathLoose.max_long.x, .code Lib.MathLoose.max_long.x Lib.MathLoose.max_long.code 4 (some .long)])
def wsX4_addNumber : List Cond := .code yX4_addNumber cX4_addNumber 8 none :: ([.methodLink RX4 23 Lib.MathLoose.abs_long.x, .static Lib.MathLoose.abs_long.x, .initialized "java/lang/Math", .code Lib.MathLoose.abs_long.x Lib.MathLoose.abs_long.code 2 (some .long), .constantLong RX4 29 (10), .methodLink RX4 19 yX4_addSign, .instanceMethod yX4_addSign, .selects RX4 yX4_addSign yX4_addSign, .initialized RX4, .code yX4_addSign cX4_addSign 2 none, .fieldLink RX4 15 "EvenWhite$Text" "many" "I", .fieldLink RX4 9 "EvenWhite$Text" "signs" "[I"] ++ wsX40)
def wsX5_belowOf : List Cond := .code yX5_belowOf cX5_belowOf 4 (some .long) :: ([.methodLink RX5 232 yX5_commonDivisor, .static yX5_commonDivisor, .initialized RX5, .code yX5_commonDivisor cX5_commonDivisor 11 (some .long), .methodLink RX5 235 Lib.MathLoose.abs_long.x, .static Lib.MathLoose.abs_long.x, .initialized "java/lang/Math", .code Lib.MathLoose.abs_long.x Lib.MathLoose.abs_long.code 2 (some .long), .methodLink RX5 241 Lib.MathLoose.max_long.x, .static Lib.MathLoose.max_long.x, .code Lib.MathLoose.max_long.x Lib.MathLoose.max_long.code 4 (some .long)])
def wsX2_written_r1 : List Cond := [Cond.fieldLink RX2 26 "EvenWhite$Line" "text" "LEvenWhite$Text;", Cond.fieldLink RX2 30 "EvenWhite$Line" "many" "I", Cond.fieldLink RX2 9 "EvenWhite$Line" "places" "[I", Cond.fieldLink RX2 19 "EvenWhite$Line" "even" "LEvenWhite$Even;", Cond.methodLink RX2 56 yX4_makeEmpty, Cond.instanceMethod yX4_makeEmpty, Cond.selects RX4 yX4_makeEmpty yX4_makeEmpty, Cond.initialized RX4, Cond.code yX4_makeEmpty cX4_makeEmpty 1 none, Cond.fieldLink RX4 15 "EvenWhite$Text" "many" "I", Cond.methodLink RX2 59 yX2_signBetween, Cond.instanceMethod yX2_signBetween, Cond.selects RX2 yX2_signBetween yX2_signBetween, Cond.initialized RX2, Cond.code yX2_signBetween cX2_signBetween 5 (some .int), Cond.methodLink RX2 81 yX0_leftOverAbove, Cond.instanceMethod yX0_leftOverAbove, Cond.selects RX0 yX0_leftOverAbove yX0_leftOverAbove, Cond.initialized RX0, Cond.code yX0_leftOverAbove cX0_leftOverAbove 3 (some .long), Cond.fieldLink RX0 9 "EvenWhite$Even" "fount" "LEvenWhite$Fount;", Cond.fieldLink RX0 65 "EvenWhite$Fount" "wanted" "I", Cond.fieldLink RX0 28 "EvenWhite$Even" "below" "J", Cond.methodLink RX0 107 yX0_whiteAbove]
def wsX2_written_r2 : List Cond := [Cond.instanceMethod yX0_whiteAbove, Cond.selects RX0 yX0_whiteAbove yX0_whiteAbove, Cond.code yX0_whiteAbove cX0_whiteAbove 3 (some .long), Cond.methodLink RX0 103 yX0_spaceAbove, Cond.instanceMethod yX0_spaceAbove, Cond.selects RX0 yX0_spaceAbove yX0_spaceAbove, Cond.code yX0_spaceAbove cX0_spaceAbove 3 (some .long), Cond.fieldLink RX0 24 "EvenWhite$Even" "eightfold" "[J", Cond.methodLink RX0 71 yX0_numberOf, Cond.instanceMethod yX0_numberOf, Cond.selects RX0 yX0_numberOf yX0_numberOf, Cond.code yX0_numberOf cX0_numberOf 3 (some .int), Cond.fieldLink RX0 51 "EvenWhite$Fount" "many" "I", Cond.methodLink RX0 68 yX1_bareOf, Cond.instanceMethod yX1_bareOf, Cond.selects RX1 yX1_bareOf yX1_bareOf, Cond.initialized RX1, Cond.code yX1_bareOf cX1_bareOf 7 (some .int), Cond.fieldLink RX1 9 "EvenWhite$Fount" "depth" "I", Cond.fieldLink RX1 22 "EvenWhite$Fount" "backs" "[I", Cond.methodLink RX1 56 Lib.Math.min.name, Cond.static Lib.Math.min.name, Cond.initialized "java/lang/Math", Cond.code Lib.Math.min.name Lib.Math.min.code 2 (some .int)]
def wsX2_written_r3 : List Cond := [Cond.methodLink RX1 49 yX1_placeOfBack, Cond.static yX1_placeOfBack, Cond.code yX1_placeOfBack cX1_placeOfBack 3 (some .int), Cond.methodLink RX2 63 yX4_addSign, Cond.instanceMethod yX4_addSign, Cond.selects RX4 yX4_addSign yX4_addSign, Cond.code yX4_addSign cX4_addSign 2 none, Cond.fieldLink RX4 9 "EvenWhite$Text" "signs" "[I", Cond.methodLink RX2 67 yX2_wideAbove, Cond.instanceMethod yX2_wideAbove, Cond.selects RX2 yX2_wideAbove yX2_wideAbove, Cond.code yX2_wideAbove cX2_wideAbove 4 (some .long), Cond.fieldLink RX2 15 "EvenWhite$Line" "fount" "LEvenWhite$Fount;", Cond.fieldLink RX2 38 "EvenWhite$Fount" "bodies" "[I", Cond.methodLink RX2 43 yX0_spaceBelow, Cond.instanceMethod yX0_spaceBelow, Cond.selects RX0 yX0_spaceBelow yX0_spaceBelow, Cond.code yX0_spaceBelow cX0_spaceBelow 1 (some .long), Cond.constantLong RX0 88 (8), Cond.methodLink RX2 49 yX0_spaceAbove, Cond.static yX5_aboveOf, Cond.initialized RX5, Cond.code yX5_aboveOf cX5_aboveOf 4 (some .long), Cond.methodLink RX5 232 yX5_commonDivisor]
def wsX2_written_r4 : List Cond := [Cond.static yX5_commonDivisor, Cond.code yX5_commonDivisor cX5_commonDivisor 11 (some .long), Cond.methodLink RX5 235 Lib.MathLoose.abs_long.x, Cond.static Lib.MathLoose.abs_long.x, Cond.code Lib.MathLoose.abs_long.x Lib.MathLoose.abs_long.code 2 (some .long), Cond.methodLink RX5 241 Lib.MathLoose.max_long.x, Cond.static Lib.MathLoose.max_long.x, Cond.code Lib.MathLoose.max_long.x Lib.MathLoose.max_long.code 4 (some .long), Cond.methodLink RX2 74 yX4_addNumber, Cond.instanceMethod yX4_addNumber, Cond.selects RX4 yX4_addNumber yX4_addNumber, Cond.code yX4_addNumber cX4_addNumber 8 none, Cond.methodLink RX4 23 Lib.MathLoose.abs_long.x, Cond.constantLong RX4 29 (10), Cond.methodLink RX4 19 yX4_addSign, Cond.static yX5_belowOf, Cond.code yX5_belowOf cX5_belowOf 4 (some .long)]
def wsX2_written : List Cond := .code yX2_written cX2_written 3 (some (.object "EvenWhite$Text")) :: ((wsX2_written_r1 ++ (wsX2_written_r2 ++ (wsX2_written_r3 ++ wsX2_written_r4))) ++ wsX20 ++ wsX40 ++ wsX00 ++ wsX10)
def wsX3_init : List Cond := .code yX3_init cX3_init 2 none :: ([.methodLink RX3 3 objectInit, .instanceMethod objectInit, .code objectInit ⟨#[0xb1]⟩ 1 none, .classLink RX3 9 RX1, .fieldLink RX3 11 "EvenWhite$Past" "ring" "[LEvenWhite$Fount;", .instantiable RX1 6, .initialized RX1, .methodLink RX3 17 yX1_init, .instanceMethod yX1_init, .code yX1_init cX1_init 1 none, .methodLink RX1 3 objectInit, .fieldLink RX1 9 "EvenWhite$Fount" "depth" "I", .fieldLink RX1 15 "EvenWhite$Fount" "wanted" "I", .arrayClass .int, .fieldLink RX1 18 "EvenWhite$Fount" "bodies" "[I", .fieldLink RX1 22 "EvenWhite$Fount" "backs" "[I", .fieldLink RX1 25 "EvenWhite$Fount" "weights" "[I", .methodLink RX1 28 yX1_startAnew, .instanceMethod yX1_startAnew, .selects RX1 yX1_startAnew yX1_startAnew, .code yX1_startAnew cX1_startAnew 3 none, .fieldLink RX1 32 "EvenWhite$Fount" "many" "I"] ++ wsX30 ++ wsX10)
def wsX3_remember : List Cond := .code yX3_remember cX3_remember 2 none :: ([.fieldLink RX3 11 "EvenWhite$Past" "ring" "[LEvenWhite$Fount;", .fieldLink RX3 18 "EvenWhite$Past" "next" "I", .fieldLink RX3 26 "EvenWhite$Past" "many" "I", .methodLink RX3 29 Lib.Math.min.name, .static Lib.Math.min.name, .initialized "java/lang/Math", .code Lib.Math.min.name Lib.Math.min.code 2 (some .int), .methodLink RX3 22 yX1_takeAll, .instanceMethod yX1_takeAll, .selects RX1 yX1_takeAll yX1_takeAll, .initialized RX1, .code yX1_takeAll cX1_takeAll 2 none, .fieldLink RX1 32 "EvenWhite$Fount" "many" "I", .fieldLink RX1 9 "EvenWhite$Fount" "depth" "I", .fieldLink RX1 15 "EvenWhite$Fount" "wanted" "I", .fieldLink RX1 18 "EvenWhite$Fount" "bodies" "[I", .methodLink RX1 35 arraycopyName, .native arraycopyName, .static arraycopyName, .initialized "java/lang/System", .fieldLink RX1 22 "EvenWhite$Fount" "backs" "[I", .fieldLink RX1 25 "EvenWhite$Fount" "weights" "[I"] ++ wsX30 ++ wsX10)
def wsX3_giveBack : List Cond := .code yX3_giveBack cX3_giveBack 2 none :: ([.fieldLink RX3 18 "EvenWhite$Past" "next" "I", .fieldLink RX3 26 "EvenWhite$Past" "many" "I", .methodLink RX3 35 Lib.Math.max.name, .static Lib.Math.max.name, .initialized "java/lang/Math", .code Lib.Math.max.name Lib.Math.max.code 2 (some .int), .fieldLink RX3 11 "EvenWhite$Past" "ring" "[LEvenWhite$Fount;", .methodLink RX3 22 yX1_takeAll, .instanceMethod yX1_takeAll, .selects RX1 yX1_takeAll yX1_takeAll, .initialized RX1, .code yX1_takeAll cX1_takeAll 2 none, .fieldLink RX1 32 "EvenWhite$Fount" "many" "I", .fieldLink RX1 9 "EvenWhite$Fount" "depth" "I", .fieldLink RX1 15 "EvenWhite$Fount" "wanted" "I", .fieldLink RX1 18 "EvenWhite$Fount" "bodies" "[I", .methodLink RX1 35 arraycopyName, .native arraycopyName, .static arraycopyName, .initialized "java/lang/System", .fieldLink RX1 22 "EvenWhite$Fount" "backs" "[I", .fieldLink RX1 25 "EvenWhite$Fount" "weights" "[I"] ++ wsX30 ++ wsX10)
def wsX3_forget : List Cond := .code yX3_forget cX3_forget 1 none :: ([.fieldLink RX3 26 "EvenWhite$Past" "many" "I"] ++ wsX30)
def wsX4_signAt : List Cond := .code yX4_signAt cX4_signAt 2 (some .int) :: ([.fieldLink RX4 15 "EvenWhite$Text" "many" "I", .fieldLink RX4 9 "EvenWhite$Text" "signs" "[I", .static yX5_within, .initialized RX5, .code yX5_within cX5_within 3 (some .boolean)] ++ wsX40)
def wsX5_init_r1 : List Cond := [Cond.methodLink RX5 3 objectInit, Cond.instanceMethod objectInit, Cond.code objectInit ⟨#[0xb1]⟩ 1 none, Cond.classLink RX5 9 RX1, Cond.instantiable RX1 6, Cond.initialized RX1, Cond.fieldLink RX5 12 "EvenWhite" "fount" "LEvenWhite$Fount;", Cond.classLink RX5 16 RX0, Cond.instantiable RX0 8, Cond.initialized RX0, Cond.fieldLink RX5 21 "EvenWhite" "even" "LEvenWhite$Even;", Cond.classLink RX5 25 RX3, Cond.instantiable RX3 3, Cond.initialized RX3, Cond.fieldLink RX5 28 "EvenWhite" "past" "LEvenWhite$Past;", Cond.classLink RX5 32 RX2, Cond.instantiable RX2 5, Cond.initialized RX2, Cond.fieldLink RX5 37 "EvenWhite" "line" "LEvenWhite$Line;", Cond.fieldLink RX5 41 "EvenWhite" "images" "[LEvenWhite$Fount;", Cond.arrayClass .boolean, Cond.fieldLink RX5 45 "EvenWhite" "kept" "[Z", Cond.methodLink RX5 11 yX1_init, Cond.instanceMethod yX1_init]
def wsX5_init_r2 : List Cond := [Cond.code yX1_init cX1_init 1 none, Cond.methodLink RX1 3 objectInit, Cond.fieldLink RX1 9 "EvenWhite$Fount" "depth" "I", Cond.fieldLink RX1 15 "EvenWhite$Fount" "wanted" "I", Cond.arrayClass .int, Cond.fieldLink RX1 18 "EvenWhite$Fount" "bodies" "[I", Cond.fieldLink RX1 22 "EvenWhite$Fount" "backs" "[I", Cond.fieldLink RX1 25 "EvenWhite$Fount" "weights" "[I", Cond.methodLink RX1 28 yX1_startAnew, Cond.instanceMethod yX1_startAnew, Cond.selects RX1 yX1_startAnew yX1_startAnew, Cond.code yX1_startAnew cX1_startAnew 3 none, Cond.fieldLink RX1 32 "EvenWhite$Fount" "many" "I", Cond.methodLink RX5 18 yX0_init, Cond.instanceMethod yX0_init, Cond.code yX0_init cX0_init 2 none, Cond.methodLink RX0 3 objectInit, Cond.fieldLink RX0 9 "EvenWhite$Even" "fount" "LEvenWhite$Fount;", Cond.classLink RX0 15 "[[J", Cond.arrayClass .long, Cond.fieldLink RX0 17 "EvenWhite$Even" "rows" "[[J", Cond.fieldLink RX0 20 "EvenWhite$Even" "open" "[Z", Cond.fieldLink RX0 24 "EvenWhite$Even" "eightfold" "[J", Cond.fieldLink RX0 28 "EvenWhite$Even" "below" "J"]
def wsX5_init_r3 : List Cond := [Cond.fieldLink RX0 32 "EvenWhite$Even" "whole" "[J", Cond.fieldLink RX0 35 "EvenWhite$Even" "rest" "[J", Cond.methodLink RX5 27 yX3_init, Cond.instanceMethod yX3_init, Cond.code yX3_init cX3_init 2 none, Cond.methodLink RX3 3 objectInit, Cond.classLink RX3 9 RX1, Cond.fieldLink RX3 11 "EvenWhite$Past" "ring" "[LEvenWhite$Fount;", Cond.methodLink RX3 17 yX1_init, Cond.methodLink RX5 34 yX2_init, Cond.instanceMethod yX2_init, Cond.code yX2_init cX2_init 3 none, Cond.methodLink RX2 3 objectInit, Cond.fieldLink RX2 9 "EvenWhite$Line" "places" "[I", Cond.fieldLink RX2 15 "EvenWhite$Line" "fount" "LEvenWhite$Fount;", Cond.fieldLink RX2 19 "EvenWhite$Line" "even" "LEvenWhite$Even;", Cond.classLink RX2 23 RX4, Cond.instantiable RX4 2, Cond.initialized RX4, Cond.fieldLink RX2 26 "EvenWhite$Line" "text" "LEvenWhite$Text;", Cond.methodLink RX2 25 yX4_init, Cond.instanceMethod yX4_init, Cond.code yX4_init cX4_init 1 none, Cond.methodLink RX4 3 objectInit]
def wsX5_init_r4 : List Cond := [Cond.fieldLink RX4 9 "EvenWhite$Text" "signs" "[I"]
def wsX5_init : List Cond := .code yX5_init cX5_init 2 none :: ((wsX5_init_r1 ++ (wsX5_init_r2 ++ (wsX5_init_r3 ++ wsX5_init_r4))) ++ wsX10 ++ wsX50 ++ wsX00 ++ wsX30 ++ wsX20 ++ wsX40)
def wsX5_beginChange_r1 : List Cond := [Cond.fieldLink RX5 28 "EvenWhite" "past" "LEvenWhite$Past;", Cond.fieldLink RX5 12 "EvenWhite" "fount" "LEvenWhite$Fount;", Cond.fieldLink RX5 21 "EvenWhite" "even" "LEvenWhite$Even;", Cond.methodLink RX5 229 yX3_remember, Cond.instanceMethod yX3_remember, Cond.selects RX3 yX3_remember yX3_remember, Cond.initialized RX3, Cond.code yX3_remember cX3_remember 2 none, Cond.fieldLink RX3 11 "EvenWhite$Past" "ring" "[LEvenWhite$Fount;", Cond.fieldLink RX3 18 "EvenWhite$Past" "next" "I", Cond.fieldLink RX3 26 "EvenWhite$Past" "many" "I", Cond.methodLink RX3 29 Lib.Math.min.name, Cond.static Lib.Math.min.name, Cond.initialized "java/lang/Math", Cond.code Lib.Math.min.name Lib.Math.min.code 2 (some .int), Cond.methodLink RX3 22 yX1_takeAll, Cond.instanceMethod yX1_takeAll, Cond.selects RX1 yX1_takeAll yX1_takeAll, Cond.initialized RX1, Cond.code yX1_takeAll cX1_takeAll 2 none, Cond.fieldLink RX1 32 "EvenWhite$Fount" "many" "I", Cond.fieldLink RX1 9 "EvenWhite$Fount" "depth" "I", Cond.fieldLink RX1 15 "EvenWhite$Fount" "wanted" "I", Cond.fieldLink RX1 18 "EvenWhite$Fount" "bodies" "[I"]
def wsX5_beginChange_r2 : List Cond := [Cond.methodLink RX1 35 arraycopyName, Cond.native arraycopyName, Cond.static arraycopyName, Cond.initialized "java/lang/System", Cond.fieldLink RX1 22 "EvenWhite$Fount" "backs" "[I", Cond.fieldLink RX1 25 "EvenWhite$Fount" "weights" "[I", Cond.methodLink RX5 134 yX0_forget, Cond.instanceMethod yX0_forget, Cond.selects RX0 yX0_forget yX0_forget, Cond.initialized RX0, Cond.code yX0_forget cX0_forget 1 none, Cond.fieldLink RX0 38 "EvenWhite$Even" "found" "Z"]
def wsX5_beginChange : List Cond := .code yX5_beginChange cX5_beginChange 1 none :: ((wsX5_beginChange_r1 ++ wsX5_beginChange_r2) ++ wsX50 ++ wsX30 ++ wsX10 ++ wsX00)
def wsX5_letters_r1 : List Cond := [Cond.constant RX5 53 (-1000000002), Cond.fieldLink RX5 12 "EvenWhite" "fount" "LEvenWhite$Fount;", Cond.fieldLink RX5 57 "EvenWhite$Fount" "many" "I", Cond.fieldLink RX5 37 "EvenWhite" "line" "LEvenWhite$Line;", Cond.methodLink RX5 49 yX5_within, Cond.static yX5_within, Cond.initialized RX5, Cond.code yX5_within cX5_within 3 (some .boolean), Cond.methodLink RX5 54 yX5_beginChange, Cond.instanceMethod yX5_beginChange, Cond.selects RX5 yX5_beginChange yX5_beginChange, Cond.code yX5_beginChange cX5_beginChange 1 none, Cond.fieldLink RX5 28 "EvenWhite" "past" "LEvenWhite$Past;", Cond.fieldLink RX5 21 "EvenWhite" "even" "LEvenWhite$Even;", Cond.methodLink RX5 229 yX3_remember, Cond.instanceMethod yX3_remember, Cond.selects RX3 yX3_remember yX3_remember, Cond.initialized RX3, Cond.code yX3_remember cX3_remember 2 none, Cond.fieldLink RX3 11 "EvenWhite$Past" "ring" "[LEvenWhite$Fount;", Cond.fieldLink RX3 18 "EvenWhite$Past" "next" "I", Cond.fieldLink RX3 26 "EvenWhite$Past" "many" "I", Cond.methodLink RX3 29 Lib.Math.min.name, Cond.static Lib.Math.min.name]
def wsX5_letters_r2 : List Cond := [Cond.initialized "java/lang/Math", Cond.code Lib.Math.min.name Lib.Math.min.code 2 (some .int), Cond.methodLink RX3 22 yX1_takeAll, Cond.instanceMethod yX1_takeAll, Cond.selects RX1 yX1_takeAll yX1_takeAll, Cond.initialized RX1, Cond.code yX1_takeAll cX1_takeAll 2 none, Cond.fieldLink RX1 32 "EvenWhite$Fount" "many" "I", Cond.fieldLink RX1 9 "EvenWhite$Fount" "depth" "I", Cond.fieldLink RX1 15 "EvenWhite$Fount" "wanted" "I", Cond.fieldLink RX1 18 "EvenWhite$Fount" "bodies" "[I", Cond.methodLink RX1 35 arraycopyName, Cond.native arraycopyName, Cond.static arraycopyName, Cond.initialized "java/lang/System", Cond.fieldLink RX1 22 "EvenWhite$Fount" "backs" "[I", Cond.fieldLink RX1 25 "EvenWhite$Fount" "weights" "[I", Cond.methodLink RX5 134 yX0_forget, Cond.instanceMethod yX0_forget, Cond.selects RX0 yX0_forget yX0_forget, Cond.initialized RX0, Cond.code yX0_forget cX0_forget 1 none, Cond.fieldLink RX0 38 "EvenWhite$Even" "found" "Z", Cond.methodLink RX5 61 yX1_startAnew]
def wsX5_letters_r3 : List Cond := [Cond.instanceMethod yX1_startAnew, Cond.selects RX1 yX1_startAnew yX1_startAnew, Cond.code yX1_startAnew cX1_startAnew 3 none, Cond.methodLink RX5 65 yX2_makeEmpty, Cond.instanceMethod yX2_makeEmpty, Cond.selects RX2 yX2_makeEmpty yX2_makeEmpty, Cond.initialized RX2, Cond.code yX2_makeEmpty cX2_makeEmpty 1 none, Cond.fieldLink RX2 30 "EvenWhite$Line" "many" "I"]
def wsX5_letters : List Cond := .code yX5_letters cX5_letters 3 (some .int) :: ((wsX5_letters_r1 ++ (wsX5_letters_r2 ++ wsX5_letters_r3)) ++ wsX50 ++ wsX10 ++ wsX30 ++ wsX00 ++ wsX20)
def wsX5_isHeight : List Cond := .code yX5_isHeight cX5_isHeight 1 (some .boolean) :: ([.methodLink RX5 49 yX5_within, .static yX5_within, .initialized RX5, .code yX5_within cX5_within 3 (some .boolean)])
def wsX5_isSide : List Cond := .code yX5_isSide cX5_isSide 1 (some .boolean) :: ([.methodLink RX5 49 yX5_within, .static yX5_within, .initialized RX5, .code yX5_within cX5_within 3 (some .boolean)])
def wsX5_side_r1 : List Cond := [Cond.fieldLink RX5 12 "EvenWhite" "fount" "LEvenWhite$Fount;", Cond.constant RX5 75 (-1000000001), Cond.constant RX5 53 (-1000000002), Cond.methodLink RX5 68 yX1_hasLetter, Cond.instanceMethod yX1_hasLetter, Cond.selects RX1 yX1_hasLetter yX1_hasLetter, Cond.initialized RX1, Cond.code yX1_hasLetter cX1_hasLetter 2 (some .boolean), Cond.fieldLink RX1 32 "EvenWhite$Fount" "many" "I", Cond.static yX5_within, Cond.initialized RX5, Cond.code yX5_within cX5_within 3 (some .boolean), Cond.methodLink RX5 72 yX5_isHeight, Cond.static yX5_isHeight, Cond.code yX5_isHeight cX5_isHeight 1 (some .boolean), Cond.methodLink RX5 49 yX5_within, Cond.methodLink RX5 76 yX5_isSide, Cond.static yX5_isSide, Cond.code yX5_isSide cX5_isSide 1 (some .boolean), Cond.methodLink RX5 54 yX5_beginChange, Cond.instanceMethod yX5_beginChange, Cond.selects RX5 yX5_beginChange yX5_beginChange, Cond.code yX5_beginChange cX5_beginChange 1 none, Cond.fieldLink RX5 28 "EvenWhite" "past" "LEvenWhite$Past;"]
def wsX5_side_r2 : List Cond := [Cond.fieldLink RX5 21 "EvenWhite" "even" "LEvenWhite$Even;", Cond.methodLink RX5 229 yX3_remember, Cond.instanceMethod yX3_remember, Cond.selects RX3 yX3_remember yX3_remember, Cond.initialized RX3, Cond.code yX3_remember cX3_remember 2 none, Cond.fieldLink RX3 11 "EvenWhite$Past" "ring" "[LEvenWhite$Fount;", Cond.fieldLink RX3 18 "EvenWhite$Past" "next" "I", Cond.fieldLink RX3 26 "EvenWhite$Past" "many" "I", Cond.methodLink RX3 29 Lib.Math.min.name, Cond.static Lib.Math.min.name, Cond.initialized "java/lang/Math", Cond.code Lib.Math.min.name Lib.Math.min.code 2 (some .int), Cond.methodLink RX3 22 yX1_takeAll, Cond.instanceMethod yX1_takeAll, Cond.selects RX1 yX1_takeAll yX1_takeAll, Cond.code yX1_takeAll cX1_takeAll 2 none, Cond.fieldLink RX1 9 "EvenWhite$Fount" "depth" "I", Cond.fieldLink RX1 15 "EvenWhite$Fount" "wanted" "I", Cond.fieldLink RX1 18 "EvenWhite$Fount" "bodies" "[I", Cond.methodLink RX1 35 arraycopyName, Cond.native arraycopyName, Cond.static arraycopyName, Cond.initialized "java/lang/System"]
def wsX5_side_r3 : List Cond := [Cond.fieldLink RX1 22 "EvenWhite$Fount" "backs" "[I", Cond.fieldLink RX1 25 "EvenWhite$Fount" "weights" "[I", Cond.methodLink RX5 134 yX0_forget, Cond.instanceMethod yX0_forget, Cond.selects RX0 yX0_forget yX0_forget, Cond.initialized RX0, Cond.code yX0_forget cX0_forget 1 none, Cond.fieldLink RX0 38 "EvenWhite$Even" "found" "Z", Cond.methodLink RX5 79 yX1_backOf, Cond.instanceMethod yX1_backOf, Cond.selects RX1 yX1_backOf yX1_backOf, Cond.code yX1_backOf cX1_backOf 4 (some .int), Cond.methodLink RX1 49 yX1_placeOfBack, Cond.static yX1_placeOfBack, Cond.code yX1_placeOfBack cX1_placeOfBack 3 (some .int), Cond.methodLink RX5 83 yX1_putBack, Cond.instanceMethod yX1_putBack, Cond.selects RX1 yX1_putBack yX1_putBack, Cond.code yX1_putBack cX1_putBack 5 none]
def wsX5_side : List Cond := .code yX5_side cX5_side 6 (some .int) :: ((wsX5_side_r1 ++ (wsX5_side_r2 ++ wsX5_side_r3)) ++ wsX50 ++ wsX10 ++ wsX30 ++ wsX00)
def wsX5_body_r1 : List Cond := [Cond.fieldLink RX5 12 "EvenWhite" "fount" "LEvenWhite$Fount;", Cond.constant RX5 75 (-1000000001), Cond.constant RX5 53 (-1000000002), Cond.fieldLink RX5 87 "EvenWhite$Fount" "bodies" "[I", Cond.methodLink RX5 68 yX1_hasLetter, Cond.instanceMethod yX1_hasLetter, Cond.selects RX1 yX1_hasLetter yX1_hasLetter, Cond.initialized RX1, Cond.code yX1_hasLetter cX1_hasLetter 2 (some .boolean), Cond.fieldLink RX1 32 "EvenWhite$Fount" "many" "I", Cond.static yX5_within, Cond.initialized RX5, Cond.code yX5_within cX5_within 3 (some .boolean), Cond.methodLink RX5 49 yX5_within, Cond.methodLink RX5 54 yX5_beginChange, Cond.instanceMethod yX5_beginChange, Cond.selects RX5 yX5_beginChange yX5_beginChange, Cond.code yX5_beginChange cX5_beginChange 1 none, Cond.fieldLink RX5 28 "EvenWhite" "past" "LEvenWhite$Past;", Cond.fieldLink RX5 21 "EvenWhite" "even" "LEvenWhite$Even;", Cond.methodLink RX5 229 yX3_remember, Cond.instanceMethod yX3_remember, Cond.selects RX3 yX3_remember yX3_remember, Cond.initialized RX3]
def wsX5_body_r2 : List Cond := [Cond.code yX3_remember cX3_remember 2 none, Cond.fieldLink RX3 11 "EvenWhite$Past" "ring" "[LEvenWhite$Fount;", Cond.fieldLink RX3 18 "EvenWhite$Past" "next" "I", Cond.fieldLink RX3 26 "EvenWhite$Past" "many" "I", Cond.methodLink RX3 29 Lib.Math.min.name, Cond.static Lib.Math.min.name, Cond.initialized "java/lang/Math", Cond.code Lib.Math.min.name Lib.Math.min.code 2 (some .int), Cond.methodLink RX3 22 yX1_takeAll, Cond.instanceMethod yX1_takeAll, Cond.selects RX1 yX1_takeAll yX1_takeAll, Cond.code yX1_takeAll cX1_takeAll 2 none, Cond.fieldLink RX1 9 "EvenWhite$Fount" "depth" "I", Cond.fieldLink RX1 15 "EvenWhite$Fount" "wanted" "I", Cond.fieldLink RX1 18 "EvenWhite$Fount" "bodies" "[I", Cond.methodLink RX1 35 arraycopyName, Cond.native arraycopyName, Cond.static arraycopyName, Cond.initialized "java/lang/System", Cond.fieldLink RX1 22 "EvenWhite$Fount" "backs" "[I", Cond.fieldLink RX1 25 "EvenWhite$Fount" "weights" "[I", Cond.methodLink RX5 134 yX0_forget, Cond.instanceMethod yX0_forget, Cond.selects RX0 yX0_forget yX0_forget]
def wsX5_body_r3 : List Cond := [Cond.initialized RX0, Cond.code yX0_forget cX0_forget 1 none, Cond.fieldLink RX0 38 "EvenWhite$Even" "found" "Z"]
def wsX5_body : List Cond := .code yX5_body cX5_body 4 (some .int) :: ((wsX5_body_r1 ++ (wsX5_body_r2 ++ wsX5_body_r3)) ++ wsX50 ++ wsX10 ++ wsX30 ++ wsX00)
def wsX5_bound_r1 : List Cond := [Cond.fieldLink RX5 12 "EvenWhite" "fount" "LEvenWhite$Fount;", Cond.fieldLink RX5 91 "EvenWhite$Fount" "depth" "I", Cond.fieldLink RX5 94 "EvenWhite$Fount" "wanted" "I", Cond.constant RX5 53 (-1000000002), Cond.methodLink RX5 49 yX5_within, Cond.static yX5_within, Cond.initialized RX5, Cond.code yX5_within cX5_within 3 (some .boolean), Cond.methodLink RX5 54 yX5_beginChange, Cond.instanceMethod yX5_beginChange, Cond.selects RX5 yX5_beginChange yX5_beginChange, Cond.code yX5_beginChange cX5_beginChange 1 none, Cond.fieldLink RX5 28 "EvenWhite" "past" "LEvenWhite$Past;", Cond.fieldLink RX5 21 "EvenWhite" "even" "LEvenWhite$Even;", Cond.methodLink RX5 229 yX3_remember, Cond.instanceMethod yX3_remember, Cond.selects RX3 yX3_remember yX3_remember, Cond.initialized RX3, Cond.code yX3_remember cX3_remember 2 none, Cond.fieldLink RX3 11 "EvenWhite$Past" "ring" "[LEvenWhite$Fount;", Cond.fieldLink RX3 18 "EvenWhite$Past" "next" "I", Cond.fieldLink RX3 26 "EvenWhite$Past" "many" "I", Cond.methodLink RX3 29 Lib.Math.min.name, Cond.static Lib.Math.min.name]
def wsX5_bound_r2 : List Cond := [Cond.initialized "java/lang/Math", Cond.code Lib.Math.min.name Lib.Math.min.code 2 (some .int), Cond.methodLink RX3 22 yX1_takeAll, Cond.instanceMethod yX1_takeAll, Cond.selects RX1 yX1_takeAll yX1_takeAll, Cond.initialized RX1, Cond.code yX1_takeAll cX1_takeAll 2 none, Cond.fieldLink RX1 32 "EvenWhite$Fount" "many" "I", Cond.fieldLink RX1 9 "EvenWhite$Fount" "depth" "I", Cond.fieldLink RX1 15 "EvenWhite$Fount" "wanted" "I", Cond.fieldLink RX1 18 "EvenWhite$Fount" "bodies" "[I", Cond.methodLink RX1 35 arraycopyName, Cond.native arraycopyName, Cond.static arraycopyName, Cond.initialized "java/lang/System", Cond.fieldLink RX1 22 "EvenWhite$Fount" "backs" "[I", Cond.fieldLink RX1 25 "EvenWhite$Fount" "weights" "[I", Cond.methodLink RX5 134 yX0_forget, Cond.instanceMethod yX0_forget, Cond.selects RX0 yX0_forget yX0_forget, Cond.initialized RX0, Cond.code yX0_forget cX0_forget 1 none, Cond.fieldLink RX0 38 "EvenWhite$Even" "found" "Z"]
def wsX5_bound : List Cond := .code yX5_bound cX5_bound 4 (some .int) :: ((wsX5_bound_r1 ++ wsX5_bound_r2) ++ wsX50 ++ wsX10 ++ wsX30 ++ wsX00)
def wsX5_weight_r1 : List Cond := [Cond.fieldLink RX5 12 "EvenWhite" "fount" "LEvenWhite$Fount;", Cond.constant RX5 75 (-1000000001), Cond.constant RX5 53 (-1000000002), Cond.methodLink RX5 97 yX1_hasPair, Cond.instanceMethod yX1_hasPair, Cond.selects RX1 yX1_hasPair yX1_hasPair, Cond.initialized RX1, Cond.code yX1_hasPair cX1_hasPair 3 (some .boolean), Cond.methodLink RX1 45 yX1_hasLetter, Cond.instanceMethod yX1_hasLetter, Cond.selects RX1 yX1_hasLetter yX1_hasLetter, Cond.code yX1_hasLetter cX1_hasLetter 2 (some .boolean), Cond.fieldLink RX1 32 "EvenWhite$Fount" "many" "I", Cond.static yX5_within, Cond.initialized RX5, Cond.code yX5_within cX5_within 3 (some .boolean), Cond.methodLink RX5 49 yX5_within, Cond.methodLink RX5 54 yX5_beginChange, Cond.instanceMethod yX5_beginChange, Cond.selects RX5 yX5_beginChange yX5_beginChange, Cond.code yX5_beginChange cX5_beginChange 1 none, Cond.fieldLink RX5 28 "EvenWhite" "past" "LEvenWhite$Past;", Cond.fieldLink RX5 21 "EvenWhite" "even" "LEvenWhite$Even;", Cond.methodLink RX5 229 yX3_remember]
def wsX5_weight_r2 : List Cond := [Cond.instanceMethod yX3_remember, Cond.selects RX3 yX3_remember yX3_remember, Cond.initialized RX3, Cond.code yX3_remember cX3_remember 2 none, Cond.fieldLink RX3 11 "EvenWhite$Past" "ring" "[LEvenWhite$Fount;", Cond.fieldLink RX3 18 "EvenWhite$Past" "next" "I", Cond.fieldLink RX3 26 "EvenWhite$Past" "many" "I", Cond.methodLink RX3 29 Lib.Math.min.name, Cond.static Lib.Math.min.name, Cond.initialized "java/lang/Math", Cond.code Lib.Math.min.name Lib.Math.min.code 2 (some .int), Cond.methodLink RX3 22 yX1_takeAll, Cond.instanceMethod yX1_takeAll, Cond.selects RX1 yX1_takeAll yX1_takeAll, Cond.code yX1_takeAll cX1_takeAll 2 none, Cond.fieldLink RX1 9 "EvenWhite$Fount" "depth" "I", Cond.fieldLink RX1 15 "EvenWhite$Fount" "wanted" "I", Cond.fieldLink RX1 18 "EvenWhite$Fount" "bodies" "[I", Cond.methodLink RX1 35 arraycopyName, Cond.native arraycopyName, Cond.static arraycopyName, Cond.initialized "java/lang/System", Cond.fieldLink RX1 22 "EvenWhite$Fount" "backs" "[I", Cond.fieldLink RX1 25 "EvenWhite$Fount" "weights" "[I"]
def wsX5_weight_r3 : List Cond := [Cond.methodLink RX5 134 yX0_forget, Cond.instanceMethod yX0_forget, Cond.selects RX0 yX0_forget yX0_forget, Cond.initialized RX0, Cond.code yX0_forget cX0_forget 1 none, Cond.fieldLink RX0 38 "EvenWhite$Even" "found" "Z", Cond.methodLink RX5 101 yX1_weightOf, Cond.instanceMethod yX1_weightOf, Cond.selects RX1 yX1_weightOf yX1_weightOf, Cond.code yX1_weightOf cX1_weightOf 3 (some .int), Cond.methodLink RX5 105 yX1_putWeight, Cond.instanceMethod yX1_putWeight, Cond.selects RX1 yX1_putWeight yX1_putWeight, Cond.code yX1_putWeight cX1_putWeight 4 none]
def wsX5_weight : List Cond := .code yX5_weight cX5_weight 5 (some .int) :: ((wsX5_weight_r1 ++ (wsX5_weight_r2 ++ wsX5_weight_r3)) ++ wsX50 ++ wsX10 ++ wsX30 ++ wsX00)
def wsX5_mirror_r1 : List Cond := [Cond.fieldLink RX5 12 "EvenWhite" "fount" "LEvenWhite$Fount;", Cond.constant RX5 75 (-1000000001), Cond.methodLink RX5 68 yX1_hasLetter, Cond.instanceMethod yX1_hasLetter, Cond.selects RX1 yX1_hasLetter yX1_hasLetter, Cond.initialized RX1, Cond.code yX1_hasLetter cX1_hasLetter 2 (some .boolean), Cond.fieldLink RX1 32 "EvenWhite$Fount" "many" "I", Cond.static yX5_within, Cond.initialized RX5, Cond.code yX5_within cX5_within 3 (some .boolean), Cond.methodLink RX5 54 yX5_beginChange, Cond.instanceMethod yX5_beginChange, Cond.selects RX5 yX5_beginChange yX5_beginChange, Cond.code yX5_beginChange cX5_beginChange 1 none, Cond.fieldLink RX5 28 "EvenWhite" "past" "LEvenWhite$Past;", Cond.fieldLink RX5 21 "EvenWhite" "even" "LEvenWhite$Even;", Cond.methodLink RX5 229 yX3_remember, Cond.instanceMethod yX3_remember, Cond.selects RX3 yX3_remember yX3_remember, Cond.initialized RX3, Cond.code yX3_remember cX3_remember 2 none, Cond.fieldLink RX3 11 "EvenWhite$Past" "ring" "[LEvenWhite$Fount;", Cond.fieldLink RX3 18 "EvenWhite$Past" "next" "I"]
def wsX5_mirror_r2 : List Cond := [Cond.fieldLink RX3 26 "EvenWhite$Past" "many" "I", Cond.methodLink RX3 29 Lib.Math.min.name, Cond.static Lib.Math.min.name, Cond.initialized "java/lang/Math", Cond.code Lib.Math.min.name Lib.Math.min.code 2 (some .int), Cond.methodLink RX3 22 yX1_takeAll, Cond.instanceMethod yX1_takeAll, Cond.selects RX1 yX1_takeAll yX1_takeAll, Cond.code yX1_takeAll cX1_takeAll 2 none, Cond.fieldLink RX1 9 "EvenWhite$Fount" "depth" "I", Cond.fieldLink RX1 15 "EvenWhite$Fount" "wanted" "I", Cond.fieldLink RX1 18 "EvenWhite$Fount" "bodies" "[I", Cond.methodLink RX1 35 arraycopyName, Cond.native arraycopyName, Cond.static arraycopyName, Cond.initialized "java/lang/System", Cond.fieldLink RX1 22 "EvenWhite$Fount" "backs" "[I", Cond.fieldLink RX1 25 "EvenWhite$Fount" "weights" "[I", Cond.methodLink RX5 134 yX0_forget, Cond.instanceMethod yX0_forget, Cond.selects RX0 yX0_forget yX0_forget, Cond.initialized RX0, Cond.code yX0_forget cX0_forget 1 none, Cond.fieldLink RX0 38 "EvenWhite$Even" "found" "Z"]
def wsX5_mirror_r3 : List Cond := [Cond.methodLink RX5 109 yX1_hasLikeSides, Cond.instanceMethod yX1_hasLikeSides, Cond.selects RX1 yX1_hasLikeSides yX1_hasLikeSides, Cond.code yX1_hasLikeSides cX1_hasLikeSides 3 (some .boolean), Cond.methodLink RX1 53 yX1_backOf, Cond.instanceMethod yX1_backOf, Cond.selects RX1 yX1_backOf yX1_backOf, Cond.code yX1_backOf cX1_backOf 4 (some .int), Cond.methodLink RX1 49 yX1_placeOfBack, Cond.static yX1_placeOfBack, Cond.code yX1_placeOfBack cX1_placeOfBack 3 (some .int), Cond.methodLink RX5 112 yX1_swapSides, Cond.instanceMethod yX1_swapSides, Cond.selects RX1 yX1_swapSides yX1_swapSides, Cond.code yX1_swapSides cX1_swapSides 4 none, Cond.methodLink RX1 65 yX1_putBack, Cond.instanceMethod yX1_putBack, Cond.selects RX1 yX1_putBack yX1_putBack, Cond.code yX1_putBack cX1_putBack 5 none]
def wsX5_mirror : List Cond := .code yX5_mirror cX5_mirror 3 (some .int) :: ((wsX5_mirror_r1 ++ (wsX5_mirror_r2 ++ wsX5_mirror_r3)) ++ wsX50 ++ wsX10 ++ wsX30 ++ wsX00)
def wsX5_turn_r1 : List Cond := [Cond.fieldLink RX5 12 "EvenWhite" "fount" "LEvenWhite$Fount;", Cond.fieldLink RX5 57 "EvenWhite$Fount" "many" "I", Cond.methodLink RX5 54 yX5_beginChange, Cond.instanceMethod yX5_beginChange, Cond.selects RX5 yX5_beginChange yX5_beginChange, Cond.initialized RX5, Cond.code yX5_beginChange cX5_beginChange 1 none, Cond.fieldLink RX5 28 "EvenWhite" "past" "LEvenWhite$Past;", Cond.fieldLink RX5 21 "EvenWhite" "even" "LEvenWhite$Even;", Cond.methodLink RX5 229 yX3_remember, Cond.instanceMethod yX3_remember, Cond.selects RX3 yX3_remember yX3_remember, Cond.initialized RX3, Cond.code yX3_remember cX3_remember 2 none, Cond.fieldLink RX3 11 "EvenWhite$Past" "ring" "[LEvenWhite$Fount;", Cond.fieldLink RX3 18 "EvenWhite$Past" "next" "I", Cond.fieldLink RX3 26 "EvenWhite$Past" "many" "I", Cond.methodLink RX3 29 Lib.Math.min.name, Cond.static Lib.Math.min.name, Cond.initialized "java/lang/Math", Cond.code Lib.Math.min.name Lib.Math.min.code 2 (some .int), Cond.methodLink RX3 22 yX1_takeAll, Cond.instanceMethod yX1_takeAll, Cond.selects RX1 yX1_takeAll yX1_takeAll]
def wsX5_turn_r2 : List Cond := [Cond.initialized RX1, Cond.code yX1_takeAll cX1_takeAll 2 none, Cond.fieldLink RX1 32 "EvenWhite$Fount" "many" "I", Cond.fieldLink RX1 9 "EvenWhite$Fount" "depth" "I", Cond.fieldLink RX1 15 "EvenWhite$Fount" "wanted" "I", Cond.fieldLink RX1 18 "EvenWhite$Fount" "bodies" "[I", Cond.methodLink RX1 35 arraycopyName, Cond.native arraycopyName, Cond.static arraycopyName, Cond.initialized "java/lang/System", Cond.fieldLink RX1 22 "EvenWhite$Fount" "backs" "[I", Cond.fieldLink RX1 25 "EvenWhite$Fount" "weights" "[I", Cond.methodLink RX5 134 yX0_forget, Cond.instanceMethod yX0_forget, Cond.selects RX0 yX0_forget yX0_forget, Cond.initialized RX0, Cond.code yX0_forget cX0_forget 1 none, Cond.fieldLink RX0 38 "EvenWhite$Even" "found" "Z", Cond.methodLink RX5 115 yX1_turnRound, Cond.instanceMethod yX1_turnRound, Cond.selects RX1 yX1_turnRound yX1_turnRound, Cond.code yX1_turnRound cX1_turnRound 4 none, Cond.methodLink RX1 69 yX1_swapSides, Cond.instanceMethod yX1_swapSides]
def wsX5_turn_r3 : List Cond := [Cond.selects RX1 yX1_swapSides yX1_swapSides, Cond.code yX1_swapSides cX1_swapSides 4 none, Cond.methodLink RX1 53 yX1_backOf, Cond.instanceMethod yX1_backOf, Cond.selects RX1 yX1_backOf yX1_backOf, Cond.code yX1_backOf cX1_backOf 4 (some .int), Cond.methodLink RX1 49 yX1_placeOfBack, Cond.static yX1_placeOfBack, Cond.code yX1_placeOfBack cX1_placeOfBack 3 (some .int), Cond.methodLink RX1 65 yX1_putBack, Cond.instanceMethod yX1_putBack, Cond.selects RX1 yX1_putBack yX1_putBack, Cond.code yX1_putBack cX1_putBack 5 none, Cond.methodLink RX1 72 yX1_weightOf, Cond.instanceMethod yX1_weightOf, Cond.selects RX1 yX1_weightOf yX1_weightOf, Cond.code yX1_weightOf cX1_weightOf 3 (some .int), Cond.methodLink RX1 75 yX1_putWeight, Cond.instanceMethod yX1_putWeight, Cond.selects RX1 yX1_putWeight yX1_putWeight, Cond.code yX1_putWeight cX1_putWeight 4 none]
def wsX5_turn : List Cond := .code yX5_turn cX5_turn 1 (some .int) :: ((wsX5_turn_r1 ++ (wsX5_turn_r2 ++ wsX5_turn_r3)) ++ wsX50 ++ wsX10 ++ wsX30 ++ wsX00)
def wsX5_copy_r1 : List Cond := [Cond.fieldLink RX5 12 "EvenWhite" "fount" "LEvenWhite$Fount;", Cond.constant RX5 75 (-1000000001), Cond.methodLink RX5 97 yX1_hasPair, Cond.instanceMethod yX1_hasPair, Cond.selects RX1 yX1_hasPair yX1_hasPair, Cond.initialized RX1, Cond.code yX1_hasPair cX1_hasPair 3 (some .boolean), Cond.methodLink RX1 45 yX1_hasLetter, Cond.instanceMethod yX1_hasLetter, Cond.selects RX1 yX1_hasLetter yX1_hasLetter, Cond.code yX1_hasLetter cX1_hasLetter 2 (some .boolean), Cond.fieldLink RX1 32 "EvenWhite$Fount" "many" "I", Cond.static yX5_within, Cond.initialized RX5, Cond.code yX5_within cX5_within 3 (some .boolean), Cond.methodLink RX5 54 yX5_beginChange, Cond.instanceMethod yX5_beginChange, Cond.selects RX5 yX5_beginChange yX5_beginChange, Cond.code yX5_beginChange cX5_beginChange 1 none, Cond.fieldLink RX5 28 "EvenWhite" "past" "LEvenWhite$Past;", Cond.fieldLink RX5 21 "EvenWhite" "even" "LEvenWhite$Even;", Cond.methodLink RX5 229 yX3_remember, Cond.instanceMethod yX3_remember, Cond.selects RX3 yX3_remember yX3_remember]
def wsX5_copy_r2 : List Cond := [Cond.initialized RX3, Cond.code yX3_remember cX3_remember 2 none, Cond.fieldLink RX3 11 "EvenWhite$Past" "ring" "[LEvenWhite$Fount;", Cond.fieldLink RX3 18 "EvenWhite$Past" "next" "I", Cond.fieldLink RX3 26 "EvenWhite$Past" "many" "I", Cond.methodLink RX3 29 Lib.Math.min.name, Cond.static Lib.Math.min.name, Cond.initialized "java/lang/Math", Cond.code Lib.Math.min.name Lib.Math.min.code 2 (some .int), Cond.methodLink RX3 22 yX1_takeAll, Cond.instanceMethod yX1_takeAll, Cond.selects RX1 yX1_takeAll yX1_takeAll, Cond.code yX1_takeAll cX1_takeAll 2 none, Cond.fieldLink RX1 9 "EvenWhite$Fount" "depth" "I", Cond.fieldLink RX1 15 "EvenWhite$Fount" "wanted" "I", Cond.fieldLink RX1 18 "EvenWhite$Fount" "bodies" "[I", Cond.methodLink RX1 35 arraycopyName, Cond.native arraycopyName, Cond.static arraycopyName, Cond.initialized "java/lang/System", Cond.fieldLink RX1 22 "EvenWhite$Fount" "backs" "[I", Cond.fieldLink RX1 25 "EvenWhite$Fount" "weights" "[I", Cond.methodLink RX5 134 yX0_forget, Cond.instanceMethod yX0_forget]
def wsX5_copy_r3 : List Cond := [Cond.selects RX0 yX0_forget yX0_forget, Cond.initialized RX0, Cond.code yX0_forget cX0_forget 1 none, Cond.fieldLink RX0 38 "EvenWhite$Even" "found" "Z", Cond.methodLink RX5 118 yX1_takeLetter, Cond.instanceMethod yX1_takeLetter, Cond.selects RX1 yX1_takeLetter yX1_takeLetter, Cond.code yX1_takeLetter cX1_takeLetter 7 (some .int), Cond.methodLink RX1 53 yX1_backOf, Cond.instanceMethod yX1_backOf, Cond.selects RX1 yX1_backOf yX1_backOf, Cond.code yX1_backOf cX1_backOf 4 (some .int), Cond.methodLink RX1 49 yX1_placeOfBack, Cond.static yX1_placeOfBack, Cond.code yX1_placeOfBack cX1_placeOfBack 3 (some .int), Cond.methodLink RX1 65 yX1_putBack, Cond.instanceMethod yX1_putBack, Cond.selects RX1 yX1_putBack yX1_putBack, Cond.code yX1_putBack cX1_putBack 5 none]
def wsX5_copy : List Cond := .code yX5_copy cX5_copy 3 (some .int) :: ((wsX5_copy_r1 ++ (wsX5_copy_r2 ++ wsX5_copy_r3)) ++ wsX50 ++ wsX10 ++ wsX30 ++ wsX00)
def wsX5_drift_r1 : List Cond := [Cond.constant RX5 121 (999999), Cond.constant RX5 53 (-1000000002), Cond.fieldLink RX5 12 "EvenWhite" "fount" "LEvenWhite$Fount;", Cond.methodLink RX5 49 yX5_within, Cond.static yX5_within, Cond.initialized RX5, Cond.code yX5_within cX5_within 3 (some .boolean), Cond.methodLink RX5 54 yX5_beginChange, Cond.instanceMethod yX5_beginChange, Cond.selects RX5 yX5_beginChange yX5_beginChange, Cond.code yX5_beginChange cX5_beginChange 1 none, Cond.fieldLink RX5 28 "EvenWhite" "past" "LEvenWhite$Past;", Cond.fieldLink RX5 21 "EvenWhite" "even" "LEvenWhite$Even;", Cond.methodLink RX5 229 yX3_remember, Cond.instanceMethod yX3_remember, Cond.selects RX3 yX3_remember yX3_remember, Cond.initialized RX3, Cond.code yX3_remember cX3_remember 2 none, Cond.fieldLink RX3 11 "EvenWhite$Past" "ring" "[LEvenWhite$Fount;", Cond.fieldLink RX3 18 "EvenWhite$Past" "next" "I", Cond.fieldLink RX3 26 "EvenWhite$Past" "many" "I", Cond.methodLink RX3 29 Lib.Math.min.name, Cond.static Lib.Math.min.name, Cond.initialized "java/lang/Math"]
def wsX5_drift_r2 : List Cond := [Cond.code Lib.Math.min.name Lib.Math.min.code 2 (some .int), Cond.methodLink RX3 22 yX1_takeAll, Cond.instanceMethod yX1_takeAll, Cond.selects RX1 yX1_takeAll yX1_takeAll, Cond.initialized RX1, Cond.code yX1_takeAll cX1_takeAll 2 none, Cond.fieldLink RX1 32 "EvenWhite$Fount" "many" "I", Cond.fieldLink RX1 9 "EvenWhite$Fount" "depth" "I", Cond.fieldLink RX1 15 "EvenWhite$Fount" "wanted" "I", Cond.fieldLink RX1 18 "EvenWhite$Fount" "bodies" "[I", Cond.methodLink RX1 35 arraycopyName, Cond.native arraycopyName, Cond.static arraycopyName, Cond.initialized "java/lang/System", Cond.fieldLink RX1 22 "EvenWhite$Fount" "backs" "[I", Cond.fieldLink RX1 25 "EvenWhite$Fount" "weights" "[I", Cond.methodLink RX5 134 yX0_forget, Cond.instanceMethod yX0_forget, Cond.selects RX0 yX0_forget yX0_forget, Cond.initialized RX0, Cond.code yX0_forget cX0_forget 1 none, Cond.fieldLink RX0 38 "EvenWhite$Even" "found" "Z", Cond.methodLink RX5 122 yX1_drawLots, Cond.instanceMethod yX1_drawLots]
def wsX5_drift_r3 : List Cond := [Cond.selects RX1 yX1_drawLots yX1_drawLots, Cond.code yX1_drawLots cX1_drawLots 7 none, Cond.constantLong RX1 83 (31), Cond.constantLong RX1 85 (5), Cond.methodLink RX1 79 yX1_nextLot, Cond.static yX1_nextLot, Cond.code yX1_nextLot cX1_nextLot 2 (some .long), Cond.constantLong RX1 87 (16807), Cond.constantLong RX1 89 (2147483647), Cond.methodLink RX1 65 yX1_putBack, Cond.instanceMethod yX1_putBack, Cond.selects RX1 yX1_putBack yX1_putBack, Cond.code yX1_putBack cX1_putBack 5 none, Cond.methodLink RX1 49 yX1_placeOfBack, Cond.static yX1_placeOfBack, Cond.code yX1_placeOfBack cX1_placeOfBack 3 (some .int), Cond.methodLink RX1 75 yX1_putWeight, Cond.instanceMethod yX1_putWeight, Cond.selects RX1 yX1_putWeight yX1_putWeight, Cond.code yX1_putWeight cX1_putWeight 4 none, Cond.methodLink RX5 125 yX1_bareOfAll, Cond.instanceMethod yX1_bareOfAll, Cond.selects RX1 yX1_bareOfAll yX1_bareOfAll, Cond.code yX1_bareOfAll cX1_bareOfAll 4 (some .int)]
def wsX5_drift_r4 : List Cond := [Cond.methodLink RX1 62 yX1_bareOf, Cond.instanceMethod yX1_bareOf, Cond.selects RX1 yX1_bareOf yX1_bareOf, Cond.code yX1_bareOf cX1_bareOf 7 (some .int), Cond.methodLink RX1 56 Lib.Math.min.name]
def wsX5_drift : List Cond := .code yX5_drift cX5_drift 2 (some .int) :: ((wsX5_drift_r1 ++ (wsX5_drift_r2 ++ (wsX5_drift_r3 ++ wsX5_drift_r4))) ++ wsX50 ++ wsX30 ++ wsX10 ++ wsX00)
def wsX5_undo_r1 : List Cond := [Cond.fieldLink RX5 28 "EvenWhite" "past" "LEvenWhite$Past;", Cond.fieldLink RX5 129 "EvenWhite$Past" "many" "I", Cond.constant RX5 130 (-1000000003), Cond.fieldLink RX5 12 "EvenWhite" "fount" "LEvenWhite$Fount;", Cond.fieldLink RX5 57 "EvenWhite$Fount" "many" "I", Cond.fieldLink RX5 21 "EvenWhite" "even" "LEvenWhite$Even;", Cond.fieldLink RX5 37 "EvenWhite" "line" "LEvenWhite$Line;", Cond.methodLink RX5 131 yX3_giveBack, Cond.instanceMethod yX3_giveBack, Cond.selects RX3 yX3_giveBack yX3_giveBack, Cond.initialized RX3, Cond.code yX3_giveBack cX3_giveBack 2 none, Cond.fieldLink RX3 18 "EvenWhite$Past" "next" "I", Cond.fieldLink RX3 26 "EvenWhite$Past" "many" "I", Cond.methodLink RX3 35 Lib.Math.max.name, Cond.static Lib.Math.max.name, Cond.initialized "java/lang/Math", Cond.code Lib.Math.max.name Lib.Math.max.code 2 (some .int), Cond.fieldLink RX3 11 "EvenWhite$Past" "ring" "[LEvenWhite$Fount;", Cond.methodLink RX3 22 yX1_takeAll, Cond.instanceMethod yX1_takeAll, Cond.selects RX1 yX1_takeAll yX1_takeAll, Cond.initialized RX1, Cond.code yX1_takeAll cX1_takeAll 2 none]
def wsX5_undo_r2 : List Cond := [Cond.fieldLink RX1 32 "EvenWhite$Fount" "many" "I", Cond.fieldLink RX1 9 "EvenWhite$Fount" "depth" "I", Cond.fieldLink RX1 15 "EvenWhite$Fount" "wanted" "I", Cond.fieldLink RX1 18 "EvenWhite$Fount" "bodies" "[I", Cond.methodLink RX1 35 arraycopyName, Cond.native arraycopyName, Cond.static arraycopyName, Cond.initialized "java/lang/System", Cond.fieldLink RX1 22 "EvenWhite$Fount" "backs" "[I", Cond.fieldLink RX1 25 "EvenWhite$Fount" "weights" "[I", Cond.methodLink RX5 134 yX0_forget, Cond.instanceMethod yX0_forget, Cond.selects RX0 yX0_forget yX0_forget, Cond.initialized RX0, Cond.code yX0_forget cX0_forget 1 none, Cond.fieldLink RX0 38 "EvenWhite$Even" "found" "Z", Cond.methodLink RX5 65 yX2_makeEmpty, Cond.instanceMethod yX2_makeEmpty, Cond.selects RX2 yX2_makeEmpty yX2_makeEmpty, Cond.initialized RX2, Cond.code yX2_makeEmpty cX2_makeEmpty 1 none, Cond.fieldLink RX2 30 "EvenWhite$Line" "many" "I"]
def wsX5_undo : List Cond := .code yX5_undo cX5_undo 2 (some .int) :: ((wsX5_undo_r1 ++ wsX5_undo_r2) ++ wsX50 ++ wsX30 ++ wsX10 ++ wsX00 ++ wsX20)
def wsX5_told_r1 : List Cond := [Cond.fieldLink RX5 21 "EvenWhite" "even" "LEvenWhite$Even;", Cond.fieldLink RX5 12 "EvenWhite" "fount" "LEvenWhite$Fount;", Cond.fieldLink RX5 57 "EvenWhite$Fount" "many" "I", Cond.fieldLink RX5 91 "EvenWhite$Fount" "depth" "I", Cond.fieldLink RX5 94 "EvenWhite$Fount" "wanted" "I", Cond.fieldLink RX5 37 "EvenWhite" "line" "LEvenWhite$Line;", Cond.fieldLink RX5 163 "EvenWhite$Line" "many" "I", Cond.fieldLink RX5 177 "EvenWhite$Text" "many" "I", Cond.fieldLink RX5 28 "EvenWhite" "past" "LEvenWhite$Past;", Cond.fieldLink RX5 129 "EvenWhite$Past" "many" "I", Cond.constantLong RX5 180 (-1000000002), Cond.methodLink RX5 137 yX0_find, Cond.instanceMethod yX0_find, Cond.selects RX0 yX0_find yX0_find, Cond.initialized RX0, Cond.code yX0_find cX0_find 1 none, Cond.fieldLink RX0 38 "EvenWhite$Even" "found" "Z", Cond.methodLink RX0 42 yX0_writeRows, Cond.instanceMethod yX0_writeRows, Cond.selects RX0 yX0_writeRows yX0_writeRows, Cond.code yX0_writeRows cX0_writeRows 3 none, Cond.fieldLink RX0 17 "EvenWhite$Even" "rows" "[[J", Cond.fieldLink RX0 9 "EvenWhite$Even" "fount" "LEvenWhite$Fount;", Cond.fieldLink RX0 51 "EvenWhite$Fount" "many" "I"]
def wsX5_told_r2 : List Cond := [Cond.methodLink RX0 57 yX0_addPair, Cond.instanceMethod yX0_addPair, Cond.selects RX0 yX0_addPair yX0_addPair, Cond.code yX0_addPair cX0_addPair 9 none, Cond.fieldLink RX0 65 "EvenWhite$Fount" "wanted" "I", Cond.methodLink RX0 61 yX1_weightOf, Cond.instanceMethod yX1_weightOf, Cond.selects RX1 yX1_weightOf yX1_weightOf, Cond.initialized RX1, Cond.code yX1_weightOf cX1_weightOf 3 (some .int), Cond.fieldLink RX1 25 "EvenWhite$Fount" "weights" "[I", Cond.methodLink RX0 68 yX1_bareOf, Cond.instanceMethod yX1_bareOf, Cond.selects RX1 yX1_bareOf yX1_bareOf, Cond.code yX1_bareOf cX1_bareOf 7 (some .int), Cond.fieldLink RX1 9 "EvenWhite$Fount" "depth" "I", Cond.fieldLink RX1 22 "EvenWhite$Fount" "backs" "[I", Cond.methodLink RX1 56 Lib.Math.min.name, Cond.static Lib.Math.min.name, Cond.initialized "java/lang/Math", Cond.code Lib.Math.min.name Lib.Math.min.code 2 (some .int), Cond.methodLink RX1 49 yX1_placeOfBack, Cond.static yX1_placeOfBack, Cond.code yX1_placeOfBack cX1_placeOfBack 3 (some .int)]
def wsX5_told_r3 : List Cond := [Cond.methodLink RX0 71 yX0_numberOf, Cond.instanceMethod yX0_numberOf, Cond.selects RX0 yX0_numberOf yX0_numberOf, Cond.code yX0_numberOf cX0_numberOf 3 (some .int), Cond.methodLink RX0 45 yX0_solveRows, Cond.instanceMethod yX0_solveRows, Cond.selects RX0 yX0_solveRows yX0_solveRows, Cond.code yX0_solveRows cX0_solveRows 2 none, Cond.fieldLink RX0 28 "EvenWhite$Even" "below" "J", Cond.fieldLink RX0 20 "EvenWhite$Even" "open" "[Z", Cond.fieldLink RX0 24 "EvenWhite$Even" "eightfold" "[J", Cond.methodLink RX0 74 yX0_spaces, Cond.instanceMethod yX0_spaces, Cond.selects RX0 yX0_spaces yX0_spaces, Cond.code yX0_spaces cX0_spaces 1 (some .int), Cond.methodLink RX0 78 yX0_clearColumn, Cond.instanceMethod yX0_clearColumn, Cond.selects RX0 yX0_clearColumn yX0_clearColumn, Cond.code yX0_clearColumn cX0_clearColumn 10 none, Cond.methodLink RX0 82 Lib.MathLoose.max_long.x, Cond.static Lib.MathLoose.max_long.x, Cond.code Lib.MathLoose.max_long.x Lib.MathLoose.max_long.code 4 (some .long), Cond.methodLink RX0 48 yX0_makeWhole, Cond.instanceMethod yX0_makeWhole]
def wsX5_told_r4 : List Cond := [Cond.selects RX0 yX0_makeWhole yX0_makeWhole, Cond.code yX0_makeWhole cX0_makeWhole 11 none, Cond.constantLong RX0 88 (8), Cond.fieldLink RX0 32 "EvenWhite$Even" "whole" "[J", Cond.fieldLink RX0 35 "EvenWhite$Even" "rest" "[J", Cond.constantLong RX0 96 (2), Cond.constantLong RX0 101 (-1), Cond.methodLink RX0 90 yJ9_floorDiv_f86c9, Cond.static yJ9_floorDiv_f86c9, Cond.initialized RJ9, Cond.code yJ9_floorDiv_f86c9 cJ9_floorDiv_f86c9 6 (some .long), Cond.methodLink RX0 93 yJ9_floorMod_f86c9, Cond.static yJ9_floorMod_f86c9, Cond.code yJ9_floorMod_f86c9 cJ9_floorMod_f86c9 6 (some .long), Cond.methodLink RX0 98 yX0_firstOfGreatestRest, Cond.instanceMethod yX0_firstOfGreatestRest, Cond.selects RX0 yX0_firstOfGreatestRest yX0_firstOfGreatestRest, Cond.code yX0_firstOfGreatestRest cX0_firstOfGreatestRest 3 (some .int), Cond.methodLink RX5 140 yX1_pairsWithWeight, Cond.instanceMethod yX1_pairsWithWeight, Cond.selects RX1 yX1_pairsWithWeight yX1_pairsWithWeight, Cond.code yX1_pairsWithWeight cX1_pairsWithWeight 3 (some .int), Cond.methodLink RX5 143 yX0_worst, Cond.instanceMethod yX0_worst]
def wsX5_told_r5 : List Cond := [Cond.selects RX0 yX0_worst yX0_worst, Cond.code yX0_worst cX0_worst 8 (some .int), Cond.methodLink RX0 113 Lib.MathLoose.abs_long.x, Cond.static Lib.MathLoose.abs_long.x, Cond.code Lib.MathLoose.abs_long.x Lib.MathLoose.abs_long.code 2 (some .long), Cond.methodLink RX0 110 yX0_leftOverAbove, Cond.instanceMethod yX0_leftOverAbove, Cond.selects RX0 yX0_leftOverAbove yX0_leftOverAbove, Cond.code yX0_leftOverAbove cX0_leftOverAbove 3 (some .long), Cond.methodLink RX0 107 yX0_whiteAbove, Cond.instanceMethod yX0_whiteAbove, Cond.selects RX0 yX0_whiteAbove yX0_whiteAbove, Cond.code yX0_whiteAbove cX0_whiteAbove 3 (some .long), Cond.methodLink RX0 103 yX0_spaceAbove, Cond.instanceMethod yX0_spaceAbove, Cond.selects RX0 yX0_spaceAbove yX0_spaceAbove, Cond.code yX0_spaceAbove cX0_spaceAbove 3 (some .long), Cond.methodLink RX5 146 yX0_squaresAbove, Cond.instanceMethod yX0_squaresAbove, Cond.selects RX0 yX0_squaresAbove yX0_squaresAbove, Cond.code yX0_squaresAbove cX0_squaresAbove 7 (some .long), Cond.methodLink RX5 150 yX0_squaresBelow, Cond.instanceMethod yX0_squaresBelow, Cond.selects RX0 yX0_squaresBelow yX0_squaresBelow]
def wsX5_told_r6 : List Cond := [Cond.code yX0_squaresBelow cX0_squaresBelow 1 (some .long), Cond.methodLink RX5 153 yX5_aboveOf, Cond.static yX5_aboveOf, Cond.initialized RX5, Cond.code yX5_aboveOf cX5_aboveOf 4 (some .long), Cond.methodLink RX5 232 yX5_commonDivisor, Cond.static yX5_commonDivisor, Cond.code yX5_commonDivisor cX5_commonDivisor 11 (some .long), Cond.methodLink RX5 235 Lib.MathLoose.abs_long.x, Cond.methodLink RX5 241 Lib.MathLoose.max_long.x, Cond.methodLink RX5 157 yX5_belowOf, Cond.static yX5_belowOf, Cond.code yX5_belowOf cX5_belowOf 4 (some .long), Cond.methodLink RX5 160 yX0_openSpaces, Cond.instanceMethod yX0_openSpaces, Cond.selects RX0 yX0_openSpaces yX0_openSpaces, Cond.code yX0_openSpaces cX0_openSpaces 3 (some .int), Cond.methodLink RX5 164 yX2_wideAbove, Cond.instanceMethod yX2_wideAbove, Cond.selects RX2 yX2_wideAbove yX2_wideAbove, Cond.initialized RX2, Cond.code yX2_wideAbove cX2_wideAbove 4 (some .long), Cond.fieldLink RX2 30 "EvenWhite$Line" "many" "I", Cond.fieldLink RX2 15 "EvenWhite$Line" "fount" "LEvenWhite$Fount;"]
def wsX5_told_r7 : List Cond := [Cond.fieldLink RX2 38 "EvenWhite$Fount" "bodies" "[I", Cond.fieldLink RX2 9 "EvenWhite$Line" "places" "[I", Cond.fieldLink RX2 19 "EvenWhite$Line" "even" "LEvenWhite$Even;", Cond.methodLink RX2 43 yX0_spaceBelow, Cond.instanceMethod yX0_spaceBelow, Cond.selects RX0 yX0_spaceBelow yX0_spaceBelow, Cond.code yX0_spaceBelow cX0_spaceBelow 1 (some .long), Cond.methodLink RX2 49 yX0_spaceAbove, Cond.methodLink RX5 167 yX0_spaceBelow, Cond.methodLink RX5 170 yX2_thin, Cond.instanceMethod yX2_thin, Cond.selects RX2 yX2_thin yX2_thin, Cond.code yX2_thin cX2_thin 7 (some .int), Cond.methodLink RX2 53 yX0_whiteAbove, Cond.methodLink RX5 173 yX2_written, Cond.instanceMethod yX2_written, Cond.selects RX2 yX2_written yX2_written, Cond.code yX2_written cX2_written 3 (some (.object "EvenWhite$Text")), Cond.fieldLink RX2 26 "EvenWhite$Line" "text" "LEvenWhite$Text;", Cond.methodLink RX2 56 yX4_makeEmpty, Cond.instanceMethod yX4_makeEmpty, Cond.selects RX4 yX4_makeEmpty yX4_makeEmpty, Cond.initialized RX4, Cond.code yX4_makeEmpty cX4_makeEmpty 1 none]
def wsX5_told_r8 : List Cond := [Cond.fieldLink RX4 15 "EvenWhite$Text" "many" "I", Cond.methodLink RX2 59 yX2_signBetween, Cond.instanceMethod yX2_signBetween, Cond.selects RX2 yX2_signBetween yX2_signBetween, Cond.code yX2_signBetween cX2_signBetween 5 (some .int), Cond.methodLink RX2 81 yX0_leftOverAbove, Cond.methodLink RX2 63 yX4_addSign, Cond.instanceMethod yX4_addSign, Cond.selects RX4 yX4_addSign yX4_addSign, Cond.code yX4_addSign cX4_addSign 2 none, Cond.fieldLink RX4 9 "EvenWhite$Text" "signs" "[I", Cond.methodLink RX2 67 yX2_wideAbove, Cond.methodLink RX2 74 yX4_addNumber, Cond.instanceMethod yX4_addNumber, Cond.selects RX4 yX4_addNumber yX4_addNumber, Cond.code yX4_addNumber cX4_addNumber 8 none, Cond.methodLink RX4 23 Lib.MathLoose.abs_long.x, Cond.constantLong RX4 29 (10), Cond.methodLink RX4 19 yX4_addSign]
def wsX5_told : List Cond := .code yX5_told cX5_told 2 (some .long) :: ((wsX5_told_r1 ++ (wsX5_told_r2 ++ (wsX5_told_r3 ++ (wsX5_told_r4 ++ (wsX5_told_r5 ++ (wsX5_told_r6 ++ (wsX5_told_r7 ++ wsX5_told_r8))))))) ++ wsX50 ++ wsX10 ++ wsX20 ++ wsX40 ++ wsX30 ++ wsX00)
def wsX5_letter_r1 : List Cond := [Cond.fieldLink RX5 12 "EvenWhite" "fount" "LEvenWhite$Fount;", Cond.constant RX5 75 (-1000000001), Cond.fieldLink RX5 87 "EvenWhite$Fount" "bodies" "[I", Cond.constant RX5 53 (-1000000002), Cond.methodLink RX5 68 yX1_hasLetter, Cond.instanceMethod yX1_hasLetter, Cond.selects RX1 yX1_hasLetter yX1_hasLetter, Cond.initialized RX1, Cond.code yX1_hasLetter cX1_hasLetter 2 (some .boolean), Cond.fieldLink RX1 32 "EvenWhite$Fount" "many" "I", Cond.static yX5_within, Cond.initialized RX5, Cond.code yX5_within cX5_within 3 (some .boolean), Cond.methodLink RX5 109 yX1_hasLikeSides, Cond.instanceMethod yX1_hasLikeSides, Cond.selects RX1 yX1_hasLikeSides yX1_hasLikeSides, Cond.code yX1_hasLikeSides cX1_hasLikeSides 3 (some .boolean), Cond.methodLink RX1 53 yX1_backOf, Cond.instanceMethod yX1_backOf, Cond.selects RX1 yX1_backOf yX1_backOf, Cond.code yX1_backOf cX1_backOf 4 (some .int), Cond.fieldLink RX1 22 "EvenWhite$Fount" "backs" "[I", Cond.methodLink RX1 49 yX1_placeOfBack, Cond.static yX1_placeOfBack]
def wsX5_letter_r2 : List Cond := [Cond.code yX1_placeOfBack cX1_placeOfBack 3 (some .int), Cond.methodLink RX5 182 yX1_sumOfSide, Cond.instanceMethod yX1_sumOfSide, Cond.selects RX1 yX1_sumOfSide yX1_sumOfSide, Cond.code yX1_sumOfSide cX1_sumOfSide 5 (some .int)]
def wsX5_letter : List Cond := .code yX5_letter cX5_letter 3 (some .int) :: ((wsX5_letter_r1 ++ wsX5_letter_r2) ++ wsX50 ++ wsX10)
def wsX5_back_r1 : List Cond := [Cond.fieldLink RX5 12 "EvenWhite" "fount" "LEvenWhite$Fount;", Cond.constant RX5 75 (-1000000001), Cond.constant RX5 53 (-1000000002), Cond.methodLink RX5 68 yX1_hasLetter, Cond.instanceMethod yX1_hasLetter, Cond.selects RX1 yX1_hasLetter yX1_hasLetter, Cond.initialized RX1, Cond.code yX1_hasLetter cX1_hasLetter 2 (some .boolean), Cond.fieldLink RX1 32 "EvenWhite$Fount" "many" "I", Cond.static yX5_within, Cond.initialized RX5, Cond.code yX5_within cX5_within 3 (some .boolean), Cond.methodLink RX5 72 yX5_isHeight, Cond.static yX5_isHeight, Cond.code yX5_isHeight cX5_isHeight 1 (some .boolean), Cond.methodLink RX5 49 yX5_within, Cond.methodLink RX5 76 yX5_isSide, Cond.static yX5_isSide, Cond.code yX5_isSide cX5_isSide 1 (some .boolean), Cond.methodLink RX5 79 yX1_backOf, Cond.instanceMethod yX1_backOf, Cond.selects RX1 yX1_backOf yX1_backOf, Cond.code yX1_backOf cX1_backOf 4 (some .int), Cond.fieldLink RX1 22 "EvenWhite$Fount" "backs" "[I"]
def wsX5_back_r2 : List Cond := [Cond.methodLink RX1 49 yX1_placeOfBack, Cond.static yX1_placeOfBack, Cond.code yX1_placeOfBack cX1_placeOfBack 3 (some .int)]
def wsX5_back : List Cond := .code yX5_back cX5_back 4 (some .int) :: ((wsX5_back_r1 ++ wsX5_back_r2) ++ wsX50 ++ wsX10)
def wsX5_space_r1 : List Cond := [Cond.fieldLink RX5 12 "EvenWhite" "fount" "LEvenWhite$Fount;", Cond.constantLong RX5 185 (-1000000001), Cond.constantLong RX5 180 (-1000000002), Cond.fieldLink RX5 21 "EvenWhite" "even" "LEvenWhite$Even;", Cond.methodLink RX5 68 yX1_hasLetter, Cond.instanceMethod yX1_hasLetter, Cond.selects RX1 yX1_hasLetter yX1_hasLetter, Cond.initialized RX1, Cond.code yX1_hasLetter cX1_hasLetter 2 (some .boolean), Cond.fieldLink RX1 32 "EvenWhite$Fount" "many" "I", Cond.static yX5_within, Cond.initialized RX5, Cond.code yX5_within cX5_within 3 (some .boolean), Cond.methodLink RX5 76 yX5_isSide, Cond.static yX5_isSide, Cond.code yX5_isSide cX5_isSide 1 (some .boolean), Cond.methodLink RX5 49 yX5_within, Cond.methodLink RX5 137 yX0_find, Cond.instanceMethod yX0_find, Cond.selects RX0 yX0_find yX0_find, Cond.initialized RX0, Cond.code yX0_find cX0_find 1 none, Cond.fieldLink RX0 38 "EvenWhite$Even" "found" "Z", Cond.methodLink RX0 42 yX0_writeRows]
def wsX5_space_r2 : List Cond := [Cond.instanceMethod yX0_writeRows, Cond.selects RX0 yX0_writeRows yX0_writeRows, Cond.code yX0_writeRows cX0_writeRows 3 none, Cond.fieldLink RX0 17 "EvenWhite$Even" "rows" "[[J", Cond.fieldLink RX0 9 "EvenWhite$Even" "fount" "LEvenWhite$Fount;", Cond.fieldLink RX0 51 "EvenWhite$Fount" "many" "I", Cond.methodLink RX0 57 yX0_addPair, Cond.instanceMethod yX0_addPair, Cond.selects RX0 yX0_addPair yX0_addPair, Cond.code yX0_addPair cX0_addPair 9 none, Cond.fieldLink RX0 65 "EvenWhite$Fount" "wanted" "I", Cond.methodLink RX0 61 yX1_weightOf, Cond.instanceMethod yX1_weightOf, Cond.selects RX1 yX1_weightOf yX1_weightOf, Cond.code yX1_weightOf cX1_weightOf 3 (some .int), Cond.fieldLink RX1 25 "EvenWhite$Fount" "weights" "[I", Cond.methodLink RX0 68 yX1_bareOf, Cond.instanceMethod yX1_bareOf, Cond.selects RX1 yX1_bareOf yX1_bareOf, Cond.code yX1_bareOf cX1_bareOf 7 (some .int), Cond.fieldLink RX1 9 "EvenWhite$Fount" "depth" "I", Cond.fieldLink RX1 22 "EvenWhite$Fount" "backs" "[I", Cond.methodLink RX1 56 Lib.Math.min.name, Cond.static Lib.Math.min.name]
def wsX5_space_r3 : List Cond := [Cond.initialized "java/lang/Math", Cond.code Lib.Math.min.name Lib.Math.min.code 2 (some .int), Cond.methodLink RX1 49 yX1_placeOfBack, Cond.static yX1_placeOfBack, Cond.code yX1_placeOfBack cX1_placeOfBack 3 (some .int), Cond.methodLink RX0 71 yX0_numberOf, Cond.instanceMethod yX0_numberOf, Cond.selects RX0 yX0_numberOf yX0_numberOf, Cond.code yX0_numberOf cX0_numberOf 3 (some .int), Cond.methodLink RX0 45 yX0_solveRows, Cond.instanceMethod yX0_solveRows, Cond.selects RX0 yX0_solveRows yX0_solveRows, Cond.code yX0_solveRows cX0_solveRows 2 none, Cond.fieldLink RX0 28 "EvenWhite$Even" "below" "J", Cond.fieldLink RX0 20 "EvenWhite$Even" "open" "[Z", Cond.fieldLink RX0 24 "EvenWhite$Even" "eightfold" "[J", Cond.methodLink RX0 74 yX0_spaces, Cond.instanceMethod yX0_spaces, Cond.selects RX0 yX0_spaces yX0_spaces, Cond.code yX0_spaces cX0_spaces 1 (some .int), Cond.methodLink RX0 78 yX0_clearColumn, Cond.instanceMethod yX0_clearColumn, Cond.selects RX0 yX0_clearColumn yX0_clearColumn, Cond.code yX0_clearColumn cX0_clearColumn 10 none]
def wsX5_space_r4 : List Cond := [Cond.methodLink RX0 82 Lib.MathLoose.max_long.x, Cond.static Lib.MathLoose.max_long.x, Cond.code Lib.MathLoose.max_long.x Lib.MathLoose.max_long.code 4 (some .long), Cond.methodLink RX0 48 yX0_makeWhole, Cond.instanceMethod yX0_makeWhole, Cond.selects RX0 yX0_makeWhole yX0_makeWhole, Cond.code yX0_makeWhole cX0_makeWhole 11 none, Cond.constantLong RX0 88 (8), Cond.fieldLink RX0 32 "EvenWhite$Even" "whole" "[J", Cond.fieldLink RX0 35 "EvenWhite$Even" "rest" "[J", Cond.constantLong RX0 96 (2), Cond.constantLong RX0 101 (-1), Cond.methodLink RX0 90 yJ9_floorDiv_f86c9, Cond.static yJ9_floorDiv_f86c9, Cond.initialized RJ9, Cond.code yJ9_floorDiv_f86c9 cJ9_floorDiv_f86c9 6 (some .long), Cond.methodLink RX0 93 yJ9_floorMod_f86c9, Cond.static yJ9_floorMod_f86c9, Cond.code yJ9_floorMod_f86c9 cJ9_floorMod_f86c9 6 (some .long), Cond.methodLink RX0 98 yX0_firstOfGreatestRest, Cond.instanceMethod yX0_firstOfGreatestRest, Cond.selects RX0 yX0_firstOfGreatestRest yX0_firstOfGreatestRest, Cond.code yX0_firstOfGreatestRest cX0_firstOfGreatestRest 3 (some .int), Cond.methodLink RX5 187 yX0_spaceAbove]
def wsX5_space_r5 : List Cond := [Cond.instanceMethod yX0_spaceAbove, Cond.selects RX0 yX0_spaceAbove yX0_spaceAbove, Cond.code yX0_spaceAbove cX0_spaceAbove 3 (some .long), Cond.methodLink RX5 167 yX0_spaceBelow, Cond.instanceMethod yX0_spaceBelow, Cond.selects RX0 yX0_spaceBelow yX0_spaceBelow, Cond.code yX0_spaceBelow cX0_spaceBelow 1 (some .long), Cond.methodLink RX5 153 yX5_aboveOf, Cond.static yX5_aboveOf, Cond.code yX5_aboveOf cX5_aboveOf 4 (some .long), Cond.methodLink RX5 232 yX5_commonDivisor, Cond.static yX5_commonDivisor, Cond.code yX5_commonDivisor cX5_commonDivisor 11 (some .long), Cond.methodLink RX5 235 Lib.MathLoose.abs_long.x, Cond.static Lib.MathLoose.abs_long.x, Cond.code Lib.MathLoose.abs_long.x Lib.MathLoose.abs_long.code 2 (some .long), Cond.methodLink RX5 241 Lib.MathLoose.max_long.x, Cond.methodLink RX5 157 yX5_belowOf, Cond.static yX5_belowOf, Cond.code yX5_belowOf cX5_belowOf 4 (some .long), Cond.methodLink RX5 191 yX0_isOpen, Cond.instanceMethod yX0_isOpen, Cond.selects RX0 yX0_isOpen yX0_isOpen, Cond.code yX0_isOpen cX0_isOpen 3 (some .boolean)]
def wsX5_space_r6 : List Cond := [Cond.methodLink RX5 194 yX0_wholeSpace, Cond.instanceMethod yX0_wholeSpace, Cond.selects RX0 yX0_wholeSpace yX0_wholeSpace, Cond.code yX0_wholeSpace cX0_wholeSpace 3 (some .long)]
def wsX5_space : List Cond := .code yX5_space cX5_space 4 (some .long) :: ((wsX5_space_r1 ++ (wsX5_space_r2 ++ (wsX5_space_r3 ++ (wsX5_space_r4 ++ (wsX5_space_r5 ++ wsX5_space_r6))))) ++ wsX50 ++ wsX10 ++ wsX00)
def wsX5_pair_r1 : List Cond := [Cond.fieldLink RX5 12 "EvenWhite" "fount" "LEvenWhite$Fount;", Cond.constantLong RX5 185 (-1000000001), Cond.fieldLink RX5 21 "EvenWhite" "even" "LEvenWhite$Even;", Cond.constantLong RX5 180 (-1000000002), Cond.methodLink RX5 97 yX1_hasPair, Cond.instanceMethod yX1_hasPair, Cond.selects RX1 yX1_hasPair yX1_hasPair, Cond.initialized RX1, Cond.code yX1_hasPair cX1_hasPair 3 (some .boolean), Cond.methodLink RX1 45 yX1_hasLetter, Cond.instanceMethod yX1_hasLetter, Cond.selects RX1 yX1_hasLetter yX1_hasLetter, Cond.code yX1_hasLetter cX1_hasLetter 2 (some .boolean), Cond.fieldLink RX1 32 "EvenWhite$Fount" "many" "I", Cond.static yX5_within, Cond.initialized RX5, Cond.code yX5_within cX5_within 3 (some .boolean), Cond.methodLink RX5 137 yX0_find, Cond.instanceMethod yX0_find, Cond.selects RX0 yX0_find yX0_find, Cond.initialized RX0, Cond.code yX0_find cX0_find 1 none, Cond.fieldLink RX0 38 "EvenWhite$Even" "found" "Z", Cond.methodLink RX0 42 yX0_writeRows]
def wsX5_pair_r2 : List Cond := [Cond.instanceMethod yX0_writeRows, Cond.selects RX0 yX0_writeRows yX0_writeRows, Cond.code yX0_writeRows cX0_writeRows 3 none, Cond.fieldLink RX0 17 "EvenWhite$Even" "rows" "[[J", Cond.fieldLink RX0 9 "EvenWhite$Even" "fount" "LEvenWhite$Fount;", Cond.fieldLink RX0 51 "EvenWhite$Fount" "many" "I", Cond.methodLink RX0 57 yX0_addPair, Cond.instanceMethod yX0_addPair, Cond.selects RX0 yX0_addPair yX0_addPair, Cond.code yX0_addPair cX0_addPair 9 none, Cond.fieldLink RX0 65 "EvenWhite$Fount" "wanted" "I", Cond.methodLink RX0 61 yX1_weightOf, Cond.instanceMethod yX1_weightOf, Cond.selects RX1 yX1_weightOf yX1_weightOf, Cond.code yX1_weightOf cX1_weightOf 3 (some .int), Cond.fieldLink RX1 25 "EvenWhite$Fount" "weights" "[I", Cond.methodLink RX0 68 yX1_bareOf, Cond.instanceMethod yX1_bareOf, Cond.selects RX1 yX1_bareOf yX1_bareOf, Cond.code yX1_bareOf cX1_bareOf 7 (some .int), Cond.fieldLink RX1 9 "EvenWhite$Fount" "depth" "I", Cond.fieldLink RX1 22 "EvenWhite$Fount" "backs" "[I", Cond.methodLink RX1 56 Lib.Math.min.name, Cond.static Lib.Math.min.name]
def wsX5_pair_r3 : List Cond := [Cond.initialized "java/lang/Math", Cond.code Lib.Math.min.name Lib.Math.min.code 2 (some .int), Cond.methodLink RX1 49 yX1_placeOfBack, Cond.static yX1_placeOfBack, Cond.code yX1_placeOfBack cX1_placeOfBack 3 (some .int), Cond.methodLink RX0 71 yX0_numberOf, Cond.instanceMethod yX0_numberOf, Cond.selects RX0 yX0_numberOf yX0_numberOf, Cond.code yX0_numberOf cX0_numberOf 3 (some .int), Cond.methodLink RX0 45 yX0_solveRows, Cond.instanceMethod yX0_solveRows, Cond.selects RX0 yX0_solveRows yX0_solveRows, Cond.code yX0_solveRows cX0_solveRows 2 none, Cond.fieldLink RX0 28 "EvenWhite$Even" "below" "J", Cond.fieldLink RX0 20 "EvenWhite$Even" "open" "[Z", Cond.fieldLink RX0 24 "EvenWhite$Even" "eightfold" "[J", Cond.methodLink RX0 74 yX0_spaces, Cond.instanceMethod yX0_spaces, Cond.selects RX0 yX0_spaces yX0_spaces, Cond.code yX0_spaces cX0_spaces 1 (some .int), Cond.methodLink RX0 78 yX0_clearColumn, Cond.instanceMethod yX0_clearColumn, Cond.selects RX0 yX0_clearColumn yX0_clearColumn, Cond.code yX0_clearColumn cX0_clearColumn 10 none]
def wsX5_pair_r4 : List Cond := [Cond.methodLink RX0 82 Lib.MathLoose.max_long.x, Cond.static Lib.MathLoose.max_long.x, Cond.code Lib.MathLoose.max_long.x Lib.MathLoose.max_long.code 4 (some .long), Cond.methodLink RX0 48 yX0_makeWhole, Cond.instanceMethod yX0_makeWhole, Cond.selects RX0 yX0_makeWhole yX0_makeWhole, Cond.code yX0_makeWhole cX0_makeWhole 11 none, Cond.constantLong RX0 88 (8), Cond.fieldLink RX0 32 "EvenWhite$Even" "whole" "[J", Cond.fieldLink RX0 35 "EvenWhite$Even" "rest" "[J", Cond.constantLong RX0 96 (2), Cond.constantLong RX0 101 (-1), Cond.methodLink RX0 90 yJ9_floorDiv_f86c9, Cond.static yJ9_floorDiv_f86c9, Cond.initialized RJ9, Cond.code yJ9_floorDiv_f86c9 cJ9_floorDiv_f86c9 6 (some .long), Cond.methodLink RX0 93 yJ9_floorMod_f86c9, Cond.static yJ9_floorMod_f86c9, Cond.code yJ9_floorMod_f86c9 cJ9_floorMod_f86c9 6 (some .long), Cond.methodLink RX0 98 yX0_firstOfGreatestRest, Cond.instanceMethod yX0_firstOfGreatestRest, Cond.selects RX0 yX0_firstOfGreatestRest yX0_firstOfGreatestRest, Cond.code yX0_firstOfGreatestRest cX0_firstOfGreatestRest 3 (some .int), Cond.methodLink RX5 101 yX1_weightOf]
def wsX5_pair_r5 : List Cond := [Cond.methodLink RX5 197 yX1_bareOf, Cond.methodLink RX5 200 yX0_whiteAbove, Cond.instanceMethod yX0_whiteAbove, Cond.selects RX0 yX0_whiteAbove yX0_whiteAbove, Cond.code yX0_whiteAbove cX0_whiteAbove 3 (some .long), Cond.methodLink RX0 103 yX0_spaceAbove, Cond.instanceMethod yX0_spaceAbove, Cond.selects RX0 yX0_spaceAbove yX0_spaceAbove, Cond.code yX0_spaceAbove cX0_spaceAbove 3 (some .long), Cond.methodLink RX5 203 yX0_whiteBelow, Cond.instanceMethod yX0_whiteBelow, Cond.selects RX0 yX0_whiteBelow yX0_whiteBelow, Cond.code yX0_whiteBelow cX0_whiteBelow 1 (some .long), Cond.methodLink RX5 153 yX5_aboveOf, Cond.static yX5_aboveOf, Cond.code yX5_aboveOf cX5_aboveOf 4 (some .long), Cond.methodLink RX5 232 yX5_commonDivisor, Cond.static yX5_commonDivisor, Cond.code yX5_commonDivisor cX5_commonDivisor 11 (some .long), Cond.methodLink RX5 235 Lib.MathLoose.abs_long.x, Cond.static Lib.MathLoose.abs_long.x, Cond.code Lib.MathLoose.abs_long.x Lib.MathLoose.abs_long.code 2 (some .long), Cond.methodLink RX5 241 Lib.MathLoose.max_long.x, Cond.methodLink RX5 157 yX5_belowOf]
def wsX5_pair_r6 : List Cond := [Cond.static yX5_belowOf, Cond.code yX5_belowOf cX5_belowOf 4 (some .long), Cond.methodLink RX5 206 yX0_leftOverAbove, Cond.instanceMethod yX0_leftOverAbove, Cond.selects RX0 yX0_leftOverAbove yX0_leftOverAbove, Cond.code yX0_leftOverAbove cX0_leftOverAbove 3 (some .long), Cond.methodLink RX0 107 yX0_whiteAbove]
def wsX5_pair : List Cond := .code yX5_pair cX5_pair 4 (some .long) :: ((wsX5_pair_r1 ++ (wsX5_pair_r2 ++ (wsX5_pair_r3 ++ (wsX5_pair_r4 ++ (wsX5_pair_r5 ++ wsX5_pair_r6))))) ++ wsX50 ++ wsX10 ++ wsX00)
def wsX5_white_r1 : List Cond := [Cond.fieldLink RX5 12 "EvenWhite" "fount" "LEvenWhite$Fount;", Cond.constant RX5 75 (-1000000001), Cond.fieldLink RX5 21 "EvenWhite" "even" "LEvenWhite$Even;", Cond.constantLong RX5 209 (8), Cond.methodLink RX5 97 yX1_hasPair, Cond.instanceMethod yX1_hasPair, Cond.selects RX1 yX1_hasPair yX1_hasPair, Cond.initialized RX1, Cond.code yX1_hasPair cX1_hasPair 3 (some .boolean), Cond.methodLink RX1 45 yX1_hasLetter, Cond.instanceMethod yX1_hasLetter, Cond.selects RX1 yX1_hasLetter yX1_hasLetter, Cond.code yX1_hasLetter cX1_hasLetter 2 (some .boolean), Cond.fieldLink RX1 32 "EvenWhite$Fount" "many" "I", Cond.static yX5_within, Cond.initialized RX5, Cond.code yX5_within cX5_within 3 (some .boolean), Cond.methodLink RX5 137 yX0_find, Cond.instanceMethod yX0_find, Cond.selects RX0 yX0_find yX0_find, Cond.initialized RX0, Cond.code yX0_find cX0_find 1 none, Cond.fieldLink RX0 38 "EvenWhite$Even" "found" "Z", Cond.methodLink RX0 42 yX0_writeRows]
def wsX5_white_r2 : List Cond := [Cond.instanceMethod yX0_writeRows, Cond.selects RX0 yX0_writeRows yX0_writeRows, Cond.code yX0_writeRows cX0_writeRows 3 none, Cond.fieldLink RX0 17 "EvenWhite$Even" "rows" "[[J", Cond.fieldLink RX0 9 "EvenWhite$Even" "fount" "LEvenWhite$Fount;", Cond.fieldLink RX0 51 "EvenWhite$Fount" "many" "I", Cond.methodLink RX0 57 yX0_addPair, Cond.instanceMethod yX0_addPair, Cond.selects RX0 yX0_addPair yX0_addPair, Cond.code yX0_addPair cX0_addPair 9 none, Cond.fieldLink RX0 65 "EvenWhite$Fount" "wanted" "I", Cond.methodLink RX0 61 yX1_weightOf, Cond.instanceMethod yX1_weightOf, Cond.selects RX1 yX1_weightOf yX1_weightOf, Cond.code yX1_weightOf cX1_weightOf 3 (some .int), Cond.fieldLink RX1 25 "EvenWhite$Fount" "weights" "[I", Cond.methodLink RX0 68 yX1_bareOf, Cond.instanceMethod yX1_bareOf, Cond.selects RX1 yX1_bareOf yX1_bareOf, Cond.code yX1_bareOf cX1_bareOf 7 (some .int), Cond.fieldLink RX1 9 "EvenWhite$Fount" "depth" "I", Cond.fieldLink RX1 22 "EvenWhite$Fount" "backs" "[I", Cond.methodLink RX1 56 Lib.Math.min.name, Cond.static Lib.Math.min.name]
def wsX5_white_r3 : List Cond := [Cond.initialized "java/lang/Math", Cond.code Lib.Math.min.name Lib.Math.min.code 2 (some .int), Cond.methodLink RX1 49 yX1_placeOfBack, Cond.static yX1_placeOfBack, Cond.code yX1_placeOfBack cX1_placeOfBack 3 (some .int), Cond.methodLink RX0 71 yX0_numberOf, Cond.instanceMethod yX0_numberOf, Cond.selects RX0 yX0_numberOf yX0_numberOf, Cond.code yX0_numberOf cX0_numberOf 3 (some .int), Cond.methodLink RX0 45 yX0_solveRows, Cond.instanceMethod yX0_solveRows, Cond.selects RX0 yX0_solveRows yX0_solveRows, Cond.code yX0_solveRows cX0_solveRows 2 none, Cond.fieldLink RX0 28 "EvenWhite$Even" "below" "J", Cond.fieldLink RX0 20 "EvenWhite$Even" "open" "[Z", Cond.fieldLink RX0 24 "EvenWhite$Even" "eightfold" "[J", Cond.methodLink RX0 74 yX0_spaces, Cond.instanceMethod yX0_spaces, Cond.selects RX0 yX0_spaces yX0_spaces, Cond.code yX0_spaces cX0_spaces 1 (some .int), Cond.methodLink RX0 78 yX0_clearColumn, Cond.instanceMethod yX0_clearColumn, Cond.selects RX0 yX0_clearColumn yX0_clearColumn, Cond.code yX0_clearColumn cX0_clearColumn 10 none]
def wsX5_white_r4 : List Cond := [Cond.methodLink RX0 82 Lib.MathLoose.max_long.x, Cond.static Lib.MathLoose.max_long.x, Cond.code Lib.MathLoose.max_long.x Lib.MathLoose.max_long.code 4 (some .long), Cond.methodLink RX0 48 yX0_makeWhole, Cond.instanceMethod yX0_makeWhole, Cond.selects RX0 yX0_makeWhole yX0_makeWhole, Cond.code yX0_makeWhole cX0_makeWhole 11 none, Cond.constantLong RX0 88 (8), Cond.fieldLink RX0 32 "EvenWhite$Even" "whole" "[J", Cond.fieldLink RX0 35 "EvenWhite$Even" "rest" "[J", Cond.constantLong RX0 96 (2), Cond.constantLong RX0 101 (-1), Cond.methodLink RX0 90 yJ9_floorDiv_f86c9, Cond.static yJ9_floorDiv_f86c9, Cond.initialized RJ9, Cond.code yJ9_floorDiv_f86c9 cJ9_floorDiv_f86c9 6 (some .long), Cond.methodLink RX0 93 yJ9_floorMod_f86c9, Cond.static yJ9_floorMod_f86c9, Cond.code yJ9_floorMod_f86c9 cJ9_floorMod_f86c9 6 (some .long), Cond.methodLink RX0 98 yX0_firstOfGreatestRest, Cond.instanceMethod yX0_firstOfGreatestRest, Cond.selects RX0 yX0_firstOfGreatestRest yX0_firstOfGreatestRest, Cond.code yX0_firstOfGreatestRest cX0_firstOfGreatestRest 3 (some .int), Cond.methodLink RX5 194 yX0_wholeSpace]
def wsX5_white_r5 : List Cond := [Cond.instanceMethod yX0_wholeSpace, Cond.selects RX0 yX0_wholeSpace yX0_wholeSpace, Cond.code yX0_wholeSpace cX0_wholeSpace 3 (some .long), Cond.methodLink RX5 197 yX1_bareOf]
def wsX5_white : List Cond := .code yX5_white cX5_white 5 (some .int) :: ((wsX5_white_r1 ++ (wsX5_white_r2 ++ (wsX5_white_r3 ++ (wsX5_white_r4 ++ wsX5_white_r5)))) ++ wsX50 ++ wsX10 ++ wsX00)
def wsX5_set : List Cond := .code yX5_set cX5_set 2 (some .int) :: ([.fieldLink RX5 12 "EvenWhite" "fount" "LEvenWhite$Fount;", .constant RX5 75 (-1000000001), .fieldLink RX5 37 "EvenWhite" "line" "LEvenWhite$Line;", .fieldLink RX5 163 "EvenWhite$Line" "many" "I", .constant RX5 211 (-1000000004), .methodLink RX5 68 yX1_hasLetter, .instanceMethod yX1_hasLetter, .selects RX1 yX1_hasLetter yX1_hasLetter, .initialized RX1, .code yX1_hasLetter cX1_hasLetter 2 (some .boolean), .fieldLink RX1 32 "EvenWhite$Fount" "many" "I", .static yX5_within, .initialized RX5, .code yX5_within cX5_within 3 (some .boolean), .methodLink RX5 212 yX2_add, .instanceMethod yX2_add, .selects RX2 yX2_add yX2_add, .initialized RX2, .code yX2_add cX2_add 2 none, .fieldLink RX2 30 "EvenWhite$Line" "many" "I", .fieldLink RX2 9 "EvenWhite$Line" "places" "[I"] ++ wsX50 ++ wsX20 ++ wsX10)
def wsX5_wipe : List Cond := .code yX5_wipe cX5_wipe 2 (some .int) :: ([.fieldLink RX5 37 "EvenWhite" "line" "LEvenWhite$Line;", .fieldLink RX5 163 "EvenWhite$Line" "many" "I", .methodLink RX5 65 yX2_makeEmpty, .instanceMethod yX2_makeEmpty, .selects RX2 yX2_makeEmpty yX2_makeEmpty, .initialized RX2, .code yX2_makeEmpty cX2_makeEmpty 1 none, .fieldLink RX2 30 "EvenWhite$Line" "many" "I"] ++ wsX50 ++ wsX20)
def wsX5_place : List Cond := .code yX5_place cX5_place 2 (some .int) :: ([.constant RX5 53 (-1000000002), .fieldLink RX5 37 "EvenWhite" "line" "LEvenWhite$Line;", .methodLink RX5 215 yX2_letterAt, .instanceMethod yX2_letterAt, .selects RX2 yX2_letterAt yX2_letterAt, .initialized RX2, .code yX2_letterAt cX2_letterAt 2 (some .int), .fieldLink RX2 30 "EvenWhite$Line" "many" "I", .fieldLink RX2 9 "EvenWhite$Line" "places" "[I", .static yX5_within, .initialized RX5, .code yX5_within cX5_within 3 (some .boolean)] ++ wsX50 ++ wsX20)
def wsX5_sign_r1 : List Cond := [Cond.constant RX5 53 (-1000000002), Cond.fieldLink RX5 21 "EvenWhite" "even" "LEvenWhite$Even;", Cond.fieldLink RX5 37 "EvenWhite" "line" "LEvenWhite$Line;", Cond.methodLink RX5 137 yX0_find, Cond.instanceMethod yX0_find, Cond.selects RX0 yX0_find yX0_find, Cond.initialized RX0, Cond.code yX0_find cX0_find 1 none, Cond.fieldLink RX0 38 "EvenWhite$Even" "found" "Z", Cond.methodLink RX0 42 yX0_writeRows, Cond.instanceMethod yX0_writeRows, Cond.selects RX0 yX0_writeRows yX0_writeRows, Cond.code yX0_writeRows cX0_writeRows 3 none, Cond.fieldLink RX0 17 "EvenWhite$Even" "rows" "[[J", Cond.fieldLink RX0 9 "EvenWhite$Even" "fount" "LEvenWhite$Fount;", Cond.fieldLink RX0 51 "EvenWhite$Fount" "many" "I", Cond.methodLink RX0 57 yX0_addPair, Cond.instanceMethod yX0_addPair, Cond.selects RX0 yX0_addPair yX0_addPair, Cond.code yX0_addPair cX0_addPair 9 none, Cond.fieldLink RX0 65 "EvenWhite$Fount" "wanted" "I", Cond.methodLink RX0 61 yX1_weightOf, Cond.instanceMethod yX1_weightOf, Cond.selects RX1 yX1_weightOf yX1_weightOf]
def wsX5_sign_r2 : List Cond := [Cond.initialized RX1, Cond.code yX1_weightOf cX1_weightOf 3 (some .int), Cond.fieldLink RX1 25 "EvenWhite$Fount" "weights" "[I", Cond.methodLink RX0 68 yX1_bareOf, Cond.instanceMethod yX1_bareOf, Cond.selects RX1 yX1_bareOf yX1_bareOf, Cond.code yX1_bareOf cX1_bareOf 7 (some .int), Cond.fieldLink RX1 9 "EvenWhite$Fount" "depth" "I", Cond.fieldLink RX1 22 "EvenWhite$Fount" "backs" "[I", Cond.methodLink RX1 56 Lib.Math.min.name, Cond.static Lib.Math.min.name, Cond.initialized "java/lang/Math", Cond.code Lib.Math.min.name Lib.Math.min.code 2 (some .int), Cond.methodLink RX1 49 yX1_placeOfBack, Cond.static yX1_placeOfBack, Cond.code yX1_placeOfBack cX1_placeOfBack 3 (some .int), Cond.methodLink RX0 71 yX0_numberOf, Cond.instanceMethod yX0_numberOf, Cond.selects RX0 yX0_numberOf yX0_numberOf, Cond.code yX0_numberOf cX0_numberOf 3 (some .int), Cond.methodLink RX0 45 yX0_solveRows, Cond.instanceMethod yX0_solveRows, Cond.selects RX0 yX0_solveRows yX0_solveRows, Cond.code yX0_solveRows cX0_solveRows 2 none]
def wsX5_sign_r3 : List Cond := [Cond.fieldLink RX0 28 "EvenWhite$Even" "below" "J", Cond.fieldLink RX0 20 "EvenWhite$Even" "open" "[Z", Cond.fieldLink RX0 24 "EvenWhite$Even" "eightfold" "[J", Cond.methodLink RX0 74 yX0_spaces, Cond.instanceMethod yX0_spaces, Cond.selects RX0 yX0_spaces yX0_spaces, Cond.code yX0_spaces cX0_spaces 1 (some .int), Cond.methodLink RX0 78 yX0_clearColumn, Cond.instanceMethod yX0_clearColumn, Cond.selects RX0 yX0_clearColumn yX0_clearColumn, Cond.code yX0_clearColumn cX0_clearColumn 10 none, Cond.methodLink RX0 82 Lib.MathLoose.max_long.x, Cond.static Lib.MathLoose.max_long.x, Cond.code Lib.MathLoose.max_long.x Lib.MathLoose.max_long.code 4 (some .long), Cond.methodLink RX0 48 yX0_makeWhole, Cond.instanceMethod yX0_makeWhole, Cond.selects RX0 yX0_makeWhole yX0_makeWhole, Cond.code yX0_makeWhole cX0_makeWhole 11 none, Cond.constantLong RX0 88 (8), Cond.fieldLink RX0 32 "EvenWhite$Even" "whole" "[J", Cond.fieldLink RX0 35 "EvenWhite$Even" "rest" "[J", Cond.constantLong RX0 96 (2), Cond.constantLong RX0 101 (-1), Cond.methodLink RX0 90 yJ9_floorDiv_f86c9]
def wsX5_sign_r4 : List Cond := [Cond.static yJ9_floorDiv_f86c9, Cond.initialized RJ9, Cond.code yJ9_floorDiv_f86c9 cJ9_floorDiv_f86c9 6 (some .long), Cond.methodLink RX0 93 yJ9_floorMod_f86c9, Cond.static yJ9_floorMod_f86c9, Cond.code yJ9_floorMod_f86c9 cJ9_floorMod_f86c9 6 (some .long), Cond.methodLink RX0 98 yX0_firstOfGreatestRest, Cond.instanceMethod yX0_firstOfGreatestRest, Cond.selects RX0 yX0_firstOfGreatestRest yX0_firstOfGreatestRest, Cond.code yX0_firstOfGreatestRest cX0_firstOfGreatestRest 3 (some .int), Cond.methodLink RX5 173 yX2_written, Cond.instanceMethod yX2_written, Cond.selects RX2 yX2_written yX2_written, Cond.initialized RX2, Cond.code yX2_written cX2_written 3 (some (.object "EvenWhite$Text")), Cond.fieldLink RX2 26 "EvenWhite$Line" "text" "LEvenWhite$Text;", Cond.fieldLink RX2 30 "EvenWhite$Line" "many" "I", Cond.fieldLink RX2 9 "EvenWhite$Line" "places" "[I", Cond.fieldLink RX2 19 "EvenWhite$Line" "even" "LEvenWhite$Even;", Cond.methodLink RX2 56 yX4_makeEmpty, Cond.instanceMethod yX4_makeEmpty, Cond.selects RX4 yX4_makeEmpty yX4_makeEmpty, Cond.initialized RX4, Cond.code yX4_makeEmpty cX4_makeEmpty 1 none]
def wsX5_sign_r5 : List Cond := [Cond.fieldLink RX4 15 "EvenWhite$Text" "many" "I", Cond.methodLink RX2 59 yX2_signBetween, Cond.instanceMethod yX2_signBetween, Cond.selects RX2 yX2_signBetween yX2_signBetween, Cond.code yX2_signBetween cX2_signBetween 5 (some .int), Cond.methodLink RX2 81 yX0_leftOverAbove, Cond.instanceMethod yX0_leftOverAbove, Cond.selects RX0 yX0_leftOverAbove yX0_leftOverAbove, Cond.code yX0_leftOverAbove cX0_leftOverAbove 3 (some .long), Cond.methodLink RX0 107 yX0_whiteAbove, Cond.instanceMethod yX0_whiteAbove, Cond.selects RX0 yX0_whiteAbove yX0_whiteAbove, Cond.code yX0_whiteAbove cX0_whiteAbove 3 (some .long), Cond.methodLink RX0 103 yX0_spaceAbove, Cond.instanceMethod yX0_spaceAbove, Cond.selects RX0 yX0_spaceAbove yX0_spaceAbove, Cond.code yX0_spaceAbove cX0_spaceAbove 3 (some .long), Cond.methodLink RX2 63 yX4_addSign, Cond.instanceMethod yX4_addSign, Cond.selects RX4 yX4_addSign yX4_addSign, Cond.code yX4_addSign cX4_addSign 2 none, Cond.fieldLink RX4 9 "EvenWhite$Text" "signs" "[I", Cond.methodLink RX2 67 yX2_wideAbove, Cond.instanceMethod yX2_wideAbove]
def wsX5_sign_r6 : List Cond := [Cond.selects RX2 yX2_wideAbove yX2_wideAbove, Cond.code yX2_wideAbove cX2_wideAbove 4 (some .long), Cond.fieldLink RX2 15 "EvenWhite$Line" "fount" "LEvenWhite$Fount;", Cond.fieldLink RX2 38 "EvenWhite$Fount" "bodies" "[I", Cond.methodLink RX2 43 yX0_spaceBelow, Cond.instanceMethod yX0_spaceBelow, Cond.selects RX0 yX0_spaceBelow yX0_spaceBelow, Cond.code yX0_spaceBelow cX0_spaceBelow 1 (some .long), Cond.methodLink RX2 49 yX0_spaceAbove, Cond.static yX5_aboveOf, Cond.initialized RX5, Cond.code yX5_aboveOf cX5_aboveOf 4 (some .long), Cond.methodLink RX5 232 yX5_commonDivisor, Cond.static yX5_commonDivisor, Cond.code yX5_commonDivisor cX5_commonDivisor 11 (some .long), Cond.methodLink RX5 235 Lib.MathLoose.abs_long.x, Cond.static Lib.MathLoose.abs_long.x, Cond.code Lib.MathLoose.abs_long.x Lib.MathLoose.abs_long.code 2 (some .long), Cond.methodLink RX5 241 Lib.MathLoose.max_long.x, Cond.methodLink RX2 74 yX4_addNumber, Cond.instanceMethod yX4_addNumber, Cond.selects RX4 yX4_addNumber yX4_addNumber, Cond.code yX4_addNumber cX4_addNumber 8 none, Cond.methodLink RX4 23 Lib.MathLoose.abs_long.x]
def wsX5_sign_r7 : List Cond := [Cond.constantLong RX4 29 (10), Cond.methodLink RX4 19 yX4_addSign, Cond.static yX5_belowOf, Cond.code yX5_belowOf cX5_belowOf 4 (some .long), Cond.methodLink RX5 219 yX4_signAt, Cond.instanceMethod yX4_signAt, Cond.selects RX4 yX4_signAt yX4_signAt, Cond.code yX4_signAt cX4_signAt 2 (some .int), Cond.static yX5_within, Cond.code yX5_within cX5_within 3 (some .boolean)]
def wsX5_sign : List Cond := .code yX5_sign cX5_sign 2 (some .int) :: ((wsX5_sign_r1 ++ (wsX5_sign_r2 ++ (wsX5_sign_r3 ++ (wsX5_sign_r4 ++ (wsX5_sign_r5 ++ (wsX5_sign_r6 ++ wsX5_sign_r7)))))) ++ wsX50 ++ wsX00 ++ wsX10 ++ wsX20 ++ wsX40)
def wsX5_isImage : List Cond := .code yX5_isImage cX5_isImage 1 (some .boolean) :: ([.methodLink RX5 49 yX5_within, .static yX5_within, .initialized RX5, .code yX5_within cX5_within 3 (some .boolean)])
def wsX5_keep_r1 : List Cond := [Cond.constant RX5 75 (-1000000001), Cond.fieldLink RX5 41 "EvenWhite" "images" "[LEvenWhite$Fount;", Cond.fieldLink RX5 12 "EvenWhite" "fount" "LEvenWhite$Fount;", Cond.fieldLink RX5 45 "EvenWhite" "kept" "[Z", Cond.fieldLink RX5 28 "EvenWhite" "past" "LEvenWhite$Past;", Cond.fieldLink RX5 57 "EvenWhite$Fount" "many" "I", Cond.methodLink RX5 222 yX5_isImage, Cond.static yX5_isImage, Cond.initialized RX5, Cond.code yX5_isImage cX5_isImage 1 (some .boolean), Cond.methodLink RX5 49 yX5_within, Cond.static yX5_within, Cond.code yX5_within cX5_within 3 (some .boolean), Cond.methodLink RX5 225 yX1_takeAll, Cond.instanceMethod yX1_takeAll, Cond.selects RX1 yX1_takeAll yX1_takeAll, Cond.initialized RX1, Cond.code yX1_takeAll cX1_takeAll 2 none, Cond.fieldLink RX1 32 "EvenWhite$Fount" "many" "I", Cond.fieldLink RX1 9 "EvenWhite$Fount" "depth" "I", Cond.fieldLink RX1 15 "EvenWhite$Fount" "wanted" "I", Cond.fieldLink RX1 18 "EvenWhite$Fount" "bodies" "[I", Cond.methodLink RX1 35 arraycopyName, Cond.native arraycopyName]
def wsX5_keep_r2 : List Cond := [Cond.static arraycopyName, Cond.initialized "java/lang/System", Cond.fieldLink RX1 22 "EvenWhite$Fount" "backs" "[I", Cond.fieldLink RX1 25 "EvenWhite$Fount" "weights" "[I", Cond.methodLink RX5 228 yX3_forget, Cond.instanceMethod yX3_forget, Cond.selects RX3 yX3_forget yX3_forget, Cond.initialized RX3, Cond.code yX3_forget cX3_forget 1 none, Cond.fieldLink RX3 26 "EvenWhite$Past" "many" "I"]
def wsX5_keep : List Cond := .code yX5_keep cX5_keep 2 (some .int) :: ((wsX5_keep_r1 ++ wsX5_keep_r2) ++ wsX50 ++ wsX10 ++ wsX30)
def wsX5_goBack_r1 : List Cond := [Cond.constant RX5 75 (-1000000001), Cond.fieldLink RX5 45 "EvenWhite" "kept" "[Z", Cond.constant RX5 130 (-1000000003), Cond.fieldLink RX5 12 "EvenWhite" "fount" "LEvenWhite$Fount;", Cond.fieldLink RX5 41 "EvenWhite" "images" "[LEvenWhite$Fount;", Cond.fieldLink RX5 21 "EvenWhite" "even" "LEvenWhite$Even;", Cond.fieldLink RX5 28 "EvenWhite" "past" "LEvenWhite$Past;", Cond.fieldLink RX5 37 "EvenWhite" "line" "LEvenWhite$Line;", Cond.fieldLink RX5 57 "EvenWhite$Fount" "many" "I", Cond.methodLink RX5 222 yX5_isImage, Cond.static yX5_isImage, Cond.initialized RX5, Cond.code yX5_isImage cX5_isImage 1 (some .boolean), Cond.methodLink RX5 49 yX5_within, Cond.static yX5_within, Cond.code yX5_within cX5_within 3 (some .boolean), Cond.methodLink RX5 225 yX1_takeAll, Cond.instanceMethod yX1_takeAll, Cond.selects RX1 yX1_takeAll yX1_takeAll, Cond.initialized RX1, Cond.code yX1_takeAll cX1_takeAll 2 none, Cond.fieldLink RX1 32 "EvenWhite$Fount" "many" "I", Cond.fieldLink RX1 9 "EvenWhite$Fount" "depth" "I", Cond.fieldLink RX1 15 "EvenWhite$Fount" "wanted" "I"]
def wsX5_goBack_r2 : List Cond := [Cond.fieldLink RX1 18 "EvenWhite$Fount" "bodies" "[I", Cond.methodLink RX1 35 arraycopyName, Cond.native arraycopyName, Cond.static arraycopyName, Cond.initialized "java/lang/System", Cond.fieldLink RX1 22 "EvenWhite$Fount" "backs" "[I", Cond.fieldLink RX1 25 "EvenWhite$Fount" "weights" "[I", Cond.methodLink RX5 134 yX0_forget, Cond.instanceMethod yX0_forget, Cond.selects RX0 yX0_forget yX0_forget, Cond.initialized RX0, Cond.code yX0_forget cX0_forget 1 none, Cond.fieldLink RX0 38 "EvenWhite$Even" "found" "Z", Cond.methodLink RX5 228 yX3_forget, Cond.instanceMethod yX3_forget, Cond.selects RX3 yX3_forget yX3_forget, Cond.initialized RX3, Cond.code yX3_forget cX3_forget 1 none, Cond.fieldLink RX3 26 "EvenWhite$Past" "many" "I", Cond.methodLink RX5 65 yX2_makeEmpty, Cond.instanceMethod yX2_makeEmpty, Cond.selects RX2 yX2_makeEmpty yX2_makeEmpty, Cond.initialized RX2, Cond.code yX2_makeEmpty cX2_makeEmpty 1 none]
def wsX5_goBack_r3 : List Cond := [Cond.fieldLink RX2 30 "EvenWhite$Line" "many" "I"]
def wsX5_goBack : List Cond := .code yX5_goBack cX5_goBack 2 (some .int) :: ((wsX5_goBack_r1 ++ (wsX5_goBack_r2 ++ wsX5_goBack_r3)) ++ wsX50 ++ wsX10 ++ wsX00 ++ wsX30 ++ wsX20)
def wsX6_in : List Cond := .code yX6_in cX6_in 6 (some .boolean) :: ([])
def wsX6_beginLetters : List Cond := .code yX6_beginLetters cX6_beginLetters 3 none :: ([.fieldLink RX6 7 "EvenWhiteModel" "now" "[I", .constantLong RX6 59 (48), .constantLong RX6 61 (50), .methodLink RX6 63 yX6_in, .static yX6_in, .initialized RX6, .code yX6_in cX6_in 6 (some .boolean)] ++ wsX60)
def wsX6_init_r1 : List Cond := [Cond.methodLink RX6 1 objectInit, Cond.instanceMethod objectInit, Cond.code objectInit ⟨#[0xb1]⟩ 1 none, Cond.arrayClass .int, Cond.fieldLink RX6 7 "EvenWhiteModel" "now" "[I", Cond.fieldLink RX6 13 "EvenWhiteModel" "line" "[I", Cond.arrayClass .boolean, Cond.fieldLink RX6 16 "EvenWhiteModel" "isOpen" "[Z", Cond.arrayClass .long, Cond.fieldLink RX6 20 "EvenWhiteModel" "spaces" "[J", Cond.fieldLink RX6 24 "EvenWhiteModel" "group" "[I", Cond.fieldLink RX6 27 "EvenWhiteModel" "cells" "[J", Cond.fieldLink RX6 30 "EvenWhiteModel" "unknown" "[I", Cond.fieldLink RX6 33 "EvenWhiteModel" "wholes" "[J", Cond.fieldLink RX6 36 "EvenWhiteModel" "isMore" "[Z", Cond.fieldLink RX6 39 "EvenWhiteModel" "signs" "[I", Cond.fieldLink RX6 42 "EvenWhiteModel" "past" "[I", Cond.fieldLink RX6 45 "EvenWhiteModel" "images" "[I", Cond.fieldLink RX6 48 "EvenWhiteModel" "isKept" "[Z", Cond.fieldLink RX6 51 "EvenWhiteModel" "lined" "I", Cond.methodLink RX6 55 yX6_beginLetters, Cond.instanceMethod yX6_beginLetters, Cond.selects RX6 yX6_beginLetters yX6_beginLetters, Cond.initialized RX6]
def wsX6_init_r2 : List Cond := [Cond.code yX6_beginLetters cX6_beginLetters 3 none, Cond.constantLong RX6 59 (48), Cond.constantLong RX6 61 (50), Cond.methodLink RX6 63 yX6_in, Cond.static yX6_in, Cond.code yX6_in cX6_in 6 (some .boolean)]
def wsX6_init : List Cond := .code yX6_init cX6_init 1 none :: ((wsX6_init_r1 ++ wsX6_init_r2) ++ wsX60)
def wsX6_isLetter : List Cond := .code yX6_isLetter cX6_isLetter 2 (some .boolean) :: ([.fieldLink RX6 7 "EvenWhiteModel" "now" "[I", .methodLink RX6 63 yX6_in, .static yX6_in, .initialized RX6, .code yX6_in cX6_in 6 (some .boolean)] ++ wsX60)
def wsX6_isHeight : List Cond := .code yX6_isHeight cX6_isHeight 1 (some .boolean) :: ([.constantLong RX6 67 (7), .methodLink RX6 63 yX6_in, .static yX6_in, .initialized RX6, .code yX6_in cX6_in 6 (some .boolean)])
def wsX6_isSide : List Cond := .code yX6_isSide cX6_isSide 1 (some .boolean) :: ([.methodLink RX6 63 yX6_in, .static yX6_in, .initialized RX6, .code yX6_in cX6_in 6 (some .boolean)])
def wsX6_at : List Cond := .code yX6_at cX6_at 3 (some .int) :: ([])
def wsX6_weightOf : List Cond := .code yX6_weightOf cX6_weightOf 3 (some .int) :: ([.fieldLink RX6 7 "EvenWhiteModel" "now" "[I"] ++ wsX60)
def wsX6_bare : List Cond := .code yX6_bare cX6_bare 6 (some .int) :: ([.fieldLink RX6 7 "EvenWhiteModel" "now" "[I", .methodLink RX6 69 yX6_at, .static yX6_at, .initialized RX6, .code yX6_at cX6_at 3 (some .int)] ++ wsX60)
def wsX6_divisor : List Cond := .code yX6_divisor cX6_divisor 10 (some .long) :: ([])
def wsX6_above : List Cond := .code yX6_above cX6_above 4 (some .long) :: ([.methodLink RX6 73 yX6_divisor, .static yX6_divisor, .initialized RX6, .code yX6_divisor cX6_divisor 10 (some .long)])
def wsX6_below : List Cond := .code yX6_below cX6_below 4 (some .long) :: ([.methodLink RX6 73 yX6_divisor, .static yX6_divisor, .initialized RX6, .code yX6_divisor cX6_divisor 10 (some .long)])
def wsX6_floor : List Cond := .code yX6_floor cX6_floor 6 (some .long) :: ([])
def wsX6_isThere : List Cond := .code yX6_isThere cX6_isThere 2 (some .boolean) :: ([.fieldLink RX6 7 "EvenWhiteModel" "now" "[I"] ++ wsX60)
def wsX6_joins : List Cond := .code yX6_joins cX6_joins 3 (some .int) :: ([.methodLink RX6 77 yX6_isThere, .instanceMethod yX6_isThere, .selects RX6 yX6_isThere yX6_isThere, .initialized RX6, .code yX6_isThere cX6_isThere 2 (some .boolean), .fieldLink RX6 7 "EvenWhiteModel" "now" "[I", .methodLink RX6 81 yX6_weightOf, .instanceMethod yX6_weightOf, .selects RX6 yX6_weightOf yX6_weightOf, .code yX6_weightOf cX6_weightOf 3 (some .int)] ++ wsX60)
def wsX6_isJoined : List Cond := .code yX6_isJoined cX6_isJoined 4 (some .boolean) :: ([.methodLink RX6 85 yX6_joins, .instanceMethod yX6_joins, .selects RX6 yX6_joins yX6_joins, .initialized RX6, .code yX6_joins cX6_joins 3 (some .int), .methodLink RX6 77 yX6_isThere, .instanceMethod yX6_isThere, .selects RX6 yX6_isThere yX6_isThere, .code yX6_isThere cX6_isThere 2 (some .boolean), .fieldLink RX6 7 "EvenWhiteModel" "now" "[I", .methodLink RX6 81 yX6_weightOf, .instanceMethod yX6_weightOf, .selects RX6 yX6_weightOf yX6_weightOf, .code yX6_weightOf cX6_weightOf 3 (some .int)] ++ wsX60)
def wsX6_layGroups : List Cond := .code yX6_layGroups cX6_layGroups 7 none :: ([.fieldLink RX6 24 "EvenWhiteModel" "group" "[I", .methodLink RX6 85 yX6_joins, .instanceMethod yX6_joins, .selects RX6 yX6_joins yX6_joins, .initialized RX6, .code yX6_joins cX6_joins 3 (some .int), .methodLink RX6 77 yX6_isThere, .instanceMethod yX6_isThere, .selects RX6 yX6_isThere yX6_isThere, .code yX6_isThere cX6_isThere 2 (some .boolean), .fieldLink RX6 7 "EvenWhiteModel" "now" "[I", .methodLink RX6 81 yX6_weightOf, .instanceMethod yX6_weightOf, .selects RX6 yX6_weightOf yX6_weightOf, .code yX6_weightOf cX6_weightOf 3 (some .int)] ++ wsX60)
def wsX6_layOpen : List Cond := .code yX6_layOpen cX6_layOpen 4 none :: ([.fieldLink RX6 24 "EvenWhiteModel" "group" "[I", .fieldLink RX6 16 "EvenWhiteModel" "isOpen" "[Z", .methodLink RX6 88 yX6_layGroups, .instanceMethod yX6_layGroups, .selects RX6 yX6_layGroups yX6_layGroups, .initialized RX6, .code yX6_layGroups cX6_layGroups 7 none, .methodLink RX6 85 yX6_joins, .instanceMethod yX6_joins, .selects RX6 yX6_joins yX6_joins, .code yX6_joins cX6_joins 3 (some .int), .methodLink RX6 77 yX6_isThere, .instanceMethod yX6_isThere, .selects RX6 yX6_isThere yX6_isThere, .code yX6_isThere cX6_isThere 2 (some .boolean), .fieldLink RX6 7 "EvenWhiteModel" "now" "[I", .methodLink RX6 81 yX6_weightOf, .instanceMethod yX6_weightOf, .selects RX6 yX6_weightOf yX6_weightOf, .code yX6_weightOf cX6_weightOf 3 (some .int), .methodLink RX6 91 yX6_isJoined, .instanceMethod yX6_isJoined, .selects RX6 yX6_isJoined yX6_isJoined, .code yX6_isJoined cX6_isJoined 4 (some .boolean)] ++ wsX60)
def wsX6_sumOfWeights : List Cond := .code yX6_sumOfWeights cX6_sumOfWeights 4 (some .int) :: ([.methodLink RX6 85 yX6_joins, .instanceMethod yX6_joins, .selects RX6 yX6_joins yX6_joins, .initialized RX6, .code yX6_joins cX6_joins 3 (some .int), .methodLink RX6 77 yX6_isThere, .instanceMethod yX6_isThere, .selects RX6 yX6_isThere yX6_isThere, .code yX6_isThere cX6_isThere 2 (some .boolean), .fieldLink RX6 7 "EvenWhiteModel" "now" "[I", .methodLink RX6 81 yX6_weightOf, .instanceMethod yX6_weightOf, .selects RX6 yX6_weightOf yX6_weightOf, .code yX6_weightOf cX6_weightOf 3 (some .int)] ++ wsX60)
def wsX6_wantedOf : List Cond := .code yX6_wantedOf cX6_wantedOf 8 (some .long) :: ([.fieldLink RX6 7 "EvenWhiteModel" "now" "[I", .methodLink RX6 85 yX6_joins, .instanceMethod yX6_joins, .selects RX6 yX6_joins yX6_joins, .initialized RX6, .code yX6_joins cX6_joins 3 (some .int), .methodLink RX6 77 yX6_isThere, .instanceMethod yX6_isThere, .selects RX6 yX6_isThere yX6_isThere, .code yX6_isThere cX6_isThere 2 (some .boolean), .methodLink RX6 81 yX6_weightOf, .instanceMethod yX6_weightOf, .selects RX6 yX6_weightOf yX6_weightOf, .code yX6_weightOf cX6_weightOf 3 (some .int), .methodLink RX6 102 yX6_bare, .instanceMethod yX6_bare, .selects RX6 yX6_bare yX6_bare, .code yX6_bare cX6_bare 6 (some .int), .methodLink RX6 69 yX6_at, .static yX6_at, .code yX6_at cX6_at 3 (some .int)] ++ wsX60)
def wsX6_layEquations_r1 : List Cond := [Cond.fieldLink RX6 16 "EvenWhiteModel" "isOpen" "[Z", Cond.fieldLink RX6 30 "EvenWhiteModel" "unknown" "[I", Cond.fieldLink RX6 27 "EvenWhiteModel" "cells" "[J", Cond.methodLink RX6 94 yX6_sumOfWeights, Cond.instanceMethod yX6_sumOfWeights, Cond.selects RX6 yX6_sumOfWeights yX6_sumOfWeights, Cond.initialized RX6, Cond.code yX6_sumOfWeights cX6_sumOfWeights 4 (some .int), Cond.methodLink RX6 85 yX6_joins, Cond.instanceMethod yX6_joins, Cond.selects RX6 yX6_joins yX6_joins, Cond.code yX6_joins cX6_joins 3 (some .int), Cond.methodLink RX6 77 yX6_isThere, Cond.instanceMethod yX6_isThere, Cond.selects RX6 yX6_isThere yX6_isThere, Cond.code yX6_isThere cX6_isThere 2 (some .boolean), Cond.fieldLink RX6 7 "EvenWhiteModel" "now" "[I", Cond.methodLink RX6 81 yX6_weightOf, Cond.instanceMethod yX6_weightOf, Cond.selects RX6 yX6_weightOf yX6_weightOf, Cond.code yX6_weightOf cX6_weightOf 3 (some .int), Cond.methodLink RX6 98 yX6_wantedOf, Cond.instanceMethod yX6_wantedOf, Cond.selects RX6 yX6_wantedOf yX6_wantedOf]
def wsX6_layEquations_r2 : List Cond := [Cond.code yX6_wantedOf cX6_wantedOf 8 (some .long), Cond.methodLink RX6 102 yX6_bare, Cond.instanceMethod yX6_bare, Cond.selects RX6 yX6_bare yX6_bare, Cond.code yX6_bare cX6_bare 6 (some .int), Cond.methodLink RX6 69 yX6_at, Cond.static yX6_at, Cond.code yX6_at cX6_at 3 (some .int)]
def wsX6_layEquations : List Cond := .code yX6_layEquations cX6_layEquations 6 (some .int) :: ((wsX6_layEquations_r1 ++ wsX6_layEquations_r2) ++ wsX60)
def wsX6_solve_r1 : List Cond := [Cond.fieldLink RX6 27 "EvenWhiteModel" "cells" "[J", Cond.fieldLink RX6 112 "EvenWhiteModel" "whole" "J", Cond.fieldLink RX6 20 "EvenWhiteModel" "spaces" "[J", Cond.fieldLink RX6 30 "EvenWhiteModel" "unknown" "[I", Cond.methodLink RX6 105 yX6_layOpen, Cond.instanceMethod yX6_layOpen, Cond.selects RX6 yX6_layOpen yX6_layOpen, Cond.initialized RX6, Cond.code yX6_layOpen cX6_layOpen 4 none, Cond.fieldLink RX6 24 "EvenWhiteModel" "group" "[I", Cond.fieldLink RX6 16 "EvenWhiteModel" "isOpen" "[Z", Cond.methodLink RX6 88 yX6_layGroups, Cond.instanceMethod yX6_layGroups, Cond.selects RX6 yX6_layGroups yX6_layGroups, Cond.code yX6_layGroups cX6_layGroups 7 none, Cond.methodLink RX6 85 yX6_joins, Cond.instanceMethod yX6_joins, Cond.selects RX6 yX6_joins yX6_joins, Cond.code yX6_joins cX6_joins 3 (some .int), Cond.methodLink RX6 77 yX6_isThere, Cond.instanceMethod yX6_isThere, Cond.selects RX6 yX6_isThere yX6_isThere, Cond.code yX6_isThere cX6_isThere 2 (some .boolean), Cond.fieldLink RX6 7 "EvenWhiteModel" "now" "[I"]
def wsX6_solve_r2 : List Cond := [Cond.methodLink RX6 81 yX6_weightOf, Cond.instanceMethod yX6_weightOf, Cond.selects RX6 yX6_weightOf yX6_weightOf, Cond.code yX6_weightOf cX6_weightOf 3 (some .int), Cond.methodLink RX6 91 yX6_isJoined, Cond.instanceMethod yX6_isJoined, Cond.selects RX6 yX6_isJoined yX6_isJoined, Cond.code yX6_isJoined cX6_isJoined 4 (some .boolean), Cond.methodLink RX6 108 yX6_layEquations, Cond.instanceMethod yX6_layEquations, Cond.selects RX6 yX6_layEquations yX6_layEquations, Cond.code yX6_layEquations cX6_layEquations 6 (some .int), Cond.methodLink RX6 94 yX6_sumOfWeights, Cond.instanceMethod yX6_sumOfWeights, Cond.selects RX6 yX6_sumOfWeights yX6_sumOfWeights, Cond.code yX6_sumOfWeights cX6_sumOfWeights 4 (some .int), Cond.methodLink RX6 98 yX6_wantedOf, Cond.instanceMethod yX6_wantedOf, Cond.selects RX6 yX6_wantedOf yX6_wantedOf, Cond.code yX6_wantedOf cX6_wantedOf 8 (some .long), Cond.methodLink RX6 102 yX6_bare, Cond.instanceMethod yX6_bare, Cond.selects RX6 yX6_bare yX6_bare, Cond.code yX6_bare cX6_bare 6 (some .int)]
def wsX6_solve_r3 : List Cond := [Cond.methodLink RX6 69 yX6_at, Cond.static yX6_at, Cond.code yX6_at cX6_at 3 (some .int)]
def wsX6_solve : List Cond := .code yX6_solve cX6_solve 11 none :: ((wsX6_solve_r1 ++ (wsX6_solve_r2 ++ wsX6_solve_r3)) ++ wsX60)
def wsX6_whiteOf : List Cond := .code yX6_whiteOf cX6_whiteOf 3 (some .long) :: ([.fieldLink RX6 112 "EvenWhiteModel" "whole" "J", .fieldLink RX6 20 "EvenWhiteModel" "spaces" "[J", .methodLink RX6 102 yX6_bare, .instanceMethod yX6_bare, .selects RX6 yX6_bare yX6_bare, .initialized RX6, .code yX6_bare cX6_bare 6 (some .int), .fieldLink RX6 7 "EvenWhiteModel" "now" "[I", .methodLink RX6 69 yX6_at, .static yX6_at, .code yX6_at cX6_at 3 (some .int)] ++ wsX60)
def wsX6_overOf : List Cond := .code yX6_overOf cX6_overOf 3 (some .long) :: ([.fieldLink RX6 7 "EvenWhiteModel" "now" "[I", .fieldLink RX6 112 "EvenWhiteModel" "whole" "J", .methodLink RX6 116 yX6_whiteOf, .instanceMethod yX6_whiteOf, .selects RX6 yX6_whiteOf yX6_whiteOf, .initialized RX6, .code yX6_whiteOf cX6_whiteOf 3 (some .long), .fieldLink RX6 20 "EvenWhiteModel" "spaces" "[J", .methodLink RX6 102 yX6_bare, .instanceMethod yX6_bare, .selects RX6 yX6_bare yX6_bare, .code yX6_bare cX6_bare 6 (some .int), .methodLink RX6 69 yX6_at, .static yX6_at, .code yX6_at cX6_at 3 (some .int)] ++ wsX60)
def wsX6_squares_r1 : List Cond := [Cond.methodLink RX6 85 yX6_joins, Cond.instanceMethod yX6_joins, Cond.selects RX6 yX6_joins yX6_joins, Cond.initialized RX6, Cond.code yX6_joins cX6_joins 3 (some .int), Cond.methodLink RX6 77 yX6_isThere, Cond.instanceMethod yX6_isThere, Cond.selects RX6 yX6_isThere yX6_isThere, Cond.code yX6_isThere cX6_isThere 2 (some .boolean), Cond.fieldLink RX6 7 "EvenWhiteModel" "now" "[I", Cond.methodLink RX6 81 yX6_weightOf, Cond.instanceMethod yX6_weightOf, Cond.selects RX6 yX6_weightOf yX6_weightOf, Cond.code yX6_weightOf cX6_weightOf 3 (some .int), Cond.methodLink RX6 120 yX6_overOf, Cond.instanceMethod yX6_overOf, Cond.selects RX6 yX6_overOf yX6_overOf, Cond.code yX6_overOf cX6_overOf 3 (some .long), Cond.fieldLink RX6 112 "EvenWhiteModel" "whole" "J", Cond.methodLink RX6 116 yX6_whiteOf, Cond.instanceMethod yX6_whiteOf, Cond.selects RX6 yX6_whiteOf yX6_whiteOf, Cond.code yX6_whiteOf cX6_whiteOf 3 (some .long), Cond.fieldLink RX6 20 "EvenWhiteModel" "spaces" "[J"]
def wsX6_squares_r2 : List Cond := [Cond.methodLink RX6 102 yX6_bare, Cond.instanceMethod yX6_bare, Cond.selects RX6 yX6_bare yX6_bare, Cond.code yX6_bare cX6_bare 6 (some .int), Cond.methodLink RX6 69 yX6_at, Cond.static yX6_at, Cond.code yX6_at cX6_at 3 (some .int)]
def wsX6_squares : List Cond := .code yX6_squares cX6_squares 7 (some .long) :: ((wsX6_squares_r1 ++ wsX6_squares_r2) ++ wsX60)
def wsX6_worst_r1 : List Cond := [Cond.constantLong RX6 123 (-1), Cond.methodLink RX6 85 yX6_joins, Cond.instanceMethod yX6_joins, Cond.selects RX6 yX6_joins yX6_joins, Cond.initialized RX6, Cond.code yX6_joins cX6_joins 3 (some .int), Cond.methodLink RX6 77 yX6_isThere, Cond.instanceMethod yX6_isThere, Cond.selects RX6 yX6_isThere yX6_isThere, Cond.code yX6_isThere cX6_isThere 2 (some .boolean), Cond.fieldLink RX6 7 "EvenWhiteModel" "now" "[I", Cond.methodLink RX6 81 yX6_weightOf, Cond.instanceMethod yX6_weightOf, Cond.selects RX6 yX6_weightOf yX6_weightOf, Cond.code yX6_weightOf cX6_weightOf 3 (some .int), Cond.methodLink RX6 120 yX6_overOf, Cond.instanceMethod yX6_overOf, Cond.selects RX6 yX6_overOf yX6_overOf, Cond.code yX6_overOf cX6_overOf 3 (some .long), Cond.fieldLink RX6 112 "EvenWhiteModel" "whole" "J", Cond.methodLink RX6 116 yX6_whiteOf, Cond.instanceMethod yX6_whiteOf, Cond.selects RX6 yX6_whiteOf yX6_whiteOf, Cond.code yX6_whiteOf cX6_whiteOf 3 (some .long)]
def wsX6_worst_r2 : List Cond := [Cond.fieldLink RX6 20 "EvenWhiteModel" "spaces" "[J", Cond.methodLink RX6 102 yX6_bare, Cond.instanceMethod yX6_bare, Cond.selects RX6 yX6_bare yX6_bare, Cond.code yX6_bare cX6_bare 6 (some .int), Cond.methodLink RX6 69 yX6_at, Cond.static yX6_at, Cond.code yX6_at cX6_at 3 (some .int)]
def wsX6_worst : List Cond := .code yX6_worst cX6_worst 8 (some .int) :: ((wsX6_worst_r1 ++ wsX6_worst_r2) ++ wsX60)
def wsX6_weighted : List Cond := .code yX6_weighted cX6_weighted 3 (some .int) :: ([.methodLink RX6 85 yX6_joins, .instanceMethod yX6_joins, .selects RX6 yX6_joins yX6_joins, .initialized RX6, .code yX6_joins cX6_joins 3 (some .int), .methodLink RX6 77 yX6_isThere, .instanceMethod yX6_isThere, .selects RX6 yX6_isThere yX6_isThere, .code yX6_isThere cX6_isThere 2 (some .boolean), .fieldLink RX6 7 "EvenWhiteModel" "now" "[I", .methodLink RX6 81 yX6_weightOf, .instanceMethod yX6_weightOf, .selects RX6 yX6_weightOf yX6_weightOf, .code yX6_weightOf cX6_weightOf 3 (some .int)] ++ wsX60)
def wsX6_openOnes : List Cond := .code yX6_openOnes cX6_openOnes 3 (some .int) :: ([.fieldLink RX6 16 "EvenWhiteModel" "isOpen" "[Z", .methodLink RX6 77 yX6_isThere, .instanceMethod yX6_isThere, .selects RX6 yX6_isThere yX6_isThere, .initialized RX6, .code yX6_isThere cX6_isThere 2 (some .boolean), .fieldLink RX6 7 "EvenWhiteModel" "now" "[I"] ++ wsX60)
def wsX6_restOf : List Cond := .code yX6_restOf cX6_restOf 2 (some .long) :: ([.fieldLink RX6 20 "EvenWhiteModel" "spaces" "[J", .constantLong RX6 125 (8), .fieldLink RX6 112 "EvenWhiteModel" "whole" "J", .methodLink RX6 127 yX6_floor, .static yX6_floor, .initialized RX6, .code yX6_floor cX6_floor 6 (some .long)] ++ wsX60)
def wsX6_layWholes : List Cond := .code yX6_layWholes cX6_layWholes 8 none :: ([.fieldLink RX6 33 "EvenWhiteModel" "wholes" "[J", .fieldLink RX6 20 "EvenWhiteModel" "spaces" "[J", .constantLong RX6 125 (8), .fieldLink RX6 112 "EvenWhiteModel" "whole" "J", .fieldLink RX6 36 "EvenWhiteModel" "isMore" "[Z", .constantLong RX6 130 (2), .constantLong RX6 132 (16), .methodLink RX6 77 yX6_isThere, .instanceMethod yX6_isThere, .selects RX6 yX6_isThere yX6_isThere, .initialized RX6, .code yX6_isThere cX6_isThere 2 (some .boolean), .fieldLink RX6 7 "EvenWhiteModel" "now" "[I", .methodLink RX6 127 yX6_floor, .static yX6_floor, .code yX6_floor cX6_floor 6 (some .long), .methodLink RX6 134 yX6_restOf, .instanceMethod yX6_restOf, .selects RX6 yX6_restOf yX6_restOf, .code yX6_restOf cX6_restOf 2 (some .long)] ++ wsX60)
def wsX6_wide : List Cond := .code yX6_wide cX6_wide 5 (some .long) :: ([.fieldLink RX6 51 "EvenWhiteModel" "lined" "I", .fieldLink RX6 13 "EvenWhiteModel" "line" "[I", .constantLong RX6 125 (8), .fieldLink RX6 112 "EvenWhiteModel" "whole" "J", .fieldLink RX6 7 "EvenWhiteModel" "now" "[I", .fieldLink RX6 20 "EvenWhiteModel" "spaces" "[J"] ++ wsX60)
def wsX6_thin : List Cond := .code yX6_thin cX6_thin 4 (some .int) :: ([.fieldLink RX6 51 "EvenWhiteModel" "lined" "I", .fieldLink RX6 13 "EvenWhiteModel" "line" "[I", .methodLink RX6 116 yX6_whiteOf, .instanceMethod yX6_whiteOf, .selects RX6 yX6_whiteOf yX6_whiteOf, .initialized RX6, .code yX6_whiteOf cX6_whiteOf 3 (some .long), .fieldLink RX6 112 "EvenWhiteModel" "whole" "J", .fieldLink RX6 20 "EvenWhiteModel" "spaces" "[J", .methodLink RX6 102 yX6_bare, .instanceMethod yX6_bare, .selects RX6 yX6_bare yX6_bare, .code yX6_bare cX6_bare 6 (some .int), .fieldLink RX6 7 "EvenWhiteModel" "now" "[I", .methodLink RX6 69 yX6_at, .static yX6_at, .code yX6_at cX6_at 3 (some .int)] ++ wsX60)
def wsX6_write : List Cond := .code yX6_write cX6_write 2 none :: ([.fieldLink RX6 39 "EvenWhiteModel" "signs" "[I", .fieldLink RX6 137 "EvenWhiteModel" "signed" "I"] ++ wsX60)
def wsX6_writeNumber : List Cond := .code yX6_writeNumber cX6_writeNumber 7 none :: ([.constantLong RX6 143 (9), .constantLong RX6 145 (10), .methodLink RX6 140 yX6_write, .instanceMethod yX6_write, .selects RX6 yX6_write yX6_write, .initialized RX6, .code yX6_write cX6_write 2 none, .fieldLink RX6 39 "EvenWhiteModel" "signs" "[I", .fieldLink RX6 137 "EvenWhiteModel" "signed" "I"] ++ wsX60)
def wsX6_writeLine_r1 : List Cond := [Cond.fieldLink RX6 137 "EvenWhiteModel" "signed" "I", Cond.fieldLink RX6 51 "EvenWhiteModel" "lined" "I", Cond.fieldLink RX6 13 "EvenWhiteModel" "line" "[I", Cond.constantLong RX6 125 (8), Cond.fieldLink RX6 112 "EvenWhiteModel" "whole" "J", Cond.methodLink RX6 147 yX6_solve, Cond.instanceMethod yX6_solve, Cond.selects RX6 yX6_solve yX6_solve, Cond.initialized RX6, Cond.code yX6_solve cX6_solve 11 none, Cond.fieldLink RX6 27 "EvenWhiteModel" "cells" "[J", Cond.fieldLink RX6 20 "EvenWhiteModel" "spaces" "[J", Cond.fieldLink RX6 30 "EvenWhiteModel" "unknown" "[I", Cond.methodLink RX6 105 yX6_layOpen, Cond.instanceMethod yX6_layOpen, Cond.selects RX6 yX6_layOpen yX6_layOpen, Cond.code yX6_layOpen cX6_layOpen 4 none, Cond.fieldLink RX6 24 "EvenWhiteModel" "group" "[I", Cond.fieldLink RX6 16 "EvenWhiteModel" "isOpen" "[Z", Cond.methodLink RX6 88 yX6_layGroups, Cond.instanceMethod yX6_layGroups, Cond.selects RX6 yX6_layGroups yX6_layGroups, Cond.code yX6_layGroups cX6_layGroups 7 none, Cond.methodLink RX6 85 yX6_joins]
def wsX6_writeLine_r2 : List Cond := [Cond.instanceMethod yX6_joins, Cond.selects RX6 yX6_joins yX6_joins, Cond.code yX6_joins cX6_joins 3 (some .int), Cond.methodLink RX6 77 yX6_isThere, Cond.instanceMethod yX6_isThere, Cond.selects RX6 yX6_isThere yX6_isThere, Cond.code yX6_isThere cX6_isThere 2 (some .boolean), Cond.fieldLink RX6 7 "EvenWhiteModel" "now" "[I", Cond.methodLink RX6 81 yX6_weightOf, Cond.instanceMethod yX6_weightOf, Cond.selects RX6 yX6_weightOf yX6_weightOf, Cond.code yX6_weightOf cX6_weightOf 3 (some .int), Cond.methodLink RX6 91 yX6_isJoined, Cond.instanceMethod yX6_isJoined, Cond.selects RX6 yX6_isJoined yX6_isJoined, Cond.code yX6_isJoined cX6_isJoined 4 (some .boolean), Cond.methodLink RX6 108 yX6_layEquations, Cond.instanceMethod yX6_layEquations, Cond.selects RX6 yX6_layEquations yX6_layEquations, Cond.code yX6_layEquations cX6_layEquations 6 (some .int), Cond.methodLink RX6 94 yX6_sumOfWeights, Cond.instanceMethod yX6_sumOfWeights, Cond.selects RX6 yX6_sumOfWeights yX6_sumOfWeights, Cond.code yX6_sumOfWeights cX6_sumOfWeights 4 (some .int)]
def wsX6_writeLine_r3 : List Cond := [Cond.methodLink RX6 98 yX6_wantedOf, Cond.instanceMethod yX6_wantedOf, Cond.selects RX6 yX6_wantedOf yX6_wantedOf, Cond.code yX6_wantedOf cX6_wantedOf 8 (some .long), Cond.methodLink RX6 102 yX6_bare, Cond.instanceMethod yX6_bare, Cond.selects RX6 yX6_bare yX6_bare, Cond.code yX6_bare cX6_bare 6 (some .int), Cond.methodLink RX6 69 yX6_at, Cond.static yX6_at, Cond.code yX6_at cX6_at 3 (some .int), Cond.methodLink RX6 140 yX6_write, Cond.instanceMethod yX6_write, Cond.selects RX6 yX6_write yX6_write, Cond.code yX6_write cX6_write 2 none, Cond.fieldLink RX6 39 "EvenWhiteModel" "signs" "[I", Cond.methodLink RX6 120 yX6_overOf, Cond.instanceMethod yX6_overOf, Cond.selects RX6 yX6_overOf yX6_overOf, Cond.code yX6_overOf cX6_overOf 3 (some .long), Cond.methodLink RX6 116 yX6_whiteOf, Cond.instanceMethod yX6_whiteOf, Cond.selects RX6 yX6_whiteOf yX6_whiteOf, Cond.code yX6_whiteOf cX6_whiteOf 3 (some .long)]
def wsX6_writeLine_r4 : List Cond := [Cond.methodLink RX6 150 yX6_wide, Cond.instanceMethod yX6_wide, Cond.selects RX6 yX6_wide yX6_wide, Cond.code yX6_wide cX6_wide 5 (some .long), Cond.methodLink RX6 154 yX6_above, Cond.static yX6_above, Cond.code yX6_above cX6_above 4 (some .long), Cond.methodLink RX6 73 yX6_divisor, Cond.static yX6_divisor, Cond.code yX6_divisor cX6_divisor 10 (some .long), Cond.methodLink RX6 157 yX6_writeNumber, Cond.instanceMethod yX6_writeNumber, Cond.selects RX6 yX6_writeNumber yX6_writeNumber, Cond.code yX6_writeNumber cX6_writeNumber 7 none, Cond.constantLong RX6 143 (9), Cond.constantLong RX6 145 (10), Cond.methodLink RX6 161 yX6_below, Cond.static yX6_below, Cond.code yX6_below cX6_below 4 (some .long)]
def wsX6_writeLine : List Cond := .code yX6_writeLine cX6_writeLine 4 none :: ((wsX6_writeLine_r1 ++ (wsX6_writeLine_r2 ++ (wsX6_writeLine_r3 ++ wsX6_writeLine_r4))) ++ wsX60)
def wsX6_told_r1 : List Cond := [Cond.fieldLink RX6 7 "EvenWhiteModel" "now" "[I", Cond.fieldLink RX6 112 "EvenWhiteModel" "whole" "J", Cond.fieldLink RX6 51 "EvenWhiteModel" "lined" "I", Cond.constantLong RX6 125 (8), Cond.fieldLink RX6 137 "EvenWhiteModel" "signed" "I", Cond.fieldLink RX6 182 "EvenWhiteModel" "undos" "I", Cond.constantLong RX6 185 (-1000000002), Cond.methodLink RX6 147 yX6_solve, Cond.instanceMethod yX6_solve, Cond.selects RX6 yX6_solve yX6_solve, Cond.initialized RX6, Cond.code yX6_solve cX6_solve 11 none, Cond.fieldLink RX6 27 "EvenWhiteModel" "cells" "[J", Cond.fieldLink RX6 20 "EvenWhiteModel" "spaces" "[J", Cond.fieldLink RX6 30 "EvenWhiteModel" "unknown" "[I", Cond.methodLink RX6 105 yX6_layOpen, Cond.instanceMethod yX6_layOpen, Cond.selects RX6 yX6_layOpen yX6_layOpen, Cond.code yX6_layOpen cX6_layOpen 4 none, Cond.fieldLink RX6 24 "EvenWhiteModel" "group" "[I", Cond.fieldLink RX6 16 "EvenWhiteModel" "isOpen" "[Z", Cond.methodLink RX6 88 yX6_layGroups, Cond.instanceMethod yX6_layGroups, Cond.selects RX6 yX6_layGroups yX6_layGroups]
def wsX6_told_r2 : List Cond := [Cond.code yX6_layGroups cX6_layGroups 7 none, Cond.methodLink RX6 85 yX6_joins, Cond.instanceMethod yX6_joins, Cond.selects RX6 yX6_joins yX6_joins, Cond.code yX6_joins cX6_joins 3 (some .int), Cond.methodLink RX6 77 yX6_isThere, Cond.instanceMethod yX6_isThere, Cond.selects RX6 yX6_isThere yX6_isThere, Cond.code yX6_isThere cX6_isThere 2 (some .boolean), Cond.methodLink RX6 81 yX6_weightOf, Cond.instanceMethod yX6_weightOf, Cond.selects RX6 yX6_weightOf yX6_weightOf, Cond.code yX6_weightOf cX6_weightOf 3 (some .int), Cond.methodLink RX6 91 yX6_isJoined, Cond.instanceMethod yX6_isJoined, Cond.selects RX6 yX6_isJoined yX6_isJoined, Cond.code yX6_isJoined cX6_isJoined 4 (some .boolean), Cond.methodLink RX6 108 yX6_layEquations, Cond.instanceMethod yX6_layEquations, Cond.selects RX6 yX6_layEquations yX6_layEquations, Cond.code yX6_layEquations cX6_layEquations 6 (some .int), Cond.methodLink RX6 94 yX6_sumOfWeights, Cond.instanceMethod yX6_sumOfWeights, Cond.selects RX6 yX6_sumOfWeights yX6_sumOfWeights]
def wsX6_told_r3 : List Cond := [Cond.code yX6_sumOfWeights cX6_sumOfWeights 4 (some .int), Cond.methodLink RX6 98 yX6_wantedOf, Cond.instanceMethod yX6_wantedOf, Cond.selects RX6 yX6_wantedOf yX6_wantedOf, Cond.code yX6_wantedOf cX6_wantedOf 8 (some .long), Cond.methodLink RX6 102 yX6_bare, Cond.instanceMethod yX6_bare, Cond.selects RX6 yX6_bare yX6_bare, Cond.code yX6_bare cX6_bare 6 (some .int), Cond.methodLink RX6 69 yX6_at, Cond.static yX6_at, Cond.code yX6_at cX6_at 3 (some .int), Cond.methodLink RX6 164 yX6_writeLine, Cond.instanceMethod yX6_writeLine, Cond.selects RX6 yX6_writeLine yX6_writeLine, Cond.code yX6_writeLine cX6_writeLine 4 none, Cond.fieldLink RX6 13 "EvenWhiteModel" "line" "[I", Cond.methodLink RX6 140 yX6_write, Cond.instanceMethod yX6_write, Cond.selects RX6 yX6_write yX6_write, Cond.code yX6_write cX6_write 2 none, Cond.fieldLink RX6 39 "EvenWhiteModel" "signs" "[I", Cond.methodLink RX6 120 yX6_overOf, Cond.instanceMethod yX6_overOf]
def wsX6_told_r4 : List Cond := [Cond.selects RX6 yX6_overOf yX6_overOf, Cond.code yX6_overOf cX6_overOf 3 (some .long), Cond.methodLink RX6 116 yX6_whiteOf, Cond.instanceMethod yX6_whiteOf, Cond.selects RX6 yX6_whiteOf yX6_whiteOf, Cond.code yX6_whiteOf cX6_whiteOf 3 (some .long), Cond.methodLink RX6 150 yX6_wide, Cond.instanceMethod yX6_wide, Cond.selects RX6 yX6_wide yX6_wide, Cond.code yX6_wide cX6_wide 5 (some .long), Cond.methodLink RX6 154 yX6_above, Cond.static yX6_above, Cond.code yX6_above cX6_above 4 (some .long), Cond.methodLink RX6 73 yX6_divisor, Cond.static yX6_divisor, Cond.code yX6_divisor cX6_divisor 10 (some .long), Cond.methodLink RX6 157 yX6_writeNumber, Cond.instanceMethod yX6_writeNumber, Cond.selects RX6 yX6_writeNumber yX6_writeNumber, Cond.code yX6_writeNumber cX6_writeNumber 7 none, Cond.constantLong RX6 143 (9), Cond.constantLong RX6 145 (10), Cond.methodLink RX6 161 yX6_below, Cond.static yX6_below]
def wsX6_told_r5 : List Cond := [Cond.code yX6_below cX6_below 4 (some .long), Cond.methodLink RX6 167 yX6_weighted, Cond.instanceMethod yX6_weighted, Cond.selects RX6 yX6_weighted yX6_weighted, Cond.code yX6_weighted cX6_weighted 3 (some .int), Cond.methodLink RX6 170 yX6_worst, Cond.instanceMethod yX6_worst, Cond.selects RX6 yX6_worst yX6_worst, Cond.code yX6_worst cX6_worst 8 (some .int), Cond.constantLong RX6 123 (-1), Cond.methodLink RX6 173 yX6_squares, Cond.instanceMethod yX6_squares, Cond.selects RX6 yX6_squares yX6_squares, Cond.code yX6_squares cX6_squares 7 (some .long), Cond.methodLink RX6 176 yX6_openOnes, Cond.instanceMethod yX6_openOnes, Cond.selects RX6 yX6_openOnes yX6_openOnes, Cond.code yX6_openOnes cX6_openOnes 3 (some .int), Cond.methodLink RX6 179 yX6_thin, Cond.instanceMethod yX6_thin, Cond.selects RX6 yX6_thin yX6_thin, Cond.code yX6_thin cX6_thin 4 (some .int)]
def wsX6_told : List Cond := .code yX6_told cX6_told 2 (some .long) :: ((wsX6_told_r1 ++ (wsX6_told_r2 ++ (wsX6_told_r3 ++ (wsX6_told_r4 ++ wsX6_told_r5)))) ++ wsX60)
def wsX6_isAlike : List Cond := .code yX6_isAlike cX6_isAlike 4 (some .boolean) :: ([.fieldLink RX6 7 "EvenWhiteModel" "now" "[I", .methodLink RX6 69 yX6_at, .static yX6_at, .initialized RX6, .code yX6_at cX6_at 3 (some .int)] ++ wsX60)
def wsX6_sumOf : List Cond := .code yX6_sumOf cX6_sumOf 5 (some .int) :: ([.fieldLink RX6 7 "EvenWhiteModel" "now" "[I", .methodLink RX6 69 yX6_at, .static yX6_at, .initialized RX6, .code yX6_at cX6_at 3 (some .int)] ++ wsX60)
def wsX6_letter : List Cond := .code yX6_letter cX6_letter 3 (some .int) :: ([.constant RX6 190 (-1000000001), .fieldLink RX6 7 "EvenWhiteModel" "now" "[I", .constant RX6 197 (-1000000002), .methodLink RX6 187 yX6_isLetter, .instanceMethod yX6_isLetter, .selects RX6 yX6_isLetter yX6_isLetter, .initialized RX6, .code yX6_isLetter cX6_isLetter 2 (some .boolean), .methodLink RX6 63 yX6_in, .static yX6_in, .code yX6_in cX6_in 6 (some .boolean), .methodLink RX6 191 yX6_isAlike, .instanceMethod yX6_isAlike, .selects RX6 yX6_isAlike yX6_isAlike, .code yX6_isAlike cX6_isAlike 4 (some .boolean), .methodLink RX6 69 yX6_at, .static yX6_at, .code yX6_at cX6_at 3 (some .int), .methodLink RX6 194 yX6_sumOf, .instanceMethod yX6_sumOf, .selects RX6 yX6_sumOf yX6_sumOf, .code yX6_sumOf cX6_sumOf 5 (some .int)] ++ wsX60)
def wsX6_back : List Cond := .code yX6_back cX6_back 4 (some .int) :: ([.constant RX6 190 (-1000000001), .fieldLink RX6 7 "EvenWhiteModel" "now" "[I", .constant RX6 197 (-1000000002), .methodLink RX6 187 yX6_isLetter, .instanceMethod yX6_isLetter, .selects RX6 yX6_isLetter yX6_isLetter, .initialized RX6, .code yX6_isLetter cX6_isLetter 2 (some .boolean), .methodLink RX6 63 yX6_in, .static yX6_in, .code yX6_in cX6_in 6 (some .boolean), .methodLink RX6 198 yX6_isHeight, .static yX6_isHeight, .code yX6_isHeight cX6_isHeight 1 (some .boolean), .constantLong RX6 67 (7), .methodLink RX6 201 yX6_isSide, .static yX6_isSide, .code yX6_isSide cX6_isSide 1 (some .boolean), .methodLink RX6 69 yX6_at, .static yX6_at, .code yX6_at cX6_at 3 (some .int)] ++ wsX60)
def wsX6_space_r1 : List Cond := [Cond.constantLong RX6 204 (-1000000001), Cond.constantLong RX6 206 (3), Cond.constantLong RX6 185 (-1000000002), Cond.fieldLink RX6 20 "EvenWhiteModel" "spaces" "[J", Cond.constantLong RX6 125 (8), Cond.fieldLink RX6 112 "EvenWhiteModel" "whole" "J", Cond.fieldLink RX6 16 "EvenWhiteModel" "isOpen" "[Z", Cond.fieldLink RX6 33 "EvenWhiteModel" "wholes" "[J", Cond.methodLink RX6 187 yX6_isLetter, Cond.instanceMethod yX6_isLetter, Cond.selects RX6 yX6_isLetter yX6_isLetter, Cond.initialized RX6, Cond.code yX6_isLetter cX6_isLetter 2 (some .boolean), Cond.fieldLink RX6 7 "EvenWhiteModel" "now" "[I", Cond.methodLink RX6 63 yX6_in, Cond.static yX6_in, Cond.code yX6_in cX6_in 6 (some .boolean), Cond.methodLink RX6 201 yX6_isSide, Cond.static yX6_isSide, Cond.code yX6_isSide cX6_isSide 1 (some .boolean), Cond.methodLink RX6 147 yX6_solve, Cond.instanceMethod yX6_solve, Cond.selects RX6 yX6_solve yX6_solve, Cond.code yX6_solve cX6_solve 11 none]
def wsX6_space_r2 : List Cond := [Cond.fieldLink RX6 27 "EvenWhiteModel" "cells" "[J", Cond.fieldLink RX6 30 "EvenWhiteModel" "unknown" "[I", Cond.methodLink RX6 105 yX6_layOpen, Cond.instanceMethod yX6_layOpen, Cond.selects RX6 yX6_layOpen yX6_layOpen, Cond.code yX6_layOpen cX6_layOpen 4 none, Cond.fieldLink RX6 24 "EvenWhiteModel" "group" "[I", Cond.methodLink RX6 88 yX6_layGroups, Cond.instanceMethod yX6_layGroups, Cond.selects RX6 yX6_layGroups yX6_layGroups, Cond.code yX6_layGroups cX6_layGroups 7 none, Cond.methodLink RX6 85 yX6_joins, Cond.instanceMethod yX6_joins, Cond.selects RX6 yX6_joins yX6_joins, Cond.code yX6_joins cX6_joins 3 (some .int), Cond.methodLink RX6 77 yX6_isThere, Cond.instanceMethod yX6_isThere, Cond.selects RX6 yX6_isThere yX6_isThere, Cond.code yX6_isThere cX6_isThere 2 (some .boolean), Cond.methodLink RX6 81 yX6_weightOf, Cond.instanceMethod yX6_weightOf, Cond.selects RX6 yX6_weightOf yX6_weightOf, Cond.code yX6_weightOf cX6_weightOf 3 (some .int), Cond.methodLink RX6 91 yX6_isJoined]
def wsX6_space_r3 : List Cond := [Cond.instanceMethod yX6_isJoined, Cond.selects RX6 yX6_isJoined yX6_isJoined, Cond.code yX6_isJoined cX6_isJoined 4 (some .boolean), Cond.methodLink RX6 108 yX6_layEquations, Cond.instanceMethod yX6_layEquations, Cond.selects RX6 yX6_layEquations yX6_layEquations, Cond.code yX6_layEquations cX6_layEquations 6 (some .int), Cond.methodLink RX6 94 yX6_sumOfWeights, Cond.instanceMethod yX6_sumOfWeights, Cond.selects RX6 yX6_sumOfWeights yX6_sumOfWeights, Cond.code yX6_sumOfWeights cX6_sumOfWeights 4 (some .int), Cond.methodLink RX6 98 yX6_wantedOf, Cond.instanceMethod yX6_wantedOf, Cond.selects RX6 yX6_wantedOf yX6_wantedOf, Cond.code yX6_wantedOf cX6_wantedOf 8 (some .long), Cond.methodLink RX6 102 yX6_bare, Cond.instanceMethod yX6_bare, Cond.selects RX6 yX6_bare yX6_bare, Cond.code yX6_bare cX6_bare 6 (some .int), Cond.methodLink RX6 69 yX6_at, Cond.static yX6_at, Cond.code yX6_at cX6_at 3 (some .int), Cond.methodLink RX6 208 yX6_layWholes, Cond.instanceMethod yX6_layWholes]
def wsX6_space_r4 : List Cond := [Cond.selects RX6 yX6_layWholes yX6_layWholes, Cond.code yX6_layWholes cX6_layWholes 8 none, Cond.fieldLink RX6 36 "EvenWhiteModel" "isMore" "[Z", Cond.constantLong RX6 130 (2), Cond.constantLong RX6 132 (16), Cond.methodLink RX6 127 yX6_floor, Cond.static yX6_floor, Cond.code yX6_floor cX6_floor 6 (some .long), Cond.methodLink RX6 134 yX6_restOf, Cond.instanceMethod yX6_restOf, Cond.selects RX6 yX6_restOf yX6_restOf, Cond.code yX6_restOf cX6_restOf 2 (some .long), Cond.methodLink RX6 154 yX6_above, Cond.static yX6_above, Cond.code yX6_above cX6_above 4 (some .long), Cond.methodLink RX6 73 yX6_divisor, Cond.static yX6_divisor, Cond.code yX6_divisor cX6_divisor 10 (some .long), Cond.methodLink RX6 161 yX6_below, Cond.static yX6_below, Cond.code yX6_below cX6_below 4 (some .long)]
def wsX6_space : List Cond := .code yX6_space cX6_space 5 (some .long) :: ((wsX6_space_r1 ++ (wsX6_space_r2 ++ (wsX6_space_r3 ++ wsX6_space_r4))) ++ wsX60)
def wsX6_pair_r1 : List Cond := [Cond.constantLong RX6 204 (-1000000001), Cond.fieldLink RX6 112 "EvenWhiteModel" "whole" "J", Cond.constantLong RX6 185 (-1000000002), Cond.methodLink RX6 187 yX6_isLetter, Cond.instanceMethod yX6_isLetter, Cond.selects RX6 yX6_isLetter yX6_isLetter, Cond.initialized RX6, Cond.code yX6_isLetter cX6_isLetter 2 (some .boolean), Cond.fieldLink RX6 7 "EvenWhiteModel" "now" "[I", Cond.methodLink RX6 63 yX6_in, Cond.static yX6_in, Cond.code yX6_in cX6_in 6 (some .boolean), Cond.methodLink RX6 147 yX6_solve, Cond.instanceMethod yX6_solve, Cond.selects RX6 yX6_solve yX6_solve, Cond.code yX6_solve cX6_solve 11 none, Cond.fieldLink RX6 27 "EvenWhiteModel" "cells" "[J", Cond.fieldLink RX6 20 "EvenWhiteModel" "spaces" "[J", Cond.fieldLink RX6 30 "EvenWhiteModel" "unknown" "[I", Cond.methodLink RX6 105 yX6_layOpen, Cond.instanceMethod yX6_layOpen, Cond.selects RX6 yX6_layOpen yX6_layOpen, Cond.code yX6_layOpen cX6_layOpen 4 none, Cond.fieldLink RX6 24 "EvenWhiteModel" "group" "[I"]
def wsX6_pair_r2 : List Cond := [Cond.fieldLink RX6 16 "EvenWhiteModel" "isOpen" "[Z", Cond.methodLink RX6 88 yX6_layGroups, Cond.instanceMethod yX6_layGroups, Cond.selects RX6 yX6_layGroups yX6_layGroups, Cond.code yX6_layGroups cX6_layGroups 7 none, Cond.methodLink RX6 85 yX6_joins, Cond.instanceMethod yX6_joins, Cond.selects RX6 yX6_joins yX6_joins, Cond.code yX6_joins cX6_joins 3 (some .int), Cond.methodLink RX6 77 yX6_isThere, Cond.instanceMethod yX6_isThere, Cond.selects RX6 yX6_isThere yX6_isThere, Cond.code yX6_isThere cX6_isThere 2 (some .boolean), Cond.methodLink RX6 81 yX6_weightOf, Cond.instanceMethod yX6_weightOf, Cond.selects RX6 yX6_weightOf yX6_weightOf, Cond.code yX6_weightOf cX6_weightOf 3 (some .int), Cond.methodLink RX6 91 yX6_isJoined, Cond.instanceMethod yX6_isJoined, Cond.selects RX6 yX6_isJoined yX6_isJoined, Cond.code yX6_isJoined cX6_isJoined 4 (some .boolean), Cond.methodLink RX6 108 yX6_layEquations, Cond.instanceMethod yX6_layEquations, Cond.selects RX6 yX6_layEquations yX6_layEquations]
def wsX6_pair_r3 : List Cond := [Cond.code yX6_layEquations cX6_layEquations 6 (some .int), Cond.methodLink RX6 94 yX6_sumOfWeights, Cond.instanceMethod yX6_sumOfWeights, Cond.selects RX6 yX6_sumOfWeights yX6_sumOfWeights, Cond.code yX6_sumOfWeights cX6_sumOfWeights 4 (some .int), Cond.methodLink RX6 98 yX6_wantedOf, Cond.instanceMethod yX6_wantedOf, Cond.selects RX6 yX6_wantedOf yX6_wantedOf, Cond.code yX6_wantedOf cX6_wantedOf 8 (some .long), Cond.methodLink RX6 102 yX6_bare, Cond.instanceMethod yX6_bare, Cond.selects RX6 yX6_bare yX6_bare, Cond.code yX6_bare cX6_bare 6 (some .int), Cond.methodLink RX6 69 yX6_at, Cond.static yX6_at, Cond.code yX6_at cX6_at 3 (some .int), Cond.methodLink RX6 116 yX6_whiteOf, Cond.instanceMethod yX6_whiteOf, Cond.selects RX6 yX6_whiteOf yX6_whiteOf, Cond.code yX6_whiteOf cX6_whiteOf 3 (some .long), Cond.methodLink RX6 154 yX6_above, Cond.static yX6_above, Cond.code yX6_above cX6_above 4 (some .long), Cond.methodLink RX6 73 yX6_divisor]
def wsX6_pair_r4 : List Cond := [Cond.static yX6_divisor, Cond.code yX6_divisor cX6_divisor 10 (some .long), Cond.methodLink RX6 161 yX6_below, Cond.static yX6_below, Cond.code yX6_below cX6_below 4 (some .long), Cond.methodLink RX6 120 yX6_overOf, Cond.instanceMethod yX6_overOf, Cond.selects RX6 yX6_overOf yX6_overOf, Cond.code yX6_overOf cX6_overOf 3 (some .long)]
def wsX6_pair : List Cond := .code yX6_pair cX6_pair 4 (some .long) :: ((wsX6_pair_r1 ++ (wsX6_pair_r2 ++ (wsX6_pair_r3 ++ wsX6_pair_r4))) ++ wsX60)
def wsX6_white_r1 : List Cond := [Cond.constant RX6 190 (-1000000001), Cond.constantLong RX6 125 (8), Cond.fieldLink RX6 33 "EvenWhiteModel" "wholes" "[J", Cond.methodLink RX6 187 yX6_isLetter, Cond.instanceMethod yX6_isLetter, Cond.selects RX6 yX6_isLetter yX6_isLetter, Cond.initialized RX6, Cond.code yX6_isLetter cX6_isLetter 2 (some .boolean), Cond.fieldLink RX6 7 "EvenWhiteModel" "now" "[I", Cond.methodLink RX6 63 yX6_in, Cond.static yX6_in, Cond.code yX6_in cX6_in 6 (some .boolean), Cond.methodLink RX6 147 yX6_solve, Cond.instanceMethod yX6_solve, Cond.selects RX6 yX6_solve yX6_solve, Cond.code yX6_solve cX6_solve 11 none, Cond.fieldLink RX6 27 "EvenWhiteModel" "cells" "[J", Cond.fieldLink RX6 112 "EvenWhiteModel" "whole" "J", Cond.fieldLink RX6 20 "EvenWhiteModel" "spaces" "[J", Cond.fieldLink RX6 30 "EvenWhiteModel" "unknown" "[I", Cond.methodLink RX6 105 yX6_layOpen, Cond.instanceMethod yX6_layOpen, Cond.selects RX6 yX6_layOpen yX6_layOpen, Cond.code yX6_layOpen cX6_layOpen 4 none]
def wsX6_white_r2 : List Cond := [Cond.fieldLink RX6 24 "EvenWhiteModel" "group" "[I", Cond.fieldLink RX6 16 "EvenWhiteModel" "isOpen" "[Z", Cond.methodLink RX6 88 yX6_layGroups, Cond.instanceMethod yX6_layGroups, Cond.selects RX6 yX6_layGroups yX6_layGroups, Cond.code yX6_layGroups cX6_layGroups 7 none, Cond.methodLink RX6 85 yX6_joins, Cond.instanceMethod yX6_joins, Cond.selects RX6 yX6_joins yX6_joins, Cond.code yX6_joins cX6_joins 3 (some .int), Cond.methodLink RX6 77 yX6_isThere, Cond.instanceMethod yX6_isThere, Cond.selects RX6 yX6_isThere yX6_isThere, Cond.code yX6_isThere cX6_isThere 2 (some .boolean), Cond.methodLink RX6 81 yX6_weightOf, Cond.instanceMethod yX6_weightOf, Cond.selects RX6 yX6_weightOf yX6_weightOf, Cond.code yX6_weightOf cX6_weightOf 3 (some .int), Cond.methodLink RX6 91 yX6_isJoined, Cond.instanceMethod yX6_isJoined, Cond.selects RX6 yX6_isJoined yX6_isJoined, Cond.code yX6_isJoined cX6_isJoined 4 (some .boolean), Cond.methodLink RX6 108 yX6_layEquations, Cond.instanceMethod yX6_layEquations]
def wsX6_white_r3 : List Cond := [Cond.selects RX6 yX6_layEquations yX6_layEquations, Cond.code yX6_layEquations cX6_layEquations 6 (some .int), Cond.methodLink RX6 94 yX6_sumOfWeights, Cond.instanceMethod yX6_sumOfWeights, Cond.selects RX6 yX6_sumOfWeights yX6_sumOfWeights, Cond.code yX6_sumOfWeights cX6_sumOfWeights 4 (some .int), Cond.methodLink RX6 98 yX6_wantedOf, Cond.instanceMethod yX6_wantedOf, Cond.selects RX6 yX6_wantedOf yX6_wantedOf, Cond.code yX6_wantedOf cX6_wantedOf 8 (some .long), Cond.methodLink RX6 102 yX6_bare, Cond.instanceMethod yX6_bare, Cond.selects RX6 yX6_bare yX6_bare, Cond.code yX6_bare cX6_bare 6 (some .int), Cond.methodLink RX6 69 yX6_at, Cond.static yX6_at, Cond.code yX6_at cX6_at 3 (some .int), Cond.methodLink RX6 208 yX6_layWholes, Cond.instanceMethod yX6_layWholes, Cond.selects RX6 yX6_layWholes yX6_layWholes, Cond.code yX6_layWholes cX6_layWholes 8 none, Cond.fieldLink RX6 36 "EvenWhiteModel" "isMore" "[Z", Cond.constantLong RX6 130 (2), Cond.constantLong RX6 132 (16)]
def wsX6_white_r4 : List Cond := [Cond.methodLink RX6 127 yX6_floor, Cond.static yX6_floor, Cond.code yX6_floor cX6_floor 6 (some .long), Cond.methodLink RX6 134 yX6_restOf, Cond.instanceMethod yX6_restOf, Cond.selects RX6 yX6_restOf yX6_restOf, Cond.code yX6_restOf cX6_restOf 2 (some .long)]
def wsX6_white : List Cond := .code yX6_white cX6_white 3 (some .int) :: ((wsX6_white_r1 ++ (wsX6_white_r2 ++ (wsX6_white_r3 ++ wsX6_white_r4))) ++ wsX60)
def wsX6_remember : List Cond := .code yX6_remember cX6_remember 2 none :: ([.fieldLink RX6 182 "EvenWhiteModel" "undos" "I", .fieldLink RX6 42 "EvenWhiteModel" "past" "[I", .fieldLink RX6 7 "EvenWhiteModel" "now" "[I"] ++ wsX60)
def wsX6_letters : List Cond := .code yX6_letters cX6_letters 3 (some .int) :: ([.constantLong RX6 206 (3), .constant RX6 197 (-1000000002), .fieldLink RX6 7 "EvenWhiteModel" "now" "[I", .fieldLink RX6 51 "EvenWhiteModel" "lined" "I", .methodLink RX6 63 yX6_in, .static yX6_in, .initialized RX6, .code yX6_in cX6_in 6 (some .boolean), .methodLink RX6 211 yX6_remember, .instanceMethod yX6_remember, .selects RX6 yX6_remember yX6_remember, .code yX6_remember cX6_remember 2 none, .fieldLink RX6 182 "EvenWhiteModel" "undos" "I", .fieldLink RX6 42 "EvenWhiteModel" "past" "[I", .methodLink RX6 55 yX6_beginLetters, .instanceMethod yX6_beginLetters, .selects RX6 yX6_beginLetters yX6_beginLetters, .code yX6_beginLetters cX6_beginLetters 3 none, .constantLong RX6 59 (48), .constantLong RX6 61 (50)] ++ wsX60)
def wsX6_become : List Cond := .code yX6_become cX6_become 4 (some .int) :: ([.fieldLink RX6 7 "EvenWhiteModel" "now" "[I", .methodLink RX6 211 yX6_remember, .instanceMethod yX6_remember, .selects RX6 yX6_remember yX6_remember, .initialized RX6, .code yX6_remember cX6_remember 2 none, .fieldLink RX6 182 "EvenWhiteModel" "undos" "I", .fieldLink RX6 42 "EvenWhiteModel" "past" "[I"] ++ wsX60)
def wsX6_side_r1 : List Cond := [Cond.constant RX6 190 (-1000000001), Cond.constantLong RX6 214 (30), Cond.constant RX6 197 (-1000000002), Cond.methodLink RX6 187 yX6_isLetter, Cond.instanceMethod yX6_isLetter, Cond.selects RX6 yX6_isLetter yX6_isLetter, Cond.initialized RX6, Cond.code yX6_isLetter cX6_isLetter 2 (some .boolean), Cond.fieldLink RX6 7 "EvenWhiteModel" "now" "[I", Cond.methodLink RX6 63 yX6_in, Cond.static yX6_in, Cond.code yX6_in cX6_in 6 (some .boolean), Cond.methodLink RX6 198 yX6_isHeight, Cond.static yX6_isHeight, Cond.code yX6_isHeight cX6_isHeight 1 (some .boolean), Cond.constantLong RX6 67 (7), Cond.methodLink RX6 201 yX6_isSide, Cond.static yX6_isSide, Cond.code yX6_isSide cX6_isSide 1 (some .boolean), Cond.methodLink RX6 69 yX6_at, Cond.static yX6_at, Cond.code yX6_at cX6_at 3 (some .int), Cond.methodLink RX6 216 yX6_become, Cond.instanceMethod yX6_become]
def wsX6_side_r2 : List Cond := [Cond.selects RX6 yX6_become yX6_become, Cond.code yX6_become cX6_become 4 (some .int), Cond.methodLink RX6 211 yX6_remember, Cond.instanceMethod yX6_remember, Cond.selects RX6 yX6_remember yX6_remember, Cond.code yX6_remember cX6_remember 2 none, Cond.fieldLink RX6 182 "EvenWhiteModel" "undos" "I", Cond.fieldLink RX6 42 "EvenWhiteModel" "past" "[I"]
def wsX6_side : List Cond := .code yX6_side cX6_side 5 (some .int) :: ((wsX6_side_r1 ++ wsX6_side_r2) ++ wsX60)
def wsX6_body : List Cond := .code yX6_body cX6_body 3 (some .int) :: ([.constant RX6 190 (-1000000001), .constantLong RX6 61 (50), .constant RX6 197 (-1000000002), .methodLink RX6 187 yX6_isLetter, .instanceMethod yX6_isLetter, .selects RX6 yX6_isLetter yX6_isLetter, .initialized RX6, .code yX6_isLetter cX6_isLetter 2 (some .boolean), .fieldLink RX6 7 "EvenWhiteModel" "now" "[I", .methodLink RX6 63 yX6_in, .static yX6_in, .code yX6_in cX6_in 6 (some .boolean), .methodLink RX6 216 yX6_become, .instanceMethod yX6_become, .selects RX6 yX6_become yX6_become, .code yX6_become cX6_become 4 (some .int), .methodLink RX6 211 yX6_remember, .instanceMethod yX6_remember, .selects RX6 yX6_remember yX6_remember, .code yX6_remember cX6_remember 2 none, .fieldLink RX6 182 "EvenWhiteModel" "undos" "I", .fieldLink RX6 42 "EvenWhiteModel" "past" "[I"] ++ wsX60)
def wsX6_bound : List Cond := .code yX6_bound cX6_bound 3 (some .int) :: ([.constantLong RX6 219 (60), .constantLong RX6 221 (500), .constant RX6 197 (-1000000002), .methodLink RX6 63 yX6_in, .static yX6_in, .initialized RX6, .code yX6_in cX6_in 6 (some .boolean), .methodLink RX6 216 yX6_become, .instanceMethod yX6_become, .selects RX6 yX6_become yX6_become, .code yX6_become cX6_become 4 (some .int), .fieldLink RX6 7 "EvenWhiteModel" "now" "[I", .methodLink RX6 211 yX6_remember, .instanceMethod yX6_remember, .selects RX6 yX6_remember yX6_remember, .code yX6_remember cX6_remember 2 none, .fieldLink RX6 182 "EvenWhiteModel" "undos" "I", .fieldLink RX6 42 "EvenWhiteModel" "past" "[I"] ++ wsX60)
def wsX6_weight : List Cond := .code yX6_weight cX6_weight 4 (some .int) :: ([.constant RX6 190 (-1000000001), .constantLong RX6 223 (4), .constant RX6 197 (-1000000002), .methodLink RX6 187 yX6_isLetter, .instanceMethod yX6_isLetter, .selects RX6 yX6_isLetter yX6_isLetter, .initialized RX6, .code yX6_isLetter cX6_isLetter 2 (some .boolean), .fieldLink RX6 7 "EvenWhiteModel" "now" "[I", .methodLink RX6 63 yX6_in, .static yX6_in, .code yX6_in cX6_in 6 (some .boolean), .methodLink RX6 216 yX6_become, .instanceMethod yX6_become, .selects RX6 yX6_become yX6_become, .code yX6_become cX6_become 4 (some .int), .methodLink RX6 211 yX6_remember, .instanceMethod yX6_remember, .selects RX6 yX6_remember yX6_remember, .code yX6_remember cX6_remember 2 none, .fieldLink RX6 182 "EvenWhiteModel" "undos" "I", .fieldLink RX6 42 "EvenWhiteModel" "past" "[I"] ++ wsX60)
def wsX6_mirrorNow : List Cond := .code yX6_mirrorNow cX6_mirrorNow 4 none :: ([.fieldLink RX6 7 "EvenWhiteModel" "now" "[I", .methodLink RX6 69 yX6_at, .static yX6_at, .initialized RX6, .code yX6_at cX6_at 3 (some .int)] ++ wsX60)
def wsX6_mirror_r1 : List Cond := [Cond.constant RX6 190 (-1000000001), Cond.methodLink RX6 187 yX6_isLetter, Cond.instanceMethod yX6_isLetter, Cond.selects RX6 yX6_isLetter yX6_isLetter, Cond.initialized RX6, Cond.code yX6_isLetter cX6_isLetter 2 (some .boolean), Cond.fieldLink RX6 7 "EvenWhiteModel" "now" "[I", Cond.methodLink RX6 63 yX6_in, Cond.static yX6_in, Cond.code yX6_in cX6_in 6 (some .boolean), Cond.methodLink RX6 211 yX6_remember, Cond.instanceMethod yX6_remember, Cond.selects RX6 yX6_remember yX6_remember, Cond.code yX6_remember cX6_remember 2 none, Cond.fieldLink RX6 182 "EvenWhiteModel" "undos" "I", Cond.fieldLink RX6 42 "EvenWhiteModel" "past" "[I", Cond.methodLink RX6 225 yX6_mirrorNow, Cond.instanceMethod yX6_mirrorNow, Cond.selects RX6 yX6_mirrorNow yX6_mirrorNow, Cond.code yX6_mirrorNow cX6_mirrorNow 4 none, Cond.methodLink RX6 69 yX6_at, Cond.static yX6_at, Cond.code yX6_at cX6_at 3 (some .int), Cond.methodLink RX6 191 yX6_isAlike]
def wsX6_mirror_r2 : List Cond := [Cond.instanceMethod yX6_isAlike, Cond.selects RX6 yX6_isAlike yX6_isAlike, Cond.code yX6_isAlike cX6_isAlike 4 (some .boolean)]
def wsX6_mirror : List Cond := .code yX6_mirror cX6_mirror 2 (some .int) :: ((wsX6_mirror_r1 ++ wsX6_mirror_r2) ++ wsX60)
def wsX6_turn : List Cond := .code yX6_turn cX6_turn 4 (some .int) :: ([.fieldLink RX6 7 "EvenWhiteModel" "now" "[I", .methodLink RX6 211 yX6_remember, .instanceMethod yX6_remember, .selects RX6 yX6_remember yX6_remember, .initialized RX6, .code yX6_remember cX6_remember 2 none, .fieldLink RX6 182 "EvenWhiteModel" "undos" "I", .fieldLink RX6 42 "EvenWhiteModel" "past" "[I", .methodLink RX6 225 yX6_mirrorNow, .instanceMethod yX6_mirrorNow, .selects RX6 yX6_mirrorNow yX6_mirrorNow, .code yX6_mirrorNow cX6_mirrorNow 4 none, .methodLink RX6 69 yX6_at, .static yX6_at, .code yX6_at cX6_at 3 (some .int), .methodLink RX6 81 yX6_weightOf, .instanceMethod yX6_weightOf, .selects RX6 yX6_weightOf yX6_weightOf, .code yX6_weightOf cX6_weightOf 3 (some .int)] ++ wsX60)
def wsX6_copy : List Cond := .code yX6_copy cX6_copy 5 (some .int) :: ([.constant RX6 190 (-1000000001), .fieldLink RX6 7 "EvenWhiteModel" "now" "[I", .methodLink RX6 187 yX6_isLetter, .instanceMethod yX6_isLetter, .selects RX6 yX6_isLetter yX6_isLetter, .initialized RX6, .code yX6_isLetter cX6_isLetter 2 (some .boolean), .methodLink RX6 63 yX6_in, .static yX6_in, .code yX6_in cX6_in 6 (some .boolean), .methodLink RX6 211 yX6_remember, .instanceMethod yX6_remember, .selects RX6 yX6_remember yX6_remember, .code yX6_remember cX6_remember 2 none, .fieldLink RX6 182 "EvenWhiteModel" "undos" "I", .fieldLink RX6 42 "EvenWhiteModel" "past" "[I"] ++ wsX60)
def wsX6_drift : List Cond := .code yX6_drift cX6_drift 7 (some .int) :: ([.constantLong RX6 228 (999999), .constant RX6 197 (-1000000002), .fieldLink RX6 7 "EvenWhiteModel" "now" "[I", .constantLong RX6 230 (16807), .constantLong RX6 232 (2147483647), .constantLong RX6 234 (31), .constantLong RX6 236 (5), .methodLink RX6 63 yX6_in, .static yX6_in, .initialized RX6, .code yX6_in cX6_in 6 (some .boolean), .methodLink RX6 211 yX6_remember, .instanceMethod yX6_remember, .selects RX6 yX6_remember yX6_remember, .code yX6_remember cX6_remember 2 none, .fieldLink RX6 182 "EvenWhiteModel" "undos" "I", .fieldLink RX6 42 "EvenWhiteModel" "past" "[I", .methodLink RX6 102 yX6_bare, .instanceMethod yX6_bare, .selects RX6 yX6_bare yX6_bare, .code yX6_bare cX6_bare 6 (some .int), .methodLink RX6 69 yX6_at, .static yX6_at, .code yX6_at cX6_at 3 (some .int)] ++ wsX60)
def wsX6_undo : List Cond := .code yX6_undo cX6_undo 3 (some .int) :: ([.fieldLink RX6 182 "EvenWhiteModel" "undos" "I", .constant RX6 238 (-1000000003), .fieldLink RX6 7 "EvenWhiteModel" "now" "[I", .fieldLink RX6 42 "EvenWhiteModel" "past" "[I", .fieldLink RX6 51 "EvenWhiteModel" "lined" "I"] ++ wsX60)
def wsX6_set : List Cond := .code yX6_set cX6_set 2 (some .int) :: ([.constant RX6 190 (-1000000001), .fieldLink RX6 51 "EvenWhiteModel" "lined" "I", .constant RX6 239 (-1000000004), .fieldLink RX6 13 "EvenWhiteModel" "line" "[I", .methodLink RX6 187 yX6_isLetter, .instanceMethod yX6_isLetter, .selects RX6 yX6_isLetter yX6_isLetter, .initialized RX6, .code yX6_isLetter cX6_isLetter 2 (some .boolean), .fieldLink RX6 7 "EvenWhiteModel" "now" "[I", .methodLink RX6 63 yX6_in, .static yX6_in, .code yX6_in cX6_in 6 (some .boolean)] ++ wsX60)
def wsX6_wipe : List Cond := .code yX6_wipe cX6_wipe 2 (some .int) :: ([.fieldLink RX6 51 "EvenWhiteModel" "lined" "I"] ++ wsX60)
def wsX6_place : List Cond := .code yX6_place cX6_place 2 (some .int) :: ([.constant RX6 197 (-1000000002), .fieldLink RX6 51 "EvenWhiteModel" "lined" "I", .fieldLink RX6 13 "EvenWhiteModel" "line" "[I"] ++ wsX60)
def wsX6_sign_r1 : List Cond := [Cond.constant RX6 197 (-1000000002), Cond.fieldLink RX6 137 "EvenWhiteModel" "signed" "I", Cond.fieldLink RX6 39 "EvenWhiteModel" "signs" "[I", Cond.methodLink RX6 164 yX6_writeLine, Cond.instanceMethod yX6_writeLine, Cond.selects RX6 yX6_writeLine yX6_writeLine, Cond.initialized RX6, Cond.code yX6_writeLine cX6_writeLine 4 none, Cond.fieldLink RX6 51 "EvenWhiteModel" "lined" "I", Cond.fieldLink RX6 13 "EvenWhiteModel" "line" "[I", Cond.constantLong RX6 125 (8), Cond.fieldLink RX6 112 "EvenWhiteModel" "whole" "J", Cond.methodLink RX6 147 yX6_solve, Cond.instanceMethod yX6_solve, Cond.selects RX6 yX6_solve yX6_solve, Cond.code yX6_solve cX6_solve 11 none, Cond.fieldLink RX6 27 "EvenWhiteModel" "cells" "[J", Cond.fieldLink RX6 20 "EvenWhiteModel" "spaces" "[J", Cond.fieldLink RX6 30 "EvenWhiteModel" "unknown" "[I", Cond.methodLink RX6 105 yX6_layOpen, Cond.instanceMethod yX6_layOpen, Cond.selects RX6 yX6_layOpen yX6_layOpen, Cond.code yX6_layOpen cX6_layOpen 4 none, Cond.fieldLink RX6 24 "EvenWhiteModel" "group" "[I"]
def wsX6_sign_r2 : List Cond := [Cond.fieldLink RX6 16 "EvenWhiteModel" "isOpen" "[Z", Cond.methodLink RX6 88 yX6_layGroups, Cond.instanceMethod yX6_layGroups, Cond.selects RX6 yX6_layGroups yX6_layGroups, Cond.code yX6_layGroups cX6_layGroups 7 none, Cond.methodLink RX6 85 yX6_joins, Cond.instanceMethod yX6_joins, Cond.selects RX6 yX6_joins yX6_joins, Cond.code yX6_joins cX6_joins 3 (some .int), Cond.methodLink RX6 77 yX6_isThere, Cond.instanceMethod yX6_isThere, Cond.selects RX6 yX6_isThere yX6_isThere, Cond.code yX6_isThere cX6_isThere 2 (some .boolean), Cond.fieldLink RX6 7 "EvenWhiteModel" "now" "[I", Cond.methodLink RX6 81 yX6_weightOf, Cond.instanceMethod yX6_weightOf, Cond.selects RX6 yX6_weightOf yX6_weightOf, Cond.code yX6_weightOf cX6_weightOf 3 (some .int), Cond.methodLink RX6 91 yX6_isJoined, Cond.instanceMethod yX6_isJoined, Cond.selects RX6 yX6_isJoined yX6_isJoined, Cond.code yX6_isJoined cX6_isJoined 4 (some .boolean), Cond.methodLink RX6 108 yX6_layEquations, Cond.instanceMethod yX6_layEquations]
def wsX6_sign_r3 : List Cond := [Cond.selects RX6 yX6_layEquations yX6_layEquations, Cond.code yX6_layEquations cX6_layEquations 6 (some .int), Cond.methodLink RX6 94 yX6_sumOfWeights, Cond.instanceMethod yX6_sumOfWeights, Cond.selects RX6 yX6_sumOfWeights yX6_sumOfWeights, Cond.code yX6_sumOfWeights cX6_sumOfWeights 4 (some .int), Cond.methodLink RX6 98 yX6_wantedOf, Cond.instanceMethod yX6_wantedOf, Cond.selects RX6 yX6_wantedOf yX6_wantedOf, Cond.code yX6_wantedOf cX6_wantedOf 8 (some .long), Cond.methodLink RX6 102 yX6_bare, Cond.instanceMethod yX6_bare, Cond.selects RX6 yX6_bare yX6_bare, Cond.code yX6_bare cX6_bare 6 (some .int), Cond.methodLink RX6 69 yX6_at, Cond.static yX6_at, Cond.code yX6_at cX6_at 3 (some .int), Cond.methodLink RX6 140 yX6_write, Cond.instanceMethod yX6_write, Cond.selects RX6 yX6_write yX6_write, Cond.code yX6_write cX6_write 2 none, Cond.methodLink RX6 120 yX6_overOf, Cond.instanceMethod yX6_overOf, Cond.selects RX6 yX6_overOf yX6_overOf]
def wsX6_sign_r4 : List Cond := [Cond.code yX6_overOf cX6_overOf 3 (some .long), Cond.methodLink RX6 116 yX6_whiteOf, Cond.instanceMethod yX6_whiteOf, Cond.selects RX6 yX6_whiteOf yX6_whiteOf, Cond.code yX6_whiteOf cX6_whiteOf 3 (some .long), Cond.methodLink RX6 150 yX6_wide, Cond.instanceMethod yX6_wide, Cond.selects RX6 yX6_wide yX6_wide, Cond.code yX6_wide cX6_wide 5 (some .long), Cond.methodLink RX6 154 yX6_above, Cond.static yX6_above, Cond.code yX6_above cX6_above 4 (some .long), Cond.methodLink RX6 73 yX6_divisor, Cond.static yX6_divisor, Cond.code yX6_divisor cX6_divisor 10 (some .long), Cond.methodLink RX6 157 yX6_writeNumber, Cond.instanceMethod yX6_writeNumber, Cond.selects RX6 yX6_writeNumber yX6_writeNumber, Cond.code yX6_writeNumber cX6_writeNumber 7 none, Cond.constantLong RX6 143 (9), Cond.constantLong RX6 145 (10), Cond.methodLink RX6 161 yX6_below, Cond.static yX6_below, Cond.code yX6_below cX6_below 4 (some .long)]
def wsX6_sign : List Cond := .code yX6_sign cX6_sign 2 (some .int) :: ((wsX6_sign_r1 ++ (wsX6_sign_r2 ++ (wsX6_sign_r3 ++ wsX6_sign_r4))) ++ wsX60)
def wsX6_keep : List Cond := .code yX6_keep cX6_keep 3 (some .int) :: ([.constant RX6 190 (-1000000001), .fieldLink RX6 45 "EvenWhiteModel" "images" "[I", .fieldLink RX6 7 "EvenWhiteModel" "now" "[I", .fieldLink RX6 48 "EvenWhiteModel" "isKept" "[Z", .fieldLink RX6 182 "EvenWhiteModel" "undos" "I", .methodLink RX6 63 yX6_in, .static yX6_in, .initialized RX6, .code yX6_in cX6_in 6 (some .boolean)] ++ wsX60)
def wsX6_goBack : List Cond := .code yX6_goBack cX6_goBack 3 (some .int) :: ([.constant RX6 190 (-1000000001), .fieldLink RX6 48 "EvenWhiteModel" "isKept" "[Z", .constant RX6 238 (-1000000003), .fieldLink RX6 7 "EvenWhiteModel" "now" "[I", .fieldLink RX6 45 "EvenWhiteModel" "images" "[I", .fieldLink RX6 51 "EvenWhiteModel" "lined" "I", .fieldLink RX6 182 "EvenWhiteModel" "undos" "I", .methodLink RX6 63 yX6_in, .static yX6_in, .initialized RX6, .code yX6_in cX6_in 6 (some .boolean)] ++ wsX60)
def wsJ9_abs_067f4 : List Cond := .code yJ9_abs_067f4 cJ9_abs_067f4 2 (some .long) :: ([])
def wsJ9_max_7cf53 : List Cond := .code yJ9_max_7cf53 cJ9_max_7cf53 2 (some .int) :: ([])
def wsJ9_max_f86c9 : List Cond := .code yJ9_max_f86c9 cJ9_max_f86c9 4 (some .long) :: ([])
def wsJ9_min_7cf53 : List Cond := .code yJ9_min_7cf53 cJ9_min_7cf53 2 (some .int) :: ([])
abbrev vwCl : List vw_C := [(RX0, TX0, 8), (RX1, TX1, 6), (RX2, TX2, 5), (RX3, TX3, 3), (RX4, TX4, 2), (RX5, TX5, 6), (RX6, TX6, 17)]
end
section
theorem dX0_init_0 : decode cX0_init 0 = .ok (.aload_n 0, 1) := by decide +kernel
theorem dX0_init_1 : decode cX0_init 1 = .ok (.invokespecial 3, 3) := by decide +kernel
theorem dX0_init_4 : decode cX0_init 4 = .ok (.aload_n 0, 1) := by decide +kernel
theorem dX0_init_5 : decode cX0_init 5 = .ok (.aload_n 1, 1) := by decide +kernel
theorem dX0_init_6 : decode cX0_init 6 = .ok (.putfield 9, 3) := by decide +kernel
theorem dX0_init_9 : decode cX0_init 9 = .ok (.aload_n 0, 1) := by decide +kernel
theorem dX0_init_10 : decode cX0_init 10 = .ok (.bipush 6, 2) := by decide +kernel
theorem dX0_init_12 : decode cX0_init 12 = .ok (.bipush 7, 2) := by decide +kernel
theorem dX0_init_14 : decode cX0_init 14 = .ok (.multianewarray 15 2, 4) := by decide +kernel
theorem dX0_init_18 : decode cX0_init 18 = .ok (.putfield 17, 3) := by decide +kernel
theorem dX0_init_21 : decode cX0_init 21 = .ok (.aload_n 0, 1) := by decide +kernel
theorem dX0_init_22 : decode cX0_init 22 = .ok (.bipush 6, 2) := by decide +kernel
theorem dX0_init_24 : decode cX0_init 24 = .ok (.newarray .boolean, 2) := by decide +kernel
theorem dX0_init_26 : decode cX0_init 26 = .ok (.putfield 20, 3) := by decide +kernel
theorem dX0_init_29 : decode cX0_init 29 = .ok (.aload_n 0, 1) := by decide +kernel
theorem dX0_init_30 : decode cX0_init 30 = .ok (.bipush 6, 2) := by decide +kernel
theorem dX0_init_32 : decode cX0_init 32 = .ok (.newarray .long, 2) := by decide +kernel
theorem dX0_init_34 : decode cX0_init 34 = .ok (.putfield 24, 3) := by decide +kernel
theorem dX0_init_37 : decode cX0_init 37 = .ok (.aload_n 0, 1) := by decide +kernel
theorem dX0_init_38 : decode cX0_init 38 = .ok (.lconst 1, 1) := by decide +kernel
theorem dX0_init_39 : decode cX0_init 39 = .ok (.putfield 28, 3) := by decide +kernel
theorem dX0_init_42 : decode cX0_init 42 = .ok (.aload_n 0, 1) := by decide +kernel
theorem dX0_init_43 : decode cX0_init 43 = .ok (.bipush 6, 2) := by decide +kernel
theorem dX0_init_45 : decode cX0_init 45 = .ok (.newarray .long, 2) := by decide +kernel
theorem dX0_init_47 : decode cX0_init 47 = .ok (.putfield 32, 3) := by decide +kernel
theorem dX0_init_50 : decode cX0_init 50 = .ok (.aload_n 0, 1) := by decide +kernel
theorem dX0_init_51 : decode cX0_init 51 = .ok (.bipush 6, 2) := by decide +kernel
theorem dX0_init_53 : decode cX0_init 53 = .ok (.newarray .long, 2) := by decide +kernel
theorem dX0_init_55 : decode cX0_init 55 = .ok (.putfield 35, 3) := by decide +kernel
theorem dX0_init_58 : decode cX0_init 58 = .ok (.return_, 1) := by decide +kernel
theorem dX0_forget_0 : decode cX0_forget 0 = .ok (.aload_n 0, 1) := by decide +kernel
theorem dX0_forget_1 : decode cX0_forget 1 = .ok (.iconst 0, 1) := by decide +kernel
theorem dX0_forget_2 : decode cX0_forget 2 = .ok (.putfield 38, 3) := by decide +kernel
theorem dX0_forget_5 : decode cX0_forget 5 = .ok (.return_, 1) := by decide +kernel
set_option maxRecDepth 20000 in
theorem ggX0_find_X0_writeRows : GoodIn wsX0_find wsX0_writeRows := goodIn_r _ [6, 7, 8, 9, 10, 11, 12, 5, 13, 14, 15, 16, 17, 18, 19, 20, 21, 22, 23, 24, 25, 26, 27, 28, 29, 30, 31, 32, 33, 34, 35, 36, 37, 76, 77, 78, 79, 80, 81, 82, 83, 84, 85, 86, 87, 88, 89] (by decide +kernel) (by decide +kernel)
set_option maxRecDepth 20000 in
theorem gX0_find_X0_writeRows : GoodIn wsX0_find (wsV RX0 42 RX0 yX0_writeRows wsX0_writeRows) := goodIn_app (goodIn_of _ (by decide +kernel)) ggX0_find_X0_writeRows
set_option maxRecDepth 20000 in
theorem ggX0_find_X0_solveRows : GoodIn wsX0_find wsX0_solveRows := goodIn_r _ [41, 42, 43, 7, 44, 45, 46, 47, 5, 48, 8, 9, 49, 50, 51, 52, 53, 54, 29, 55, 76, 77, 78, 79, 80, 81, 82, 83, 84, 85, 86, 87, 88, 89] (by decide +kernel) (by decide +kernel)
set_option maxRecDepth 20000 in
theorem gX0_find_X0_solveRows : GoodIn wsX0_find (wsV RX0 45 RX0 yX0_solveRows wsX0_solveRows) := goodIn_app (goodIn_of _ (by decide +kernel)) ggX0_find_X0_solveRows
set_option maxRecDepth 20000 in
theorem ggX0_find_X0_makeWhole : GoodIn wsX0_find wsX0_makeWhole := goodIn_r _ [59, 60, 42, 53, 54, 29, 55, 61, 44, 62, 63, 64, 45, 46, 47, 5, 48, 8, 9, 65, 66, 67, 68, 69, 70, 71, 72, 73, 74, 75, 76, 77, 78, 79, 80, 81, 82, 83, 84, 85, 86, 87, 88, 89] (by decide +kernel) (by decide +kernel)
set_option maxRecDepth 20000 in
theorem gX0_find_X0_makeWhole : GoodIn wsX0_find (wsV RX0 48 RX0 yX0_makeWhole wsX0_makeWhole) := goodIn_app (goodIn_of _ (by decide +kernel)) ggX0_find_X0_makeWhole
theorem dX0_find_0 : decode cX0_find 0 = .ok (.aload_n 0, 1) := by decide +kernel
theorem dX0_find_1 : decode cX0_find 1 = .ok (.getfield 38, 3) := by decide +kernel
theorem dX0_find_4 : decode cX0_find 4 = .ok (.ifCond .eq 4, 3) := by decide +kernel
theorem dX0_find_7 : decode cX0_find 7 = .ok (.return_, 1) := by decide +kernel
theorem dX0_find_8 : decode cX0_find 8 = .ok (.aload_n 0, 1) := by decide +kernel
theorem dX0_find_9 : decode cX0_find 9 = .ok (.invokevirtual 42, 3) := by decide +kernel
theorem dX0_find_12 : decode cX0_find 12 = .ok (.aload_n 0, 1) := by decide +kernel
theorem dX0_find_13 : decode cX0_find 13 = .ok (.invokevirtual 45, 3) := by decide +kernel
theorem dX0_find_16 : decode cX0_find 16 = .ok (.aload_n 0, 1) := by decide +kernel
theorem dX0_find_17 : decode cX0_find 17 = .ok (.invokevirtual 48, 3) := by decide +kernel
theorem dX0_find_20 : decode cX0_find 20 = .ok (.aload_n 0, 1) := by decide +kernel
theorem dX0_find_21 : decode cX0_find 21 = .ok (.iconst 1, 1) := by decide +kernel
theorem dX0_find_22 : decode cX0_find 22 = .ok (.putfield 38, 3) := by decide +kernel
theorem dX0_find_25 : decode cX0_find 25 = .ok (.return_, 1) := by decide +kernel
theorem dX0_spaces_0 : decode cX0_spaces 0 = .ok (.iconst 2, 1) := by decide +kernel
theorem dX0_spaces_1 : decode cX0_spaces 1 = .ok (.aload_n 0, 1) := by decide +kernel
theorem dX0_spaces_2 : decode cX0_spaces 2 = .ok (.getfield 9, 3) := by decide +kernel
theorem dX0_spaces_5 : decode cX0_spaces 5 = .ok (.getfield 51, 3) := by decide +kernel
theorem dX0_spaces_8 : decode cX0_spaces 8 = .ok (.imul, 1) := by decide +kernel
theorem dX0_spaces_9 : decode cX0_spaces 9 = .ok (.ireturn, 1) := by decide +kernel
theorem dX0_numberOf_0 : decode cX0_numberOf 0 = .ok (.iload_n 2, 1) := by decide +kernel
theorem dX0_numberOf_1 : decode cX0_numberOf 1 = .ok (.iconst 1, 1) := by decide +kernel
theorem dX0_numberOf_2 : decode cX0_numberOf 2 = .ok (.if_icmp .ne 7, 3) := by decide +kernel
theorem dX0_numberOf_5 : decode cX0_numberOf 5 = .ok (.iload_n 1, 1) := by decide +kernel
theorem dX0_numberOf_6 : decode cX0_numberOf 6 = .ok (.goto 12, 3) := by decide +kernel
theorem dX0_numberOf_9 : decode cX0_numberOf 9 = .ok (.aload_n 0, 1) := by decide +kernel
theorem dX0_numberOf_10 : decode cX0_numberOf 10 = .ok (.getfield 9, 3) := by decide +kernel
theorem dX0_numberOf_13 : decode cX0_numberOf 13 = .ok (.getfield 51, 3) := by decide +kernel
theorem dX0_numberOf_16 : decode cX0_numberOf 16 = .ok (.iload_n 1, 1) := by decide +kernel
theorem dX0_numberOf_17 : decode cX0_numberOf 17 = .ok (.iadd, 1) := by decide +kernel
theorem dX0_numberOf_18 : decode cX0_numberOf 18 = .ok (.ireturn, 1) := by decide +kernel
set_option maxRecDepth 20000 in
theorem ggX0_writeRows_X0_addPair : GoodIn wsX0_writeRows wsX0_addPair := goodIn_r _ [8, 2, 9, 1, 10, 11, 12, 13, 14, 15, 16, 17, 18, 19, 20, 21, 22, 23, 24, 25, 26, 27, 28, 29, 30, 31, 7, 32, 3, 33, 34, 35, 36, 37, 38, 39, 40, 41, 42, 43, 44, 45, 46] (by decide +kernel) (by decide +kernel)
set_option maxRecDepth 20000 in
theorem gX0_writeRows_X0_addPair : GoodIn wsX0_writeRows (wsV RX0 57 RX0 yX0_addPair wsX0_addPair) := goodIn_app (goodIn_of _ (by decide +kernel)) ggX0_writeRows_X0_addPair
theorem dX0_writeRows_0 : decode cX0_writeRows 0 = .ok (.iconst 0, 1) := by decide +kernel
theorem dX0_writeRows_1 : decode cX0_writeRows 1 = .ok (.istore_n 1, 1) := by decide +kernel
theorem dX0_writeRows_2 : decode cX0_writeRows 2 = .ok (.iload_n 1, 1) := by decide +kernel
theorem dX0_writeRows_3 : decode cX0_writeRows 3 = .ok (.bipush 6, 2) := by decide +kernel
theorem dX0_writeRows_5 : decode cX0_writeRows 5 = .ok (.if_icmp .ge 32, 3) := by decide +kernel
theorem dX0_writeRows_8 : decode cX0_writeRows 8 = .ok (.iconst 0, 1) := by decide +kernel
theorem dX0_writeRows_9 : decode cX0_writeRows 9 = .ok (.istore_n 2, 1) := by decide +kernel
theorem dX0_writeRows_10 : decode cX0_writeRows 10 = .ok (.iload_n 2, 1) := by decide +kernel
theorem dX0_writeRows_11 : decode cX0_writeRows 11 = .ok (.bipush 6, 2) := by decide +kernel
theorem dX0_writeRows_13 : decode cX0_writeRows 13 = .ok (.if_icmp .gt 18, 3) := by decide +kernel
theorem dX0_writeRows_16 : decode cX0_writeRows 16 = .ok (.aload_n 0, 1) := by decide +kernel
theorem dX0_writeRows_17 : decode cX0_writeRows 17 = .ok (.getfield 17, 3) := by decide +kernel
theorem dX0_writeRows_20 : decode cX0_writeRows 20 = .ok (.iload_n 1, 1) := by decide +kernel
theorem dX0_writeRows_21 : decode cX0_writeRows 21 = .ok (.aaload, 1) := by decide +kernel
theorem dX0_writeRows_22 : decode cX0_writeRows 22 = .ok (.iload_n 2, 1) := by decide +kernel
theorem dX0_writeRows_23 : decode cX0_writeRows 23 = .ok (.lconst 0, 1) := by decide +kernel
theorem dX0_writeRows_24 : decode cX0_writeRows 24 = .ok (.lastore, 1) := by decide +kernel
theorem dX0_writeRows_25 : decode cX0_writeRows 25 = .ok (.iinc 2 1, 3) := by decide +kernel
theorem dX0_writeRows_28 : decode cX0_writeRows 28 = .ok (.goto (-18), 3) := by decide +kernel
theorem dX0_writeRows_31 : decode cX0_writeRows 31 = .ok (.iinc 1 1, 3) := by decide +kernel
theorem dX0_writeRows_34 : decode cX0_writeRows 34 = .ok (.goto (-32), 3) := by decide +kernel
theorem dX0_writeRows_37 : decode cX0_writeRows 37 = .ok (.iconst 0, 1) := by decide +kernel
theorem dX0_writeRows_38 : decode cX0_writeRows 38 = .ok (.istore_n 1, 1) := by decide +kernel
theorem dX0_writeRows_39 : decode cX0_writeRows 39 = .ok (.iload_n 1, 1) := by decide +kernel
theorem dX0_writeRows_40 : decode cX0_writeRows 40 = .ok (.aload_n 0, 1) := by decide +kernel
theorem dX0_writeRows_41 : decode cX0_writeRows 41 = .ok (.getfield 9, 3) := by decide +kernel
theorem dX0_writeRows_44 : decode cX0_writeRows 44 = .ok (.getfield 51, 3) := by decide +kernel
theorem dX0_writeRows_47 : decode cX0_writeRows 47 = .ok (.if_icmp .ge 34, 3) := by decide +kernel
theorem dX0_writeRows_50 : decode cX0_writeRows 50 = .ok (.iconst 0, 1) := by decide +kernel
theorem dX0_writeRows_51 : decode cX0_writeRows 51 = .ok (.istore_n 2, 1) := by decide +kernel
theorem dX0_writeRows_52 : decode cX0_writeRows 52 = .ok (.iload_n 2, 1) := by decide +kernel
theorem dX0_writeRows_53 : decode cX0_writeRows 53 = .ok (.aload_n 0, 1) := by decide +kernel
theorem dX0_writeRows_54 : decode cX0_writeRows 54 = .ok (.getfield 9, 3) := by decide +kernel
theorem dX0_writeRows_57 : decode cX0_writeRows 57 = .ok (.getfield 51, 3) := by decide +kernel
theorem dX0_writeRows_60 : decode cX0_writeRows 60 = .ok (.if_icmp .ge 15, 3) := by decide +kernel
theorem dX0_writeRows_63 : decode cX0_writeRows 63 = .ok (.aload_n 0, 1) := by decide +kernel
theorem dX0_writeRows_64 : decode cX0_writeRows 64 = .ok (.iload_n 1, 1) := by decide +kernel
theorem dX0_writeRows_65 : decode cX0_writeRows 65 = .ok (.iload_n 2, 1) := by decide +kernel
theorem dX0_writeRows_66 : decode cX0_writeRows 66 = .ok (.invokevirtual 57, 3) := by decide +kernel
theorem dX0_writeRows_69 : decode cX0_writeRows 69 = .ok (.iinc 2 1, 3) := by decide +kernel
theorem dX0_writeRows_72 : decode cX0_writeRows 72 = .ok (.goto (-20), 3) := by decide +kernel
theorem dX0_writeRows_75 : decode cX0_writeRows 75 = .ok (.iinc 1 1, 3) := by decide +kernel
theorem dX0_writeRows_78 : decode cX0_writeRows 78 = .ok (.goto (-39), 3) := by decide +kernel
theorem dX0_writeRows_81 : decode cX0_writeRows 81 = .ok (.return_, 1) := by decide +kernel
set_option maxRecDepth 20000 in
theorem ggX0_addPair_X1_weightOf : GoodIn wsX0_addPair wsX1_weightOf := goodIn_r _ [8, 9, 37, 38, 39, 40, 41, 42] (by decide +kernel) (by decide +kernel)
set_option maxRecDepth 20000 in
theorem gX0_addPair_X1_weightOf : GoodIn wsX0_addPair (wsV RX0 61 RX1 yX1_weightOf wsX1_weightOf) := goodIn_app (goodIn_of _ (by decide +kernel)) ggX0_addPair_X1_weightOf
set_option maxRecDepth 20000 in
theorem ggX0_addPair_X1_bareOf : GoodIn wsX0_addPair wsX1_bareOf := goodIn_r _ [13, 14, 15, 16, 17, 18, 19, 20, 21, 7, 22, 37, 38, 39, 40, 41, 42] (by decide +kernel) (by decide +kernel)
set_option maxRecDepth 20000 in
theorem gX0_addPair_X1_bareOf : GoodIn wsX0_addPair (wsV RX0 68 RX1 yX1_bareOf wsX1_bareOf) := goodIn_app (goodIn_of _ (by decide +kernel)) ggX0_addPair_X1_bareOf
set_option maxRecDepth 20000 in
theorem ggX0_addPair_X0_numberOf : GoodIn wsX0_addPair wsX0_numberOf := goodIn_r _ [27, 1, 28, 29, 30, 31, 32, 33, 34, 35, 36, 37, 38, 39, 40, 41, 42] (by decide +kernel) (by decide +kernel)
set_option maxRecDepth 20000 in
theorem gX0_addPair_X0_numberOf : GoodIn wsX0_addPair (wsV RX0 71 RX0 yX0_numberOf wsX0_numberOf) := goodIn_app (goodIn_of _ (by decide +kernel)) ggX0_addPair_X0_numberOf
theorem dX0_addPair_0 : decode cX0_addPair 0 = .ok (.aload_n 0, 1) := by decide +kernel
theorem dX0_addPair_1 : decode cX0_addPair 1 = .ok (.getfield 9, 3) := by decide +kernel
theorem dX0_addPair_4 : decode cX0_addPair 4 = .ok (.iload_n 1, 1) := by decide +kernel
theorem dX0_addPair_5 : decode cX0_addPair 5 = .ok (.iload_n 2, 1) := by decide +kernel
theorem dX0_addPair_6 : decode cX0_addPair 6 = .ok (.invokevirtual 61, 3) := by decide +kernel
theorem dX0_addPair_9 : decode cX0_addPair 9 = .ok (.i2l, 1) := by decide +kernel
theorem dX0_addPair_10 : decode cX0_addPair 10 = .ok (.lstore_n 3, 1) := by decide +kernel
theorem dX0_addPair_11 : decode cX0_addPair 11 = .ok (.lload_n 3, 1) := by decide +kernel
theorem dX0_addPair_12 : decode cX0_addPair 12 = .ok (.aload_n 0, 1) := by decide +kernel
theorem dX0_addPair_13 : decode cX0_addPair 13 = .ok (.getfield 9, 3) := by decide +kernel
theorem dX0_addPair_16 : decode cX0_addPair 16 = .ok (.getfield 65, 3) := by decide +kernel
theorem dX0_addPair_19 : decode cX0_addPair 19 = .ok (.aload_n 0, 1) := by decide +kernel
theorem dX0_addPair_20 : decode cX0_addPair 20 = .ok (.getfield 9, 3) := by decide +kernel
theorem dX0_addPair_23 : decode cX0_addPair 23 = .ok (.iload_n 1, 1) := by decide +kernel
theorem dX0_addPair_24 : decode cX0_addPair 24 = .ok (.iload_n 2, 1) := by decide +kernel
theorem dX0_addPair_25 : decode cX0_addPair 25 = .ok (.invokevirtual 68, 3) := by decide +kernel
theorem dX0_addPair_28 : decode cX0_addPair 28 = .ok (.isub, 1) := by decide +kernel
theorem dX0_addPair_29 : decode cX0_addPair 29 = .ok (.i2l, 1) := by decide +kernel
theorem dX0_addPair_30 : decode cX0_addPair 30 = .ok (.lmul, 1) := by decide +kernel
theorem dX0_addPair_31 : decode cX0_addPair 31 = .ok (.lstore 5, 2) := by decide +kernel
theorem dX0_addPair_33 : decode cX0_addPair 33 = .ok (.aload_n 0, 1) := by decide +kernel
theorem dX0_addPair_34 : decode cX0_addPair 34 = .ok (.iload_n 1, 1) := by decide +kernel
theorem dX0_addPair_35 : decode cX0_addPair 35 = .ok (.iconst 1, 1) := by decide +kernel
theorem dX0_addPair_36 : decode cX0_addPair 36 = .ok (.invokevirtual 71, 3) := by decide +kernel
theorem dX0_addPair_39 : decode cX0_addPair 39 = .ok (.istore 7, 2) := by decide +kernel
theorem dX0_addPair_41 : decode cX0_addPair 41 = .ok (.aload_n 0, 1) := by decide +kernel
theorem dX0_addPair_42 : decode cX0_addPair 42 = .ok (.iload_n 2, 1) := by decide +kernel
theorem dX0_addPair_43 : decode cX0_addPair 43 = .ok (.iconst 0, 1) := by decide +kernel
theorem dX0_addPair_44 : decode cX0_addPair 44 = .ok (.invokevirtual 71, 3) := by decide +kernel
theorem dX0_addPair_47 : decode cX0_addPair 47 = .ok (.istore 8, 2) := by decide +kernel
theorem dX0_addPair_49 : decode cX0_addPair 49 = .ok (.aload_n 0, 1) := by decide +kernel
theorem dX0_addPair_50 : decode cX0_addPair 50 = .ok (.getfield 17, 3) := by decide +kernel
theorem dX0_addPair_53 : decode cX0_addPair 53 = .ok (.iload 7, 2) := by decide +kernel
theorem dX0_addPair_55 : decode cX0_addPair 55 = .ok (.aaload, 1) := by decide +kernel
theorem dX0_addPair_56 : decode cX0_addPair 56 = .ok (.iload 7, 2) := by decide +kernel
theorem dX0_addPair_58 : decode cX0_addPair 58 = .ok (.dup2, 1) := by decide +kernel
theorem dX0_addPair_59 : decode cX0_addPair 59 = .ok (.laload, 1) := by decide +kernel
theorem dX0_addPair_60 : decode cX0_addPair 60 = .ok (.lload_n 3, 1) := by decide +kernel
theorem dX0_addPair_61 : decode cX0_addPair 61 = .ok (.ladd, 1) := by decide +kernel
theorem dX0_addPair_62 : decode cX0_addPair 62 = .ok (.lastore, 1) := by decide +kernel
theorem dX0_addPair_63 : decode cX0_addPair 63 = .ok (.aload_n 0, 1) := by decide +kernel
theorem dX0_addPair_64 : decode cX0_addPair 64 = .ok (.getfield 17, 3) := by decide +kernel
theorem dX0_addPair_67 : decode cX0_addPair 67 = .ok (.iload 7, 2) := by decide +kernel
theorem dX0_addPair_69 : decode cX0_addPair 69 = .ok (.aaload, 1) := by decide +kernel
theorem dX0_addPair_70 : decode cX0_addPair 70 = .ok (.iload 8, 2) := by decide +kernel
theorem dX0_addPair_72 : decode cX0_addPair 72 = .ok (.dup2, 1) := by decide +kernel
theorem dX0_addPair_73 : decode cX0_addPair 73 = .ok (.laload, 1) := by decide +kernel
theorem dX0_addPair_74 : decode cX0_addPair 74 = .ok (.lload_n 3, 1) := by decide +kernel
theorem dX0_addPair_75 : decode cX0_addPair 75 = .ok (.ladd, 1) := by decide +kernel
theorem dX0_addPair_76 : decode cX0_addPair 76 = .ok (.lastore, 1) := by decide +kernel
theorem dX0_addPair_77 : decode cX0_addPair 77 = .ok (.aload_n 0, 1) := by decide +kernel
theorem dX0_addPair_78 : decode cX0_addPair 78 = .ok (.getfield 17, 3) := by decide +kernel
theorem dX0_addPair_81 : decode cX0_addPair 81 = .ok (.iload 7, 2) := by decide +kernel
theorem dX0_addPair_83 : decode cX0_addPair 83 = .ok (.aaload, 1) := by decide +kernel
theorem dX0_addPair_84 : decode cX0_addPair 84 = .ok (.bipush 6, 2) := by decide +kernel
theorem dX0_addPair_86 : decode cX0_addPair 86 = .ok (.dup2, 1) := by decide +kernel
theorem dX0_addPair_87 : decode cX0_addPair 87 = .ok (.laload, 1) := by decide +kernel
theorem dX0_addPair_88 : decode cX0_addPair 88 = .ok (.lload 5, 2) := by decide +kernel
theorem dX0_addPair_90 : decode cX0_addPair 90 = .ok (.ladd, 1) := by decide +kernel
theorem dX0_addPair_91 : decode cX0_addPair 91 = .ok (.lastore, 1) := by decide +kernel
theorem dX0_addPair_92 : decode cX0_addPair 92 = .ok (.aload_n 0, 1) := by decide +kernel
theorem dX0_addPair_93 : decode cX0_addPair 93 = .ok (.getfield 17, 3) := by decide +kernel
theorem dX0_addPair_96 : decode cX0_addPair 96 = .ok (.iload 8, 2) := by decide +kernel
theorem dX0_addPair_98 : decode cX0_addPair 98 = .ok (.aaload, 1) := by decide +kernel
theorem dX0_addPair_99 : decode cX0_addPair 99 = .ok (.iload 7, 2) := by decide +kernel
theorem dX0_addPair_101 : decode cX0_addPair 101 = .ok (.dup2, 1) := by decide +kernel
theorem dX0_addPair_102 : decode cX0_addPair 102 = .ok (.laload, 1) := by decide +kernel
theorem dX0_addPair_103 : decode cX0_addPair 103 = .ok (.lload_n 3, 1) := by decide +kernel
theorem dX0_addPair_104 : decode cX0_addPair 104 = .ok (.ladd, 1) := by decide +kernel
theorem dX0_addPair_105 : decode cX0_addPair 105 = .ok (.lastore, 1) := by decide +kernel
theorem dX0_addPair_106 : decode cX0_addPair 106 = .ok (.aload_n 0, 1) := by decide +kernel
theorem dX0_addPair_107 : decode cX0_addPair 107 = .ok (.getfield 17, 3) := by decide +kernel
theorem dX0_addPair_110 : decode cX0_addPair 110 = .ok (.iload 8, 2) := by decide +kernel
theorem dX0_addPair_112 : decode cX0_addPair 112 = .ok (.aaload, 1) := by decide +kernel
theorem dX0_addPair_113 : decode cX0_addPair 113 = .ok (.iload 8, 2) := by decide +kernel
theorem dX0_addPair_115 : decode cX0_addPair 115 = .ok (.dup2, 1) := by decide +kernel
theorem dX0_addPair_116 : decode cX0_addPair 116 = .ok (.laload, 1) := by decide +kernel
theorem dX0_addPair_117 : decode cX0_addPair 117 = .ok (.lload_n 3, 1) := by decide +kernel
theorem dX0_addPair_118 : decode cX0_addPair 118 = .ok (.ladd, 1) := by decide +kernel
theorem dX0_addPair_119 : decode cX0_addPair 119 = .ok (.lastore, 1) := by decide +kernel
theorem dX0_addPair_120 : decode cX0_addPair 120 = .ok (.aload_n 0, 1) := by decide +kernel
theorem dX0_addPair_121 : decode cX0_addPair 121 = .ok (.getfield 17, 3) := by decide +kernel
theorem dX0_addPair_124 : decode cX0_addPair 124 = .ok (.iload 8, 2) := by decide +kernel
theorem dX0_addPair_126 : decode cX0_addPair 126 = .ok (.aaload, 1) := by decide +kernel
theorem dX0_addPair_127 : decode cX0_addPair 127 = .ok (.bipush 6, 2) := by decide +kernel
theorem dX0_addPair_129 : decode cX0_addPair 129 = .ok (.dup2, 1) := by decide +kernel
theorem dX0_addPair_130 : decode cX0_addPair 130 = .ok (.laload, 1) := by decide +kernel
theorem dX0_addPair_131 : decode cX0_addPair 131 = .ok (.lload 5, 2) := by decide +kernel
theorem dX0_addPair_133 : decode cX0_addPair 133 = .ok (.ladd, 1) := by decide +kernel
theorem dX0_addPair_134 : decode cX0_addPair 134 = .ok (.lastore, 1) := by decide +kernel
theorem dX0_addPair_135 : decode cX0_addPair 135 = .ok (.return_, 1) := by decide +kernel
set_option maxRecDepth 20000 in
theorem ggX0_solveRows_X0_spaces : GoodIn wsX0_solveRows wsX0_spaces := goodIn_r _ [9, 10, 11, 20, 21, 22, 23, 24, 25, 26, 27, 28, 29, 30, 31, 32, 33] (by decide +kernel) (by decide +kernel)
set_option maxRecDepth 20000 in
theorem gX0_solveRows_X0_spaces : GoodIn wsX0_solveRows (wsV RX0 74 RX0 yX0_spaces wsX0_spaces) := goodIn_app (goodIn_of _ (by decide +kernel)) ggX0_solveRows_X0_spaces
set_option maxRecDepth 20000 in
theorem ggX0_solveRows_X0_clearColumn : GoodIn wsX0_solveRows wsX0_clearColumn := goodIn_r _ [15, 3, 1, 16, 17, 18, 19, 5, 6, 7, 8, 9, 10, 11, 20, 21, 22, 23, 24, 25, 26, 27, 28, 29, 30, 31, 32, 33] (by decide +kernel) (by decide +kernel)
set_option maxRecDepth 20000 in
theorem gX0_solveRows_X0_clearColumn : GoodIn wsX0_solveRows (wsV RX0 78 RX0 yX0_clearColumn wsX0_clearColumn) := goodIn_app (goodIn_of _ (by decide +kernel)) ggX0_solveRows_X0_clearColumn
theorem dX0_solveRows_0 : decode cX0_solveRows 0 = .ok (.aload_n 0, 1) := by decide +kernel
theorem dX0_solveRows_1 : decode cX0_solveRows 1 = .ok (.lconst 1, 1) := by decide +kernel
theorem dX0_solveRows_2 : decode cX0_solveRows 2 = .ok (.putfield 28, 3) := by decide +kernel
theorem dX0_solveRows_5 : decode cX0_solveRows 5 = .ok (.iconst 0, 1) := by decide +kernel
theorem dX0_solveRows_6 : decode cX0_solveRows 6 = .ok (.istore_n 1, 1) := by decide +kernel
theorem dX0_solveRows_7 : decode cX0_solveRows 7 = .ok (.iload_n 1, 1) := by decide +kernel
theorem dX0_solveRows_8 : decode cX0_solveRows 8 = .ok (.aload_n 0, 1) := by decide +kernel
theorem dX0_solveRows_9 : decode cX0_solveRows 9 = .ok (.invokevirtual 74, 3) := by decide +kernel
theorem dX0_solveRows_12 : decode cX0_solveRows 12 = .ok (.if_icmp .ge 59, 3) := by decide +kernel
theorem dX0_solveRows_15 : decode cX0_solveRows 15 = .ok (.aload_n 0, 1) := by decide +kernel
theorem dX0_solveRows_16 : decode cX0_solveRows 16 = .ok (.getfield 20, 3) := by decide +kernel
theorem dX0_solveRows_19 : decode cX0_solveRows 19 = .ok (.iload_n 1, 1) := by decide +kernel
theorem dX0_solveRows_20 : decode cX0_solveRows 20 = .ok (.aload_n 0, 1) := by decide +kernel
theorem dX0_solveRows_21 : decode cX0_solveRows 21 = .ok (.getfield 17, 3) := by decide +kernel
theorem dX0_solveRows_24 : decode cX0_solveRows 24 = .ok (.iload_n 1, 1) := by decide +kernel
theorem dX0_solveRows_25 : decode cX0_solveRows 25 = .ok (.aaload, 1) := by decide +kernel
theorem dX0_solveRows_26 : decode cX0_solveRows 26 = .ok (.iload_n 1, 1) := by decide +kernel
theorem dX0_solveRows_27 : decode cX0_solveRows 27 = .ok (.laload, 1) := by decide +kernel
theorem dX0_solveRows_28 : decode cX0_solveRows 28 = .ok (.lconst 0, 1) := by decide +kernel
theorem dX0_solveRows_29 : decode cX0_solveRows 29 = .ok (.lcmp, 1) := by decide +kernel
theorem dX0_solveRows_30 : decode cX0_solveRows 30 = .ok (.ifCond .gt 7, 3) := by decide +kernel
theorem dX0_solveRows_33 : decode cX0_solveRows 33 = .ok (.iconst 1, 1) := by decide +kernel
theorem dX0_solveRows_34 : decode cX0_solveRows 34 = .ok (.goto 4, 3) := by decide +kernel
theorem dX0_solveRows_37 : decode cX0_solveRows 37 = .ok (.iconst 0, 1) := by decide +kernel
theorem dX0_solveRows_38 : decode cX0_solveRows 38 = .ok (.bastore, 1) := by decide +kernel
theorem dX0_solveRows_39 : decode cX0_solveRows 39 = .ok (.aload_n 0, 1) := by decide +kernel
theorem dX0_solveRows_40 : decode cX0_solveRows 40 = .ok (.getfield 20, 3) := by decide +kernel
theorem dX0_solveRows_43 : decode cX0_solveRows 43 = .ok (.iload_n 1, 1) := by decide +kernel
theorem dX0_solveRows_44 : decode cX0_solveRows 44 = .ok (.baload, 1) := by decide +kernel
theorem dX0_solveRows_45 : decode cX0_solveRows 45 = .ok (.ifCond .ne 20, 3) := by decide +kernel
theorem dX0_solveRows_48 : decode cX0_solveRows 48 = .ok (.aload_n 0, 1) := by decide +kernel
theorem dX0_solveRows_49 : decode cX0_solveRows 49 = .ok (.iload_n 1, 1) := by decide +kernel
theorem dX0_solveRows_50 : decode cX0_solveRows 50 = .ok (.invokevirtual 78, 3) := by decide +kernel
theorem dX0_solveRows_53 : decode cX0_solveRows 53 = .ok (.aload_n 0, 1) := by decide +kernel
theorem dX0_solveRows_54 : decode cX0_solveRows 54 = .ok (.aload_n 0, 1) := by decide +kernel
theorem dX0_solveRows_55 : decode cX0_solveRows 55 = .ok (.getfield 17, 3) := by decide +kernel
theorem dX0_solveRows_58 : decode cX0_solveRows 58 = .ok (.iload_n 1, 1) := by decide +kernel
theorem dX0_solveRows_59 : decode cX0_solveRows 59 = .ok (.aaload, 1) := by decide +kernel
theorem dX0_solveRows_60 : decode cX0_solveRows 60 = .ok (.iload_n 1, 1) := by decide +kernel
theorem dX0_solveRows_61 : decode cX0_solveRows 61 = .ok (.laload, 1) := by decide +kernel
theorem dX0_solveRows_62 : decode cX0_solveRows 62 = .ok (.putfield 28, 3) := by decide +kernel
theorem dX0_solveRows_65 : decode cX0_solveRows 65 = .ok (.iinc 1 1, 3) := by decide +kernel
theorem dX0_solveRows_68 : decode cX0_solveRows 68 = .ok (.goto (-61), 3) := by decide +kernel
theorem dX0_solveRows_71 : decode cX0_solveRows 71 = .ok (.iconst 0, 1) := by decide +kernel
theorem dX0_solveRows_72 : decode cX0_solveRows 72 = .ok (.istore_n 1, 1) := by decide +kernel
theorem dX0_solveRows_73 : decode cX0_solveRows 73 = .ok (.iload_n 1, 1) := by decide +kernel
theorem dX0_solveRows_74 : decode cX0_solveRows 74 = .ok (.aload_n 0, 1) := by decide +kernel
theorem dX0_solveRows_75 : decode cX0_solveRows 75 = .ok (.invokevirtual 74, 3) := by decide +kernel
theorem dX0_solveRows_78 : decode cX0_solveRows 78 = .ok (.if_icmp .ge 37, 3) := by decide +kernel
theorem dX0_solveRows_81 : decode cX0_solveRows 81 = .ok (.aload_n 0, 1) := by decide +kernel
theorem dX0_solveRows_82 : decode cX0_solveRows 82 = .ok (.getfield 24, 3) := by decide +kernel
theorem dX0_solveRows_85 : decode cX0_solveRows 85 = .ok (.iload_n 1, 1) := by decide +kernel
theorem dX0_solveRows_86 : decode cX0_solveRows 86 = .ok (.aload_n 0, 1) := by decide +kernel
theorem dX0_solveRows_87 : decode cX0_solveRows 87 = .ok (.getfield 20, 3) := by decide +kernel
theorem dX0_solveRows_90 : decode cX0_solveRows 90 = .ok (.iload_n 1, 1) := by decide +kernel
theorem dX0_solveRows_91 : decode cX0_solveRows 91 = .ok (.baload, 1) := by decide +kernel
theorem dX0_solveRows_92 : decode cX0_solveRows 92 = .ok (.ifCond .eq 7, 3) := by decide +kernel
theorem dX0_solveRows_95 : decode cX0_solveRows 95 = .ok (.lconst 0, 1) := by decide +kernel
theorem dX0_solveRows_96 : decode cX0_solveRows 96 = .ok (.goto 12, 3) := by decide +kernel
theorem dX0_solveRows_99 : decode cX0_solveRows 99 = .ok (.aload_n 0, 1) := by decide +kernel
theorem dX0_solveRows_100 : decode cX0_solveRows 100 = .ok (.getfield 17, 3) := by decide +kernel
theorem dX0_solveRows_103 : decode cX0_solveRows 103 = .ok (.iload_n 1, 1) := by decide +kernel
theorem dX0_solveRows_104 : decode cX0_solveRows 104 = .ok (.aaload, 1) := by decide +kernel
theorem dX0_solveRows_105 : decode cX0_solveRows 105 = .ok (.bipush 6, 2) := by decide +kernel
theorem dX0_solveRows_107 : decode cX0_solveRows 107 = .ok (.laload, 1) := by decide +kernel
theorem dX0_solveRows_108 : decode cX0_solveRows 108 = .ok (.lastore, 1) := by decide +kernel
theorem dX0_solveRows_109 : decode cX0_solveRows 109 = .ok (.iinc 1 1, 3) := by decide +kernel
theorem dX0_solveRows_112 : decode cX0_solveRows 112 = .ok (.goto (-39), 3) := by decide +kernel
theorem dX0_solveRows_115 : decode cX0_solveRows 115 = .ok (.return_, 1) := by decide +kernel
set_option maxRecDepth 20000 in
theorem ggX0_clearColumn_X0_spaces : GoodIn wsX0_clearColumn wsX0_spaces := goodIn_r _ [11, 12, 13, 14, 15, 16, 17, 18, 19, 20, 21, 22, 23, 24, 25, 26, 27] (by decide +kernel) (by decide +kernel)
set_option maxRecDepth 20000 in
theorem gX0_clearColumn_X0_spaces : GoodIn wsX0_clearColumn (wsV RX0 74 RX0 yX0_spaces wsX0_spaces) := goodIn_app (goodIn_of _ (by decide +kernel)) ggX0_clearColumn_X0_spaces
theorem dX0_clearColumn_0 : decode cX0_clearColumn 0 = .ok (.aload_n 0, 1) := by decide +kernel
theorem dX0_clearColumn_1 : decode cX0_clearColumn 1 = .ok (.getfield 17, 3) := by decide +kernel
theorem dX0_clearColumn_4 : decode cX0_clearColumn 4 = .ok (.iload_n 1, 1) := by decide +kernel
theorem dX0_clearColumn_5 : decode cX0_clearColumn 5 = .ok (.aaload, 1) := by decide +kernel
theorem dX0_clearColumn_6 : decode cX0_clearColumn 6 = .ok (.iload_n 1, 1) := by decide +kernel
theorem dX0_clearColumn_7 : decode cX0_clearColumn 7 = .ok (.laload, 1) := by decide +kernel
theorem dX0_clearColumn_8 : decode cX0_clearColumn 8 = .ok (.lstore_n 2, 1) := by decide +kernel
theorem dX0_clearColumn_9 : decode cX0_clearColumn 9 = .ok (.lconst 1, 1) := by decide +kernel
theorem dX0_clearColumn_10 : decode cX0_clearColumn 10 = .ok (.aload_n 0, 1) := by decide +kernel
theorem dX0_clearColumn_11 : decode cX0_clearColumn 11 = .ok (.getfield 28, 3) := by decide +kernel
theorem dX0_clearColumn_14 : decode cX0_clearColumn 14 = .ok (.invokestatic 82, 3) := by decide +kernel
theorem dX0_clearColumn_17 : decode cX0_clearColumn 17 = .ok (.lstore 4, 2) := by decide +kernel
theorem dX0_clearColumn_19 : decode cX0_clearColumn 19 = .ok (.iconst 0, 1) := by decide +kernel
theorem dX0_clearColumn_20 : decode cX0_clearColumn 20 = .ok (.istore 6, 2) := by decide +kernel
theorem dX0_clearColumn_22 : decode cX0_clearColumn 22 = .ok (.iload 6, 2) := by decide +kernel
theorem dX0_clearColumn_24 : decode cX0_clearColumn 24 = .ok (.aload_n 0, 1) := by decide +kernel
theorem dX0_clearColumn_25 : decode cX0_clearColumn 25 = .ok (.invokevirtual 74, 3) := by decide +kernel
theorem dX0_clearColumn_28 : decode cX0_clearColumn 28 = .ok (.if_icmp .ge 80, 3) := by decide +kernel
theorem dX0_clearColumn_31 : decode cX0_clearColumn 31 = .ok (.iload 6, 2) := by decide +kernel
theorem dX0_clearColumn_33 : decode cX0_clearColumn 33 = .ok (.iload_n 1, 1) := by decide +kernel
theorem dX0_clearColumn_34 : decode cX0_clearColumn 34 = .ok (.if_icmp .eq 68, 3) := by decide +kernel
theorem dX0_clearColumn_37 : decode cX0_clearColumn 37 = .ok (.aload_n 0, 1) := by decide +kernel
theorem dX0_clearColumn_38 : decode cX0_clearColumn 38 = .ok (.getfield 17, 3) := by decide +kernel
theorem dX0_clearColumn_41 : decode cX0_clearColumn 41 = .ok (.iload 6, 2) := by decide +kernel
theorem dX0_clearColumn_43 : decode cX0_clearColumn 43 = .ok (.aaload, 1) := by decide +kernel
theorem dX0_clearColumn_44 : decode cX0_clearColumn 44 = .ok (.iload_n 1, 1) := by decide +kernel
theorem dX0_clearColumn_45 : decode cX0_clearColumn 45 = .ok (.laload, 1) := by decide +kernel
theorem dX0_clearColumn_46 : decode cX0_clearColumn 46 = .ok (.lstore 7, 2) := by decide +kernel
theorem dX0_clearColumn_48 : decode cX0_clearColumn 48 = .ok (.iconst 0, 1) := by decide +kernel
theorem dX0_clearColumn_49 : decode cX0_clearColumn 49 = .ok (.istore 9, 2) := by decide +kernel
theorem dX0_clearColumn_51 : decode cX0_clearColumn 51 = .ok (.iload 9, 2) := by decide +kernel
theorem dX0_clearColumn_53 : decode cX0_clearColumn 53 = .ok (.bipush 6, 2) := by decide +kernel
theorem dX0_clearColumn_55 : decode cX0_clearColumn 55 = .ok (.if_icmp .gt 47, 3) := by decide +kernel
theorem dX0_clearColumn_58 : decode cX0_clearColumn 58 = .ok (.aload_n 0, 1) := by decide +kernel
theorem dX0_clearColumn_59 : decode cX0_clearColumn 59 = .ok (.getfield 17, 3) := by decide +kernel
theorem dX0_clearColumn_62 : decode cX0_clearColumn 62 = .ok (.iload 6, 2) := by decide +kernel
theorem dX0_clearColumn_64 : decode cX0_clearColumn 64 = .ok (.aaload, 1) := by decide +kernel
theorem dX0_clearColumn_65 : decode cX0_clearColumn 65 = .ok (.iload 9, 2) := by decide +kernel
theorem dX0_clearColumn_67 : decode cX0_clearColumn 67 = .ok (.lload_n 2, 1) := by decide +kernel
theorem dX0_clearColumn_68 : decode cX0_clearColumn 68 = .ok (.aload_n 0, 1) := by decide +kernel
theorem dX0_clearColumn_69 : decode cX0_clearColumn 69 = .ok (.getfield 17, 3) := by decide +kernel
theorem dX0_clearColumn_72 : decode cX0_clearColumn 72 = .ok (.iload 6, 2) := by decide +kernel
theorem dX0_clearColumn_74 : decode cX0_clearColumn 74 = .ok (.aaload, 1) := by decide +kernel
theorem dX0_clearColumn_75 : decode cX0_clearColumn 75 = .ok (.iload 9, 2) := by decide +kernel
theorem dX0_clearColumn_77 : decode cX0_clearColumn 77 = .ok (.laload, 1) := by decide +kernel
theorem dX0_clearColumn_78 : decode cX0_clearColumn 78 = .ok (.lmul, 1) := by decide +kernel
theorem dX0_clearColumn_79 : decode cX0_clearColumn 79 = .ok (.lload 7, 2) := by decide +kernel
theorem dX0_clearColumn_81 : decode cX0_clearColumn 81 = .ok (.aload_n 0, 1) := by decide +kernel
theorem dX0_clearColumn_82 : decode cX0_clearColumn 82 = .ok (.getfield 17, 3) := by decide +kernel
theorem dX0_clearColumn_85 : decode cX0_clearColumn 85 = .ok (.iload_n 1, 1) := by decide +kernel
theorem dX0_clearColumn_86 : decode cX0_clearColumn 86 = .ok (.aaload, 1) := by decide +kernel
theorem dX0_clearColumn_87 : decode cX0_clearColumn 87 = .ok (.iload 9, 2) := by decide +kernel
theorem dX0_clearColumn_89 : decode cX0_clearColumn 89 = .ok (.laload, 1) := by decide +kernel
theorem dX0_clearColumn_90 : decode cX0_clearColumn 90 = .ok (.lmul, 1) := by decide +kernel
theorem dX0_clearColumn_91 : decode cX0_clearColumn 91 = .ok (.lsub, 1) := by decide +kernel
theorem dX0_clearColumn_92 : decode cX0_clearColumn 92 = .ok (.lload 4, 2) := by decide +kernel
theorem dX0_clearColumn_94 : decode cX0_clearColumn 94 = .ok (.ldiv, 1) := by decide +kernel
theorem dX0_clearColumn_95 : decode cX0_clearColumn 95 = .ok (.lastore, 1) := by decide +kernel
theorem dX0_clearColumn_96 : decode cX0_clearColumn 96 = .ok (.iinc 9 1, 3) := by decide +kernel
theorem dX0_clearColumn_99 : decode cX0_clearColumn 99 = .ok (.goto (-48), 3) := by decide +kernel
theorem dX0_clearColumn_102 : decode cX0_clearColumn 102 = .ok (.iinc 6 1, 3) := by decide +kernel
theorem dX0_clearColumn_105 : decode cX0_clearColumn 105 = .ok (.goto (-83), 3) := by decide +kernel
theorem dX0_clearColumn_108 : decode cX0_clearColumn 108 = .ok (.return_, 1) := by decide +kernel
set_option maxRecDepth 20000 in
theorem ggX0_makeWhole_X0_spaces : GoodIn wsX0_makeWhole wsX0_spaces := goodIn_r _ [16, 17, 18, 30, 31, 32, 33, 34, 35, 36, 37, 38, 39, 40, 41, 42, 43] (by decide +kernel) (by decide +kernel)
set_option maxRecDepth 20000 in
theorem gX0_makeWhole_X0_spaces : GoodIn wsX0_makeWhole (wsV RX0 74 RX0 yX0_spaces wsX0_spaces) := goodIn_app (goodIn_of _ (by decide +kernel)) ggX0_makeWhole_X0_spaces
set_option maxRecDepth 20000 in
theorem ggX0_makeWhole_J9_floorDiv_f86c9 : GoodIn wsX0_makeWhole wsJ9_floorDiv_f86c9 := goodIn_r _ [22] (by decide +kernel) (by decide +kernel)
set_option maxRecDepth 20000 in
theorem gX0_makeWhole_J9_floorDiv_f86c9 : GoodIn wsX0_makeWhole (va_wsS RX0 90 yJ9_floorDiv_f86c9 wsJ9_floorDiv_f86c9) := goodIn_app (goodIn_of _ (by decide +kernel)) ggX0_makeWhole_J9_floorDiv_f86c9
set_option maxRecDepth 20000 in
theorem ggX0_makeWhole_J9_floorMod_f86c9 : GoodIn wsX0_makeWhole wsJ9_floorMod_f86c9 := goodIn_r _ [25] (by decide +kernel) (by decide +kernel)
set_option maxRecDepth 20000 in
theorem gX0_makeWhole_J9_floorMod_f86c9 : GoodIn wsX0_makeWhole (va_wsS RX0 93 yJ9_floorMod_f86c9 wsJ9_floorMod_f86c9) := goodIn_app (goodIn_of _ (by decide +kernel)) ggX0_makeWhole_J9_floorMod_f86c9
set_option maxRecDepth 20000 in
theorem ggX0_makeWhole_X0_firstOfGreatestRest : GoodIn wsX0_makeWhole wsX0_firstOfGreatestRest := goodIn_r _ [29, 9, 12, 13, 14, 15, 16, 17, 18, 30, 31, 32, 33, 34, 35, 36, 37, 38, 39, 40, 41, 42, 43] (by decide +kernel) (by decide +kernel)
set_option maxRecDepth 20000 in
theorem gX0_makeWhole_X0_firstOfGreatestRest : GoodIn wsX0_makeWhole (wsV RX0 98 RX0 yX0_firstOfGreatestRest wsX0_firstOfGreatestRest) := goodIn_app (goodIn_of _ (by decide +kernel)) ggX0_makeWhole_X0_firstOfGreatestRest
theorem dX0_makeWhole_0 : decode cX0_makeWhole 0 = .ok (.lconst 1, 1) := by decide +kernel
theorem dX0_makeWhole_1 : decode cX0_makeWhole 1 = .ok (.ldc2_w 88, 3) := by decide +kernel
theorem dX0_makeWhole_4 : decode cX0_makeWhole 4 = .ok (.aload_n 0, 1) := by decide +kernel
theorem dX0_makeWhole_5 : decode cX0_makeWhole 5 = .ok (.getfield 28, 3) := by decide +kernel
theorem dX0_makeWhole_8 : decode cX0_makeWhole 8 = .ok (.lmul, 1) := by decide +kernel
theorem dX0_makeWhole_9 : decode cX0_makeWhole 9 = .ok (.invokestatic 82, 3) := by decide +kernel
theorem dX0_makeWhole_12 : decode cX0_makeWhole 12 = .ok (.lstore_n 1, 1) := by decide +kernel
theorem dX0_makeWhole_13 : decode cX0_makeWhole 13 = .ok (.lconst 0, 1) := by decide +kernel
theorem dX0_makeWhole_14 : decode cX0_makeWhole 14 = .ok (.lstore_n 3, 1) := by decide +kernel
theorem dX0_makeWhole_15 : decode cX0_makeWhole 15 = .ok (.lconst 0, 1) := by decide +kernel
theorem dX0_makeWhole_16 : decode cX0_makeWhole 16 = .ok (.lstore 5, 2) := by decide +kernel
theorem dX0_makeWhole_18 : decode cX0_makeWhole 18 = .ok (.iconst 0, 1) := by decide +kernel
theorem dX0_makeWhole_19 : decode cX0_makeWhole 19 = .ok (.istore 7, 2) := by decide +kernel
theorem dX0_makeWhole_21 : decode cX0_makeWhole 21 = .ok (.iload 7, 2) := by decide +kernel
theorem dX0_makeWhole_23 : decode cX0_makeWhole 23 = .ok (.aload_n 0, 1) := by decide +kernel
theorem dX0_makeWhole_24 : decode cX0_makeWhole 24 = .ok (.invokevirtual 74, 3) := by decide +kernel
theorem dX0_makeWhole_27 : decode cX0_makeWhole 27 = .ok (.if_icmp .ge 67, 3) := by decide +kernel
theorem dX0_makeWhole_30 : decode cX0_makeWhole 30 = .ok (.aload_n 0, 1) := by decide +kernel
theorem dX0_makeWhole_31 : decode cX0_makeWhole 31 = .ok (.getfield 32, 3) := by decide +kernel
theorem dX0_makeWhole_34 : decode cX0_makeWhole 34 = .ok (.iload 7, 2) := by decide +kernel
theorem dX0_makeWhole_36 : decode cX0_makeWhole 36 = .ok (.aload_n 0, 1) := by decide +kernel
theorem dX0_makeWhole_37 : decode cX0_makeWhole 37 = .ok (.getfield 24, 3) := by decide +kernel
theorem dX0_makeWhole_40 : decode cX0_makeWhole 40 = .ok (.iload 7, 2) := by decide +kernel
theorem dX0_makeWhole_42 : decode cX0_makeWhole 42 = .ok (.laload, 1) := by decide +kernel
theorem dX0_makeWhole_43 : decode cX0_makeWhole 43 = .ok (.lload_n 1, 1) := by decide +kernel
theorem dX0_makeWhole_44 : decode cX0_makeWhole 44 = .ok (.invokestatic 90, 3) := by decide +kernel
theorem dX0_makeWhole_47 : decode cX0_makeWhole 47 = .ok (.lastore, 1) := by decide +kernel
theorem dX0_makeWhole_48 : decode cX0_makeWhole 48 = .ok (.aload_n 0, 1) := by decide +kernel
theorem dX0_makeWhole_49 : decode cX0_makeWhole 49 = .ok (.getfield 35, 3) := by decide +kernel
theorem dX0_makeWhole_52 : decode cX0_makeWhole 52 = .ok (.iload 7, 2) := by decide +kernel
theorem dX0_makeWhole_54 : decode cX0_makeWhole 54 = .ok (.aload_n 0, 1) := by decide +kernel
theorem dX0_makeWhole_55 : decode cX0_makeWhole 55 = .ok (.getfield 24, 3) := by decide +kernel
theorem dX0_makeWhole_58 : decode cX0_makeWhole 58 = .ok (.iload 7, 2) := by decide +kernel
theorem dX0_makeWhole_60 : decode cX0_makeWhole 60 = .ok (.laload, 1) := by decide +kernel
theorem dX0_makeWhole_61 : decode cX0_makeWhole 61 = .ok (.lload_n 1, 1) := by decide +kernel
theorem dX0_makeWhole_62 : decode cX0_makeWhole 62 = .ok (.invokestatic 93, 3) := by decide +kernel
theorem dX0_makeWhole_65 : decode cX0_makeWhole 65 = .ok (.lastore, 1) := by decide +kernel
theorem dX0_makeWhole_66 : decode cX0_makeWhole 66 = .ok (.lload_n 3, 1) := by decide +kernel
theorem dX0_makeWhole_67 : decode cX0_makeWhole 67 = .ok (.aload_n 0, 1) := by decide +kernel
theorem dX0_makeWhole_68 : decode cX0_makeWhole 68 = .ok (.getfield 24, 3) := by decide +kernel
theorem dX0_makeWhole_71 : decode cX0_makeWhole 71 = .ok (.iload 7, 2) := by decide +kernel
theorem dX0_makeWhole_73 : decode cX0_makeWhole 73 = .ok (.laload, 1) := by decide +kernel
theorem dX0_makeWhole_74 : decode cX0_makeWhole 74 = .ok (.ladd, 1) := by decide +kernel
theorem dX0_makeWhole_75 : decode cX0_makeWhole 75 = .ok (.lstore_n 3, 1) := by decide +kernel
theorem dX0_makeWhole_76 : decode cX0_makeWhole 76 = .ok (.lload 5, 2) := by decide +kernel
theorem dX0_makeWhole_78 : decode cX0_makeWhole 78 = .ok (.aload_n 0, 1) := by decide +kernel
theorem dX0_makeWhole_79 : decode cX0_makeWhole 79 = .ok (.getfield 32, 3) := by decide +kernel
theorem dX0_makeWhole_82 : decode cX0_makeWhole 82 = .ok (.iload 7, 2) := by decide +kernel
theorem dX0_makeWhole_84 : decode cX0_makeWhole 84 = .ok (.laload, 1) := by decide +kernel
theorem dX0_makeWhole_85 : decode cX0_makeWhole 85 = .ok (.ladd, 1) := by decide +kernel
theorem dX0_makeWhole_86 : decode cX0_makeWhole 86 = .ok (.lstore 5, 2) := by decide +kernel
theorem dX0_makeWhole_88 : decode cX0_makeWhole 88 = .ok (.iinc 7 1, 3) := by decide +kernel
theorem dX0_makeWhole_91 : decode cX0_makeWhole 91 = .ok (.goto (-70), 3) := by decide +kernel
theorem dX0_makeWhole_94 : decode cX0_makeWhole 94 = .ok (.ldc2_w 96, 3) := by decide +kernel
theorem dX0_makeWhole_97 : decode cX0_makeWhole 97 = .ok (.lload_n 3, 1) := by decide +kernel
theorem dX0_makeWhole_98 : decode cX0_makeWhole 98 = .ok (.lmul, 1) := by decide +kernel
theorem dX0_makeWhole_99 : decode cX0_makeWhole 99 = .ok (.lload_n 1, 1) := by decide +kernel
theorem dX0_makeWhole_100 : decode cX0_makeWhole 100 = .ok (.ladd, 1) := by decide +kernel
theorem dX0_makeWhole_101 : decode cX0_makeWhole 101 = .ok (.ldc2_w 96, 3) := by decide +kernel
theorem dX0_makeWhole_104 : decode cX0_makeWhole 104 = .ok (.lload_n 1, 1) := by decide +kernel
theorem dX0_makeWhole_105 : decode cX0_makeWhole 105 = .ok (.lmul, 1) := by decide +kernel
theorem dX0_makeWhole_106 : decode cX0_makeWhole 106 = .ok (.invokestatic 90, 3) := by decide +kernel
theorem dX0_makeWhole_109 : decode cX0_makeWhole 109 = .ok (.lload 5, 2) := by decide +kernel
theorem dX0_makeWhole_111 : decode cX0_makeWhole 111 = .ok (.lsub, 1) := by decide +kernel
theorem dX0_makeWhole_112 : decode cX0_makeWhole 112 = .ok (.lstore 7, 2) := by decide +kernel
theorem dX0_makeWhole_114 : decode cX0_makeWhole 114 = .ok (.iconst 0, 1) := by decide +kernel
theorem dX0_makeWhole_115 : decode cX0_makeWhole 115 = .ok (.istore 9, 2) := by decide +kernel
theorem dX0_makeWhole_117 : decode cX0_makeWhole 117 = .ok (.iload 9, 2) := by decide +kernel
theorem dX0_makeWhole_119 : decode cX0_makeWhole 119 = .ok (.aload_n 0, 1) := by decide +kernel
theorem dX0_makeWhole_120 : decode cX0_makeWhole 120 = .ok (.invokevirtual 74, 3) := by decide +kernel
theorem dX0_makeWhole_123 : decode cX0_makeWhole 123 = .ok (.if_icmp .ge 45, 3) := by decide +kernel
theorem dX0_makeWhole_126 : decode cX0_makeWhole 126 = .ok (.iload 9, 2) := by decide +kernel
theorem dX0_makeWhole_128 : decode cX0_makeWhole 128 = .ok (.i2l, 1) := by decide +kernel
theorem dX0_makeWhole_129 : decode cX0_makeWhole 129 = .ok (.lload 7, 2) := by decide +kernel
theorem dX0_makeWhole_131 : decode cX0_makeWhole 131 = .ok (.lcmp, 1) := by decide +kernel
theorem dX0_makeWhole_132 : decode cX0_makeWhole 132 = .ok (.ifCond .ge 36, 3) := by decide +kernel
theorem dX0_makeWhole_135 : decode cX0_makeWhole 135 = .ok (.aload_n 0, 1) := by decide +kernel
theorem dX0_makeWhole_136 : decode cX0_makeWhole 136 = .ok (.invokevirtual 98, 3) := by decide +kernel
theorem dX0_makeWhole_139 : decode cX0_makeWhole 139 = .ok (.istore 10, 2) := by decide +kernel
theorem dX0_makeWhole_141 : decode cX0_makeWhole 141 = .ok (.aload_n 0, 1) := by decide +kernel
theorem dX0_makeWhole_142 : decode cX0_makeWhole 142 = .ok (.getfield 32, 3) := by decide +kernel
theorem dX0_makeWhole_145 : decode cX0_makeWhole 145 = .ok (.iload 10, 2) := by decide +kernel
theorem dX0_makeWhole_147 : decode cX0_makeWhole 147 = .ok (.dup2, 1) := by decide +kernel
theorem dX0_makeWhole_148 : decode cX0_makeWhole 148 = .ok (.laload, 1) := by decide +kernel
theorem dX0_makeWhole_149 : decode cX0_makeWhole 149 = .ok (.lconst 1, 1) := by decide +kernel
theorem dX0_makeWhole_150 : decode cX0_makeWhole 150 = .ok (.ladd, 1) := by decide +kernel
theorem dX0_makeWhole_151 : decode cX0_makeWhole 151 = .ok (.lastore, 1) := by decide +kernel
theorem dX0_makeWhole_152 : decode cX0_makeWhole 152 = .ok (.aload_n 0, 1) := by decide +kernel
theorem dX0_makeWhole_153 : decode cX0_makeWhole 153 = .ok (.getfield 35, 3) := by decide +kernel
theorem dX0_makeWhole_156 : decode cX0_makeWhole 156 = .ok (.iload 10, 2) := by decide +kernel
theorem dX0_makeWhole_158 : decode cX0_makeWhole 158 = .ok (.ldc2_w 101, 3) := by decide +kernel
theorem dX0_makeWhole_161 : decode cX0_makeWhole 161 = .ok (.lastore, 1) := by decide +kernel
theorem dX0_makeWhole_162 : decode cX0_makeWhole 162 = .ok (.iinc 9 1, 3) := by decide +kernel
theorem dX0_makeWhole_165 : decode cX0_makeWhole 165 = .ok (.goto (-48), 3) := by decide +kernel
theorem dX0_makeWhole_168 : decode cX0_makeWhole 168 = .ok (.return_, 1) := by decide +kernel
set_option maxRecDepth 20000 in
theorem ggX0_firstOfGreatestRest_X0_spaces : GoodIn wsX0_firstOfGreatestRest wsX0_spaces := goodIn_r _ [6, 7, 8, 9, 10, 11, 12, 13, 14, 15, 16, 17, 18, 19, 20, 21, 22] (by decide +kernel) (by decide +kernel)
set_option maxRecDepth 20000 in
theorem gX0_firstOfGreatestRest_X0_spaces : GoodIn wsX0_firstOfGreatestRest (wsV RX0 74 RX0 yX0_spaces wsX0_spaces) := goodIn_app (goodIn_of _ (by decide +kernel)) ggX0_firstOfGreatestRest_X0_spaces
theorem dX0_firstOfGreatestRest_0 : decode cX0_firstOfGreatestRest 0 = .ok (.iconst 0, 1) := by decide +kernel
theorem dX0_firstOfGreatestRest_1 : decode cX0_firstOfGreatestRest 1 = .ok (.istore_n 1, 1) := by decide +kernel
theorem dX0_firstOfGreatestRest_2 : decode cX0_firstOfGreatestRest 2 = .ok (.iconst 1, 1) := by decide +kernel
theorem dX0_firstOfGreatestRest_3 : decode cX0_firstOfGreatestRest 3 = .ok (.istore_n 2, 1) := by decide +kernel
theorem dX0_firstOfGreatestRest_4 : decode cX0_firstOfGreatestRest 4 = .ok (.iload_n 2, 1) := by decide +kernel
theorem dX0_firstOfGreatestRest_5 : decode cX0_firstOfGreatestRest 5 = .ok (.aload_n 0, 1) := by decide +kernel
theorem dX0_firstOfGreatestRest_6 : decode cX0_firstOfGreatestRest 6 = .ok (.invokevirtual 74, 3) := by decide +kernel
theorem dX0_firstOfGreatestRest_9 : decode cX0_firstOfGreatestRest 9 = .ok (.if_icmp .ge 27, 3) := by decide +kernel
theorem dX0_firstOfGreatestRest_12 : decode cX0_firstOfGreatestRest 12 = .ok (.aload_n 0, 1) := by decide +kernel
theorem dX0_firstOfGreatestRest_13 : decode cX0_firstOfGreatestRest 13 = .ok (.getfield 35, 3) := by decide +kernel
theorem dX0_firstOfGreatestRest_16 : decode cX0_firstOfGreatestRest 16 = .ok (.iload_n 2, 1) := by decide +kernel
theorem dX0_firstOfGreatestRest_17 : decode cX0_firstOfGreatestRest 17 = .ok (.laload, 1) := by decide +kernel
theorem dX0_firstOfGreatestRest_18 : decode cX0_firstOfGreatestRest 18 = .ok (.aload_n 0, 1) := by decide +kernel
theorem dX0_firstOfGreatestRest_19 : decode cX0_firstOfGreatestRest 19 = .ok (.getfield 35, 3) := by decide +kernel
theorem dX0_firstOfGreatestRest_22 : decode cX0_firstOfGreatestRest 22 = .ok (.iload_n 1, 1) := by decide +kernel
theorem dX0_firstOfGreatestRest_23 : decode cX0_firstOfGreatestRest 23 = .ok (.laload, 1) := by decide +kernel
theorem dX0_firstOfGreatestRest_24 : decode cX0_firstOfGreatestRest 24 = .ok (.lcmp, 1) := by decide +kernel
theorem dX0_firstOfGreatestRest_25 : decode cX0_firstOfGreatestRest 25 = .ok (.ifCond .le 5, 3) := by decide +kernel
theorem dX0_firstOfGreatestRest_28 : decode cX0_firstOfGreatestRest 28 = .ok (.iload_n 2, 1) := by decide +kernel
theorem dX0_firstOfGreatestRest_29 : decode cX0_firstOfGreatestRest 29 = .ok (.istore_n 1, 1) := by decide +kernel
theorem dX0_firstOfGreatestRest_30 : decode cX0_firstOfGreatestRest 30 = .ok (.iinc 2 1, 3) := by decide +kernel
theorem dX0_firstOfGreatestRest_33 : decode cX0_firstOfGreatestRest 33 = .ok (.goto (-29), 3) := by decide +kernel
theorem dX0_firstOfGreatestRest_36 : decode cX0_firstOfGreatestRest 36 = .ok (.iload_n 1, 1) := by decide +kernel
theorem dX0_firstOfGreatestRest_37 : decode cX0_firstOfGreatestRest 37 = .ok (.ireturn, 1) := by decide +kernel
set_option maxRecDepth 20000 in
theorem ggX0_isOpen_X0_numberOf : GoodIn wsX0_isOpen wsX0_numberOf := goodIn_r _ [6, 7, 8, 9, 10, 11, 12, 13, 14, 15, 16, 17, 18, 19, 20, 21, 22] (by decide +kernel) (by decide +kernel)
set_option maxRecDepth 20000 in
theorem gX0_isOpen_X0_numberOf : GoodIn wsX0_isOpen (wsV RX0 71 RX0 yX0_numberOf wsX0_numberOf) := goodIn_app (goodIn_of _ (by decide +kernel)) ggX0_isOpen_X0_numberOf
theorem dX0_isOpen_0 : decode cX0_isOpen 0 = .ok (.aload_n 0, 1) := by decide +kernel
theorem dX0_isOpen_1 : decode cX0_isOpen 1 = .ok (.getfield 20, 3) := by decide +kernel
theorem dX0_isOpen_4 : decode cX0_isOpen 4 = .ok (.aload_n 0, 1) := by decide +kernel
theorem dX0_isOpen_5 : decode cX0_isOpen 5 = .ok (.iload_n 1, 1) := by decide +kernel
theorem dX0_isOpen_6 : decode cX0_isOpen 6 = .ok (.iload_n 2, 1) := by decide +kernel
theorem dX0_isOpen_7 : decode cX0_isOpen 7 = .ok (.invokevirtual 71, 3) := by decide +kernel
theorem dX0_isOpen_10 : decode cX0_isOpen 10 = .ok (.baload, 1) := by decide +kernel
theorem dX0_isOpen_11 : decode cX0_isOpen 11 = .ok (.ireturn, 1) := by decide +kernel
set_option maxRecDepth 20000 in
theorem ggX0_openSpaces_X0_spaces : GoodIn wsX0_openSpaces wsX0_spaces := goodIn_r _ [6, 7, 8, 9, 10, 11, 12, 13, 14, 15, 16, 17, 18, 19, 20, 21, 22] (by decide +kernel) (by decide +kernel)
set_option maxRecDepth 20000 in
theorem gX0_openSpaces_X0_spaces : GoodIn wsX0_openSpaces (wsV RX0 74 RX0 yX0_spaces wsX0_spaces) := goodIn_app (goodIn_of _ (by decide +kernel)) ggX0_openSpaces_X0_spaces
theorem dX0_openSpaces_0 : decode cX0_openSpaces 0 = .ok (.iconst 0, 1) := by decide +kernel
theorem dX0_openSpaces_1 : decode cX0_openSpaces 1 = .ok (.istore_n 1, 1) := by decide +kernel
theorem dX0_openSpaces_2 : decode cX0_openSpaces 2 = .ok (.iconst 0, 1) := by decide +kernel
theorem dX0_openSpaces_3 : decode cX0_openSpaces 3 = .ok (.istore_n 2, 1) := by decide +kernel
theorem dX0_openSpaces_4 : decode cX0_openSpaces 4 = .ok (.iload_n 2, 1) := by decide +kernel
theorem dX0_openSpaces_5 : decode cX0_openSpaces 5 = .ok (.aload_n 0, 1) := by decide +kernel
theorem dX0_openSpaces_6 : decode cX0_openSpaces 6 = .ok (.invokevirtual 74, 3) := by decide +kernel
theorem dX0_openSpaces_9 : decode cX0_openSpaces 9 = .ok (.if_icmp .ge 26, 3) := by decide +kernel
theorem dX0_openSpaces_12 : decode cX0_openSpaces 12 = .ok (.iload_n 1, 1) := by decide +kernel
theorem dX0_openSpaces_13 : decode cX0_openSpaces 13 = .ok (.aload_n 0, 1) := by decide +kernel
theorem dX0_openSpaces_14 : decode cX0_openSpaces 14 = .ok (.getfield 20, 3) := by decide +kernel
theorem dX0_openSpaces_17 : decode cX0_openSpaces 17 = .ok (.iload_n 2, 1) := by decide +kernel
theorem dX0_openSpaces_18 : decode cX0_openSpaces 18 = .ok (.baload, 1) := by decide +kernel
theorem dX0_openSpaces_19 : decode cX0_openSpaces 19 = .ok (.ifCond .eq 7, 3) := by decide +kernel
theorem dX0_openSpaces_22 : decode cX0_openSpaces 22 = .ok (.iconst 1, 1) := by decide +kernel
theorem dX0_openSpaces_23 : decode cX0_openSpaces 23 = .ok (.goto 4, 3) := by decide +kernel
theorem dX0_openSpaces_26 : decode cX0_openSpaces 26 = .ok (.iconst 0, 1) := by decide +kernel
theorem dX0_openSpaces_27 : decode cX0_openSpaces 27 = .ok (.iadd, 1) := by decide +kernel
theorem dX0_openSpaces_28 : decode cX0_openSpaces 28 = .ok (.istore_n 1, 1) := by decide +kernel
theorem dX0_openSpaces_29 : decode cX0_openSpaces 29 = .ok (.iinc 2 1, 3) := by decide +kernel
theorem dX0_openSpaces_32 : decode cX0_openSpaces 32 = .ok (.goto (-28), 3) := by decide +kernel
theorem dX0_openSpaces_35 : decode cX0_openSpaces 35 = .ok (.iload_n 1, 1) := by decide +kernel
theorem dX0_openSpaces_36 : decode cX0_openSpaces 36 = .ok (.ireturn, 1) := by decide +kernel
set_option maxRecDepth 20000 in
theorem ggX0_spaceAbove_X0_numberOf : GoodIn wsX0_spaceAbove wsX0_numberOf := goodIn_r _ [6, 7, 8, 9, 10, 11, 12, 13, 14, 15, 16, 17, 18, 19, 20, 21, 22] (by decide +kernel) (by decide +kernel)
set_option maxRecDepth 20000 in
theorem gX0_spaceAbove_X0_numberOf : GoodIn wsX0_spaceAbove (wsV RX0 71 RX0 yX0_numberOf wsX0_numberOf) := goodIn_app (goodIn_of _ (by decide +kernel)) ggX0_spaceAbove_X0_numberOf
theorem dX0_spaceAbove_0 : decode cX0_spaceAbove 0 = .ok (.aload_n 0, 1) := by decide +kernel
theorem dX0_spaceAbove_1 : decode cX0_spaceAbove 1 = .ok (.getfield 24, 3) := by decide +kernel
theorem dX0_spaceAbove_4 : decode cX0_spaceAbove 4 = .ok (.aload_n 0, 1) := by decide +kernel
theorem dX0_spaceAbove_5 : decode cX0_spaceAbove 5 = .ok (.iload_n 1, 1) := by decide +kernel
theorem dX0_spaceAbove_6 : decode cX0_spaceAbove 6 = .ok (.iload_n 2, 1) := by decide +kernel
theorem dX0_spaceAbove_7 : decode cX0_spaceAbove 7 = .ok (.invokevirtual 71, 3) := by decide +kernel
theorem dX0_spaceAbove_10 : decode cX0_spaceAbove 10 = .ok (.laload, 1) := by decide +kernel
theorem dX0_spaceAbove_11 : decode cX0_spaceAbove 11 = .ok (.lreturn, 1) := by decide +kernel
theorem dX0_spaceBelow_0 : decode cX0_spaceBelow 0 = .ok (.ldc2_w 88, 3) := by decide +kernel
theorem dX0_spaceBelow_3 : decode cX0_spaceBelow 3 = .ok (.aload_n 0, 1) := by decide +kernel
theorem dX0_spaceBelow_4 : decode cX0_spaceBelow 4 = .ok (.getfield 28, 3) := by decide +kernel
theorem dX0_spaceBelow_7 : decode cX0_spaceBelow 7 = .ok (.lmul, 1) := by decide +kernel
theorem dX0_spaceBelow_8 : decode cX0_spaceBelow 8 = .ok (.lreturn, 1) := by decide +kernel
set_option maxRecDepth 20000 in
theorem ggX0_wholeSpace_X0_numberOf : GoodIn wsX0_wholeSpace wsX0_numberOf := goodIn_r _ [6, 7, 8, 9, 10, 11, 12, 13, 14, 15, 16, 17, 18, 19, 20, 21, 22] (by decide +kernel) (by decide +kernel)
set_option maxRecDepth 20000 in
theorem gX0_wholeSpace_X0_numberOf : GoodIn wsX0_wholeSpace (wsV RX0 71 RX0 yX0_numberOf wsX0_numberOf) := goodIn_app (goodIn_of _ (by decide +kernel)) ggX0_wholeSpace_X0_numberOf
theorem dX0_wholeSpace_0 : decode cX0_wholeSpace 0 = .ok (.aload_n 0, 1) := by decide +kernel
theorem dX0_wholeSpace_1 : decode cX0_wholeSpace 1 = .ok (.getfield 32, 3) := by decide +kernel
theorem dX0_wholeSpace_4 : decode cX0_wholeSpace 4 = .ok (.aload_n 0, 1) := by decide +kernel
theorem dX0_wholeSpace_5 : decode cX0_wholeSpace 5 = .ok (.iload_n 1, 1) := by decide +kernel
theorem dX0_wholeSpace_6 : decode cX0_wholeSpace 6 = .ok (.iload_n 2, 1) := by decide +kernel
theorem dX0_wholeSpace_7 : decode cX0_wholeSpace 7 = .ok (.invokevirtual 71, 3) := by decide +kernel
theorem dX0_wholeSpace_10 : decode cX0_wholeSpace 10 = .ok (.laload, 1) := by decide +kernel
theorem dX0_wholeSpace_11 : decode cX0_wholeSpace 11 = .ok (.lreturn, 1) := by decide +kernel
set_option maxRecDepth 20000 in
theorem ggX0_whiteAbove_X0_spaceAbove : GoodIn wsX0_whiteAbove wsX0_spaceAbove := goodIn_r _ [7, 8, 9, 10, 11, 6, 12, 1, 13, 28, 29, 30, 31, 32, 33, 34, 35, 36, 37, 38, 39, 40, 41] (by decide +kernel) (by decide +kernel)
set_option maxRecDepth 20000 in
theorem gX0_whiteAbove_X0_spaceAbove : GoodIn wsX0_whiteAbove (wsV RX0 103 RX0 yX0_spaceAbove wsX0_spaceAbove) := goodIn_app (goodIn_of _ (by decide +kernel)) ggX0_whiteAbove_X0_spaceAbove
set_option maxRecDepth 20000 in
theorem ggX0_whiteAbove_X1_bareOf : GoodIn wsX0_whiteAbove wsX1_bareOf := goodIn_r _ [18, 19, 20, 21, 22, 23, 24, 25, 26, 17, 27, 36, 37, 38, 39, 40, 41] (by decide +kernel) (by decide +kernel)
set_option maxRecDepth 20000 in
theorem gX0_whiteAbove_X1_bareOf : GoodIn wsX0_whiteAbove (wsV RX0 68 RX1 yX1_bareOf wsX1_bareOf) := goodIn_app (goodIn_of _ (by decide +kernel)) ggX0_whiteAbove_X1_bareOf
theorem dX0_whiteAbove_0 : decode cX0_whiteAbove 0 = .ok (.aload_n 0, 1) := by decide +kernel
theorem dX0_whiteAbove_1 : decode cX0_whiteAbove 1 = .ok (.iload_n 1, 1) := by decide +kernel
theorem dX0_whiteAbove_2 : decode cX0_whiteAbove 2 = .ok (.iconst 1, 1) := by decide +kernel
theorem dX0_whiteAbove_3 : decode cX0_whiteAbove 3 = .ok (.invokevirtual 103, 3) := by decide +kernel
theorem dX0_whiteAbove_6 : decode cX0_whiteAbove 6 = .ok (.aload_n 0, 1) := by decide +kernel
theorem dX0_whiteAbove_7 : decode cX0_whiteAbove 7 = .ok (.iload_n 2, 1) := by decide +kernel
theorem dX0_whiteAbove_8 : decode cX0_whiteAbove 8 = .ok (.iconst 0, 1) := by decide +kernel
theorem dX0_whiteAbove_9 : decode cX0_whiteAbove 9 = .ok (.invokevirtual 103, 3) := by decide +kernel
theorem dX0_whiteAbove_12 : decode cX0_whiteAbove 12 = .ok (.ladd, 1) := by decide +kernel
theorem dX0_whiteAbove_13 : decode cX0_whiteAbove 13 = .ok (.aload_n 0, 1) := by decide +kernel
theorem dX0_whiteAbove_14 : decode cX0_whiteAbove 14 = .ok (.getfield 9, 3) := by decide +kernel
theorem dX0_whiteAbove_17 : decode cX0_whiteAbove 17 = .ok (.iload_n 1, 1) := by decide +kernel
theorem dX0_whiteAbove_18 : decode cX0_whiteAbove 18 = .ok (.iload_n 2, 1) := by decide +kernel
theorem dX0_whiteAbove_19 : decode cX0_whiteAbove 19 = .ok (.invokevirtual 68, 3) := by decide +kernel
theorem dX0_whiteAbove_22 : decode cX0_whiteAbove 22 = .ok (.i2l, 1) := by decide +kernel
theorem dX0_whiteAbove_23 : decode cX0_whiteAbove 23 = .ok (.aload_n 0, 1) := by decide +kernel
theorem dX0_whiteAbove_24 : decode cX0_whiteAbove 24 = .ok (.getfield 28, 3) := by decide +kernel
theorem dX0_whiteAbove_27 : decode cX0_whiteAbove 27 = .ok (.lmul, 1) := by decide +kernel
theorem dX0_whiteAbove_28 : decode cX0_whiteAbove 28 = .ok (.ladd, 1) := by decide +kernel
theorem dX0_whiteAbove_29 : decode cX0_whiteAbove 29 = .ok (.lreturn, 1) := by decide +kernel
theorem dX0_whiteBelow_0 : decode cX0_whiteBelow 0 = .ok (.aload_n 0, 1) := by decide +kernel
theorem dX0_whiteBelow_1 : decode cX0_whiteBelow 1 = .ok (.getfield 28, 3) := by decide +kernel
theorem dX0_whiteBelow_4 : decode cX0_whiteBelow 4 = .ok (.lreturn, 1) := by decide +kernel
set_option maxRecDepth 20000 in
theorem ggX0_leftOverAbove_X0_whiteAbove : GoodIn wsX0_leftOverAbove wsX0_whiteAbove := goodIn_r _ [8, 1, 3, 9, 10, 11, 7, 12, 13, 14, 15, 16, 17, 18, 19, 20, 21, 22, 23, 24, 25, 26, 27, 28, 29, 30, 31, 32, 33, 34, 35, 36, 37, 38, 39, 40, 41, 42, 43, 44, 45, 46] (by decide +kernel) (by decide +kernel)
set_option maxRecDepth 20000 in
theorem gX0_leftOverAbove_X0_whiteAbove : GoodIn wsX0_leftOverAbove (wsV RX0 107 RX0 yX0_whiteAbove wsX0_whiteAbove) := goodIn_app (goodIn_of _ (by decide +kernel)) ggX0_leftOverAbove_X0_whiteAbove
theorem dX0_leftOverAbove_0 : decode cX0_leftOverAbove 0 = .ok (.aload_n 0, 1) := by decide +kernel
theorem dX0_leftOverAbove_1 : decode cX0_leftOverAbove 1 = .ok (.iload_n 1, 1) := by decide +kernel
theorem dX0_leftOverAbove_2 : decode cX0_leftOverAbove 2 = .ok (.iload_n 2, 1) := by decide +kernel
theorem dX0_leftOverAbove_3 : decode cX0_leftOverAbove 3 = .ok (.invokevirtual 107, 3) := by decide +kernel
theorem dX0_leftOverAbove_6 : decode cX0_leftOverAbove 6 = .ok (.aload_n 0, 1) := by decide +kernel
theorem dX0_leftOverAbove_7 : decode cX0_leftOverAbove 7 = .ok (.getfield 9, 3) := by decide +kernel
theorem dX0_leftOverAbove_10 : decode cX0_leftOverAbove 10 = .ok (.getfield 65, 3) := by decide +kernel
theorem dX0_leftOverAbove_13 : decode cX0_leftOverAbove 13 = .ok (.i2l, 1) := by decide +kernel
theorem dX0_leftOverAbove_14 : decode cX0_leftOverAbove 14 = .ok (.aload_n 0, 1) := by decide +kernel
theorem dX0_leftOverAbove_15 : decode cX0_leftOverAbove 15 = .ok (.getfield 28, 3) := by decide +kernel
theorem dX0_leftOverAbove_18 : decode cX0_leftOverAbove 18 = .ok (.lmul, 1) := by decide +kernel
theorem dX0_leftOverAbove_19 : decode cX0_leftOverAbove 19 = .ok (.lsub, 1) := by decide +kernel
theorem dX0_leftOverAbove_20 : decode cX0_leftOverAbove 20 = .ok (.lreturn, 1) := by decide +kernel
set_option maxRecDepth 20000 in
theorem ggX0_squaresAbove_X0_leftOverAbove : GoodIn wsX0_squaresAbove wsX0_leftOverAbove := goodIn_r _ [7, 1, 8, 9, 10, 11, 12, 6, 13, 14, 15, 16, 17, 18, 19, 20, 21, 22, 2, 23, 24, 25, 26, 27, 28, 29, 30, 31, 32, 33, 34, 35, 36, 42, 43, 44, 45, 46, 47, 48, 49, 50, 51, 52, 53, 54, 55] (by decide +kernel) (by decide +kernel)
set_option maxRecDepth 20000 in
theorem gX0_squaresAbove_X0_leftOverAbove : GoodIn wsX0_squaresAbove (wsV RX0 110 RX0 yX0_leftOverAbove wsX0_leftOverAbove) := goodIn_app (goodIn_of _ (by decide +kernel)) ggX0_squaresAbove_X0_leftOverAbove
set_option maxRecDepth 20000 in
theorem ggX0_squaresAbove_X1_weightOf : GoodIn wsX0_squaresAbove wsX1_weightOf := goodIn_r _ [40, 41, 50, 51, 52, 53, 54, 55] (by decide +kernel) (by decide +kernel)
set_option maxRecDepth 20000 in
theorem gX0_squaresAbove_X1_weightOf : GoodIn wsX0_squaresAbove (wsV RX0 61 RX1 yX1_weightOf wsX1_weightOf) := goodIn_app (goodIn_of _ (by decide +kernel)) ggX0_squaresAbove_X1_weightOf
theorem dX0_squaresAbove_0 : decode cX0_squaresAbove 0 = .ok (.lconst 0, 1) := by decide +kernel
theorem dX0_squaresAbove_1 : decode cX0_squaresAbove 1 = .ok (.lstore_n 1, 1) := by decide +kernel
theorem dX0_squaresAbove_2 : decode cX0_squaresAbove 2 = .ok (.iconst 0, 1) := by decide +kernel
theorem dX0_squaresAbove_3 : decode cX0_squaresAbove 3 = .ok (.istore_n 3, 1) := by decide +kernel
theorem dX0_squaresAbove_4 : decode cX0_squaresAbove 4 = .ok (.iload_n 3, 1) := by decide +kernel
theorem dX0_squaresAbove_5 : decode cX0_squaresAbove 5 = .ok (.aload_n 0, 1) := by decide +kernel
theorem dX0_squaresAbove_6 : decode cX0_squaresAbove 6 = .ok (.getfield 9, 3) := by decide +kernel
theorem dX0_squaresAbove_9 : decode cX0_squaresAbove 9 = .ok (.getfield 51, 3) := by decide +kernel
theorem dX0_squaresAbove_12 : decode cX0_squaresAbove 12 = .ok (.if_icmp .ge 59, 3) := by decide +kernel
theorem dX0_squaresAbove_15 : decode cX0_squaresAbove 15 = .ok (.iconst 0, 1) := by decide +kernel
theorem dX0_squaresAbove_16 : decode cX0_squaresAbove 16 = .ok (.istore 4, 2) := by decide +kernel
theorem dX0_squaresAbove_18 : decode cX0_squaresAbove 18 = .ok (.iload 4, 2) := by decide +kernel
theorem dX0_squaresAbove_20 : decode cX0_squaresAbove 20 = .ok (.aload_n 0, 1) := by decide +kernel
theorem dX0_squaresAbove_21 : decode cX0_squaresAbove 21 = .ok (.getfield 9, 3) := by decide +kernel
theorem dX0_squaresAbove_24 : decode cX0_squaresAbove 24 = .ok (.getfield 51, 3) := by decide +kernel
theorem dX0_squaresAbove_27 : decode cX0_squaresAbove 27 = .ok (.if_icmp .ge 38, 3) := by decide +kernel
theorem dX0_squaresAbove_30 : decode cX0_squaresAbove 30 = .ok (.aload_n 0, 1) := by decide +kernel
theorem dX0_squaresAbove_31 : decode cX0_squaresAbove 31 = .ok (.iload_n 3, 1) := by decide +kernel
theorem dX0_squaresAbove_32 : decode cX0_squaresAbove 32 = .ok (.iload 4, 2) := by decide +kernel
theorem dX0_squaresAbove_34 : decode cX0_squaresAbove 34 = .ok (.invokevirtual 110, 3) := by decide +kernel
theorem dX0_squaresAbove_37 : decode cX0_squaresAbove 37 = .ok (.lstore 5, 2) := by decide +kernel
theorem dX0_squaresAbove_39 : decode cX0_squaresAbove 39 = .ok (.lload_n 1, 1) := by decide +kernel
theorem dX0_squaresAbove_40 : decode cX0_squaresAbove 40 = .ok (.aload_n 0, 1) := by decide +kernel
theorem dX0_squaresAbove_41 : decode cX0_squaresAbove 41 = .ok (.getfield 9, 3) := by decide +kernel
theorem dX0_squaresAbove_44 : decode cX0_squaresAbove 44 = .ok (.iload_n 3, 1) := by decide +kernel
theorem dX0_squaresAbove_45 : decode cX0_squaresAbove 45 = .ok (.iload 4, 2) := by decide +kernel
theorem dX0_squaresAbove_47 : decode cX0_squaresAbove 47 = .ok (.invokevirtual 61, 3) := by decide +kernel
theorem dX0_squaresAbove_50 : decode cX0_squaresAbove 50 = .ok (.i2l, 1) := by decide +kernel
theorem dX0_squaresAbove_51 : decode cX0_squaresAbove 51 = .ok (.lload 5, 2) := by decide +kernel
theorem dX0_squaresAbove_53 : decode cX0_squaresAbove 53 = .ok (.lmul, 1) := by decide +kernel
theorem dX0_squaresAbove_54 : decode cX0_squaresAbove 54 = .ok (.lload 5, 2) := by decide +kernel
theorem dX0_squaresAbove_56 : decode cX0_squaresAbove 56 = .ok (.lmul, 1) := by decide +kernel
theorem dX0_squaresAbove_57 : decode cX0_squaresAbove 57 = .ok (.ladd, 1) := by decide +kernel
theorem dX0_squaresAbove_58 : decode cX0_squaresAbove 58 = .ok (.lstore_n 1, 1) := by decide +kernel
theorem dX0_squaresAbove_59 : decode cX0_squaresAbove 59 = .ok (.iinc 4 1, 3) := by decide +kernel
theorem dX0_squaresAbove_62 : decode cX0_squaresAbove 62 = .ok (.goto (-44), 3) := by decide +kernel
theorem dX0_squaresAbove_65 : decode cX0_squaresAbove 65 = .ok (.iinc 3 1, 3) := by decide +kernel
theorem dX0_squaresAbove_68 : decode cX0_squaresAbove 68 = .ok (.goto (-64), 3) := by decide +kernel
theorem dX0_squaresAbove_71 : decode cX0_squaresAbove 71 = .ok (.lload_n 1, 1) := by decide +kernel
theorem dX0_squaresAbove_72 : decode cX0_squaresAbove 72 = .ok (.lreturn, 1) := by decide +kernel
theorem dX0_squaresBelow_0 : decode cX0_squaresBelow 0 = .ok (.aload_n 0, 1) := by decide +kernel
theorem dX0_squaresBelow_1 : decode cX0_squaresBelow 1 = .ok (.getfield 28, 3) := by decide +kernel
theorem dX0_squaresBelow_4 : decode cX0_squaresBelow 4 = .ok (.aload_n 0, 1) := by decide +kernel
theorem dX0_squaresBelow_5 : decode cX0_squaresBelow 5 = .ok (.getfield 28, 3) := by decide +kernel
theorem dX0_squaresBelow_8 : decode cX0_squaresBelow 8 = .ok (.lmul, 1) := by decide +kernel
theorem dX0_squaresBelow_9 : decode cX0_squaresBelow 9 = .ok (.lreturn, 1) := by decide +kernel
set_option maxRecDepth 20000 in
theorem ggX0_worst_X0_leftOverAbove : GoodIn wsX0_worst wsX0_leftOverAbove := goodIn_r _ [12, 2, 13, 14, 15, 16, 17, 11, 18, 19, 20, 21, 22, 23, 24, 25, 26, 27, 3, 28, 29, 30, 31, 32, 33, 34, 35, 36, 6, 37, 38, 39, 40, 46, 47, 48, 49, 50, 51, 52, 53, 54, 55, 56, 57, 58, 59] (by decide +kernel) (by decide +kernel)
set_option maxRecDepth 20000 in
theorem gX0_worst_X0_leftOverAbove : GoodIn wsX0_worst (wsV RX0 110 RX0 yX0_leftOverAbove wsX0_leftOverAbove) := goodIn_app (goodIn_of _ (by decide +kernel)) ggX0_worst_X0_leftOverAbove
set_option maxRecDepth 20000 in
theorem ggX0_worst_X1_weightOf : GoodIn wsX0_worst wsX1_weightOf := goodIn_r _ [44, 45, 54, 55, 56, 57, 58, 59] (by decide +kernel) (by decide +kernel)
set_option maxRecDepth 20000 in
theorem gX0_worst_X1_weightOf : GoodIn wsX0_worst (wsV RX0 61 RX1 yX1_weightOf wsX1_weightOf) := goodIn_app (goodIn_of _ (by decide +kernel)) ggX0_worst_X1_weightOf
theorem dX0_worst_0 : decode cX0_worst 0 = .ok (.iconst (-1), 1) := by decide +kernel
theorem dX0_worst_1 : decode cX0_worst 1 = .ok (.istore_n 1, 1) := by decide +kernel
theorem dX0_worst_2 : decode cX0_worst 2 = .ok (.ldc2_w 101, 3) := by decide +kernel
theorem dX0_worst_5 : decode cX0_worst 5 = .ok (.lstore_n 2, 1) := by decide +kernel
theorem dX0_worst_6 : decode cX0_worst 6 = .ok (.iconst 0, 1) := by decide +kernel
theorem dX0_worst_7 : decode cX0_worst 7 = .ok (.istore 4, 2) := by decide +kernel
theorem dX0_worst_9 : decode cX0_worst 9 = .ok (.iload 4, 2) := by decide +kernel
theorem dX0_worst_11 : decode cX0_worst 11 = .ok (.aload_n 0, 1) := by decide +kernel
theorem dX0_worst_12 : decode cX0_worst 12 = .ok (.getfield 9, 3) := by decide +kernel
theorem dX0_worst_15 : decode cX0_worst 15 = .ok (.getfield 51, 3) := by decide +kernel
theorem dX0_worst_18 : decode cX0_worst 18 = .ok (.if_icmp .ge 76, 3) := by decide +kernel
theorem dX0_worst_21 : decode cX0_worst 21 = .ok (.iconst 0, 1) := by decide +kernel
theorem dX0_worst_22 : decode cX0_worst 22 = .ok (.istore 5, 2) := by decide +kernel
theorem dX0_worst_24 : decode cX0_worst 24 = .ok (.iload 5, 2) := by decide +kernel
theorem dX0_worst_26 : decode cX0_worst 26 = .ok (.aload_n 0, 1) := by decide +kernel
theorem dX0_worst_27 : decode cX0_worst 27 = .ok (.getfield 9, 3) := by decide +kernel
theorem dX0_worst_30 : decode cX0_worst 30 = .ok (.getfield 51, 3) := by decide +kernel
theorem dX0_worst_33 : decode cX0_worst 33 = .ok (.if_icmp .ge 55, 3) := by decide +kernel
theorem dX0_worst_36 : decode cX0_worst 36 = .ok (.aload_n 0, 1) := by decide +kernel
theorem dX0_worst_37 : decode cX0_worst 37 = .ok (.iload 4, 2) := by decide +kernel
theorem dX0_worst_39 : decode cX0_worst 39 = .ok (.iload 5, 2) := by decide +kernel
theorem dX0_worst_41 : decode cX0_worst 41 = .ok (.invokevirtual 110, 3) := by decide +kernel
theorem dX0_worst_44 : decode cX0_worst 44 = .ok (.invokestatic 113, 3) := by decide +kernel
theorem dX0_worst_47 : decode cX0_worst 47 = .ok (.lstore 6, 2) := by decide +kernel
theorem dX0_worst_49 : decode cX0_worst 49 = .ok (.aload_n 0, 1) := by decide +kernel
theorem dX0_worst_50 : decode cX0_worst 50 = .ok (.getfield 9, 3) := by decide +kernel
theorem dX0_worst_53 : decode cX0_worst 53 = .ok (.iload 4, 2) := by decide +kernel
theorem dX0_worst_55 : decode cX0_worst 55 = .ok (.iload 5, 2) := by decide +kernel
theorem dX0_worst_57 : decode cX0_worst 57 = .ok (.invokevirtual 61, 3) := by decide +kernel
theorem dX0_worst_60 : decode cX0_worst 60 = .ok (.ifCond .le 22, 3) := by decide +kernel
theorem dX0_worst_63 : decode cX0_worst 63 = .ok (.lload 6, 2) := by decide +kernel
theorem dX0_worst_65 : decode cX0_worst 65 = .ok (.lload_n 2, 1) := by decide +kernel
theorem dX0_worst_66 : decode cX0_worst 66 = .ok (.lcmp, 1) := by decide +kernel
theorem dX0_worst_67 : decode cX0_worst 67 = .ok (.ifCond .le 15, 3) := by decide +kernel
theorem dX0_worst_70 : decode cX0_worst 70 = .ok (.lload 6, 2) := by decide +kernel
theorem dX0_worst_72 : decode cX0_worst 72 = .ok (.lstore_n 2, 1) := by decide +kernel
theorem dX0_worst_73 : decode cX0_worst 73 = .ok (.bipush 10, 2) := by decide +kernel
theorem dX0_worst_75 : decode cX0_worst 75 = .ok (.iload 4, 2) := by decide +kernel
theorem dX0_worst_77 : decode cX0_worst 77 = .ok (.imul, 1) := by decide +kernel
theorem dX0_worst_78 : decode cX0_worst 78 = .ok (.iload 5, 2) := by decide +kernel
theorem dX0_worst_80 : decode cX0_worst 80 = .ok (.iadd, 1) := by decide +kernel
theorem dX0_worst_81 : decode cX0_worst 81 = .ok (.istore_n 1, 1) := by decide +kernel
theorem dX0_worst_82 : decode cX0_worst 82 = .ok (.iinc 5 1, 3) := by decide +kernel
theorem dX0_worst_85 : decode cX0_worst 85 = .ok (.goto (-61), 3) := by decide +kernel
theorem dX0_worst_88 : decode cX0_worst 88 = .ok (.iinc 4 1, 3) := by decide +kernel
theorem dX0_worst_91 : decode cX0_worst 91 = .ok (.goto (-82), 3) := by decide +kernel
theorem dX0_worst_94 : decode cX0_worst 94 = .ok (.iload_n 1, 1) := by decide +kernel
theorem dX0_worst_95 : decode cX0_worst 95 = .ok (.ireturn, 1) := by decide +kernel
set_option maxRecDepth 20000 in
theorem ggX1_init_X1_startAnew : GoodIn wsX1_init wsX1_startAnew := goodIn_r _ [14, 15, 7, 8, 9, 16, 17, 18, 19, 20, 21] (by decide +kernel) (by decide +kernel)
set_option maxRecDepth 20000 in
theorem gX1_init_X1_startAnew : GoodIn wsX1_init (wsV RX1 28 RX1 yX1_startAnew wsX1_startAnew) := goodIn_app (goodIn_of _ (by decide +kernel)) ggX1_init_X1_startAnew
theorem dX1_init_0 : decode cX1_init 0 = .ok (.aload_n 0, 1) := by decide +kernel
theorem dX1_init_1 : decode cX1_init 1 = .ok (.invokespecial 3, 3) := by decide +kernel
theorem dX1_init_4 : decode cX1_init 4 = .ok (.aload_n 0, 1) := by decide +kernel
theorem dX1_init_5 : decode cX1_init 5 = .ok (.bipush 20, 2) := by decide +kernel
theorem dX1_init_7 : decode cX1_init 7 = .ok (.putfield 9, 3) := by decide +kernel
theorem dX1_init_10 : decode cX1_init 10 = .ok (.aload_n 0, 1) := by decide +kernel
theorem dX1_init_11 : decode cX1_init 11 = .ok (.bipush 100, 2) := by decide +kernel
theorem dX1_init_13 : decode cX1_init 13 = .ok (.putfield 15, 3) := by decide +kernel
theorem dX1_init_16 : decode cX1_init 16 = .ok (.aload_n 0, 1) := by decide +kernel
theorem dX1_init_17 : decode cX1_init 17 = .ok (.iconst 3, 1) := by decide +kernel
theorem dX1_init_18 : decode cX1_init 18 = .ok (.newarray .int, 2) := by decide +kernel
theorem dX1_init_20 : decode cX1_init 20 = .ok (.putfield 18, 3) := by decide +kernel
theorem dX1_init_23 : decode cX1_init 23 = .ok (.aload_n 0, 1) := by decide +kernel
theorem dX1_init_24 : decode cX1_init 24 = .ok (.bipush 48, 2) := by decide +kernel
theorem dX1_init_26 : decode cX1_init 26 = .ok (.newarray .int, 2) := by decide +kernel
theorem dX1_init_28 : decode cX1_init 28 = .ok (.putfield 22, 3) := by decide +kernel
theorem dX1_init_31 : decode cX1_init 31 = .ok (.aload_n 0, 1) := by decide +kernel
theorem dX1_init_32 : decode cX1_init 32 = .ok (.bipush 9, 2) := by decide +kernel
theorem dX1_init_34 : decode cX1_init 34 = .ok (.newarray .int, 2) := by decide +kernel
theorem dX1_init_36 : decode cX1_init 36 = .ok (.putfield 25, 3) := by decide +kernel
theorem dX1_init_39 : decode cX1_init 39 = .ok (.aload_n 0, 1) := by decide +kernel
theorem dX1_init_40 : decode cX1_init 40 = .ok (.iconst 2, 1) := by decide +kernel
theorem dX1_init_41 : decode cX1_init 41 = .ok (.invokevirtual 28, 3) := by decide +kernel
theorem dX1_init_44 : decode cX1_init 44 = .ok (.return_, 1) := by decide +kernel
theorem dX1_startAnew_0 : decode cX1_startAnew 0 = .ok (.aload_n 0, 1) := by decide +kernel
theorem dX1_startAnew_1 : decode cX1_startAnew 1 = .ok (.iload_n 1, 1) := by decide +kernel
theorem dX1_startAnew_2 : decode cX1_startAnew 2 = .ok (.putfield 32, 3) := by decide +kernel
theorem dX1_startAnew_5 : decode cX1_startAnew 5 = .ok (.iconst 0, 1) := by decide +kernel
theorem dX1_startAnew_6 : decode cX1_startAnew 6 = .ok (.istore_n 2, 1) := by decide +kernel
theorem dX1_startAnew_7 : decode cX1_startAnew 7 = .ok (.iload_n 2, 1) := by decide +kernel
theorem dX1_startAnew_8 : decode cX1_startAnew 8 = .ok (.aload_n 0, 1) := by decide +kernel
theorem dX1_startAnew_9 : decode cX1_startAnew 9 = .ok (.getfield 18, 3) := by decide +kernel
theorem dX1_startAnew_12 : decode cX1_startAnew 12 = .ok (.arraylength, 1) := by decide +kernel
theorem dX1_startAnew_13 : decode cX1_startAnew 13 = .ok (.if_icmp .ge 17, 3) := by decide +kernel
theorem dX1_startAnew_16 : decode cX1_startAnew 16 = .ok (.aload_n 0, 1) := by decide +kernel
theorem dX1_startAnew_17 : decode cX1_startAnew 17 = .ok (.getfield 18, 3) := by decide +kernel
theorem dX1_startAnew_20 : decode cX1_startAnew 20 = .ok (.iload_n 2, 1) := by decide +kernel
theorem dX1_startAnew_21 : decode cX1_startAnew 21 = .ok (.bipush 10, 2) := by decide +kernel
theorem dX1_startAnew_23 : decode cX1_startAnew 23 = .ok (.iastore, 1) := by decide +kernel
theorem dX1_startAnew_24 : decode cX1_startAnew 24 = .ok (.iinc 2 1, 3) := by decide +kernel
theorem dX1_startAnew_27 : decode cX1_startAnew 27 = .ok (.goto (-20), 3) := by decide +kernel
theorem dX1_startAnew_30 : decode cX1_startAnew 30 = .ok (.iconst 0, 1) := by decide +kernel
theorem dX1_startAnew_31 : decode cX1_startAnew 31 = .ok (.istore_n 2, 1) := by decide +kernel
theorem dX1_startAnew_32 : decode cX1_startAnew 32 = .ok (.iload_n 2, 1) := by decide +kernel
theorem dX1_startAnew_33 : decode cX1_startAnew 33 = .ok (.aload_n 0, 1) := by decide +kernel
theorem dX1_startAnew_34 : decode cX1_startAnew 34 = .ok (.getfield 22, 3) := by decide +kernel
theorem dX1_startAnew_37 : decode cX1_startAnew 37 = .ok (.arraylength, 1) := by decide +kernel
theorem dX1_startAnew_38 : decode cX1_startAnew 38 = .ok (.if_icmp .ge 16, 3) := by decide +kernel
theorem dX1_startAnew_41 : decode cX1_startAnew 41 = .ok (.aload_n 0, 1) := by decide +kernel
theorem dX1_startAnew_42 : decode cX1_startAnew 42 = .ok (.getfield 22, 3) := by decide +kernel
theorem dX1_startAnew_45 : decode cX1_startAnew 45 = .ok (.iload_n 2, 1) := by decide +kernel
theorem dX1_startAnew_46 : decode cX1_startAnew 46 = .ok (.iconst 0, 1) := by decide +kernel
theorem dX1_startAnew_47 : decode cX1_startAnew 47 = .ok (.iastore, 1) := by decide +kernel
theorem dX1_startAnew_48 : decode cX1_startAnew 48 = .ok (.iinc 2 1, 3) := by decide +kernel
theorem dX1_startAnew_51 : decode cX1_startAnew 51 = .ok (.goto (-19), 3) := by decide +kernel
theorem dX1_startAnew_54 : decode cX1_startAnew 54 = .ok (.iconst 0, 1) := by decide +kernel
theorem dX1_startAnew_55 : decode cX1_startAnew 55 = .ok (.istore_n 2, 1) := by decide +kernel
theorem dX1_startAnew_56 : decode cX1_startAnew 56 = .ok (.iload_n 2, 1) := by decide +kernel
theorem dX1_startAnew_57 : decode cX1_startAnew 57 = .ok (.aload_n 0, 1) := by decide +kernel
theorem dX1_startAnew_58 : decode cX1_startAnew 58 = .ok (.getfield 25, 3) := by decide +kernel
theorem dX1_startAnew_61 : decode cX1_startAnew 61 = .ok (.arraylength, 1) := by decide +kernel
theorem dX1_startAnew_62 : decode cX1_startAnew 62 = .ok (.if_icmp .ge 16, 3) := by decide +kernel
theorem dX1_startAnew_65 : decode cX1_startAnew 65 = .ok (.aload_n 0, 1) := by decide +kernel
theorem dX1_startAnew_66 : decode cX1_startAnew 66 = .ok (.getfield 25, 3) := by decide +kernel
theorem dX1_startAnew_69 : decode cX1_startAnew 69 = .ok (.iload_n 2, 1) := by decide +kernel
theorem dX1_startAnew_70 : decode cX1_startAnew 70 = .ok (.iconst 0, 1) := by decide +kernel
theorem dX1_startAnew_71 : decode cX1_startAnew 71 = .ok (.iastore, 1) := by decide +kernel
theorem dX1_startAnew_72 : decode cX1_startAnew 72 = .ok (.iinc 2 1, 3) := by decide +kernel
theorem dX1_startAnew_75 : decode cX1_startAnew 75 = .ok (.goto (-19), 3) := by decide +kernel
theorem dX1_startAnew_78 : decode cX1_startAnew 78 = .ok (.return_, 1) := by decide +kernel
theorem dX1_takeAll_0 : decode cX1_takeAll 0 = .ok (.aload_n 0, 1) := by decide +kernel
theorem dX1_takeAll_1 : decode cX1_takeAll 1 = .ok (.aload_n 1, 1) := by decide +kernel
theorem dX1_takeAll_2 : decode cX1_takeAll 2 = .ok (.getfield 32, 3) := by decide +kernel
theorem dX1_takeAll_5 : decode cX1_takeAll 5 = .ok (.putfield 32, 3) := by decide +kernel
theorem dX1_takeAll_8 : decode cX1_takeAll 8 = .ok (.aload_n 0, 1) := by decide +kernel
theorem dX1_takeAll_9 : decode cX1_takeAll 9 = .ok (.aload_n 1, 1) := by decide +kernel
theorem dX1_takeAll_10 : decode cX1_takeAll 10 = .ok (.getfield 9, 3) := by decide +kernel
theorem dX1_takeAll_13 : decode cX1_takeAll 13 = .ok (.putfield 9, 3) := by decide +kernel
theorem dX1_takeAll_16 : decode cX1_takeAll 16 = .ok (.aload_n 0, 1) := by decide +kernel
theorem dX1_takeAll_17 : decode cX1_takeAll 17 = .ok (.aload_n 1, 1) := by decide +kernel
theorem dX1_takeAll_18 : decode cX1_takeAll 18 = .ok (.getfield 15, 3) := by decide +kernel
theorem dX1_takeAll_21 : decode cX1_takeAll 21 = .ok (.putfield 15, 3) := by decide +kernel
theorem dX1_takeAll_24 : decode cX1_takeAll 24 = .ok (.aload_n 1, 1) := by decide +kernel
theorem dX1_takeAll_25 : decode cX1_takeAll 25 = .ok (.getfield 18, 3) := by decide +kernel
theorem dX1_takeAll_28 : decode cX1_takeAll 28 = .ok (.iconst 0, 1) := by decide +kernel
theorem dX1_takeAll_29 : decode cX1_takeAll 29 = .ok (.aload_n 0, 1) := by decide +kernel
theorem dX1_takeAll_30 : decode cX1_takeAll 30 = .ok (.getfield 18, 3) := by decide +kernel
theorem dX1_takeAll_33 : decode cX1_takeAll 33 = .ok (.iconst 0, 1) := by decide +kernel
theorem dX1_takeAll_34 : decode cX1_takeAll 34 = .ok (.aload_n 0, 1) := by decide +kernel
theorem dX1_takeAll_35 : decode cX1_takeAll 35 = .ok (.getfield 18, 3) := by decide +kernel
theorem dX1_takeAll_38 : decode cX1_takeAll 38 = .ok (.arraylength, 1) := by decide +kernel
theorem dX1_takeAll_39 : decode cX1_takeAll 39 = .ok (.invokestatic 35, 3) := by decide +kernel
theorem dX1_takeAll_42 : decode cX1_takeAll 42 = .ok (.aload_n 1, 1) := by decide +kernel
theorem dX1_takeAll_43 : decode cX1_takeAll 43 = .ok (.getfield 22, 3) := by decide +kernel
theorem dX1_takeAll_46 : decode cX1_takeAll 46 = .ok (.iconst 0, 1) := by decide +kernel
theorem dX1_takeAll_47 : decode cX1_takeAll 47 = .ok (.aload_n 0, 1) := by decide +kernel
theorem dX1_takeAll_48 : decode cX1_takeAll 48 = .ok (.getfield 22, 3) := by decide +kernel
theorem dX1_takeAll_51 : decode cX1_takeAll 51 = .ok (.iconst 0, 1) := by decide +kernel
theorem dX1_takeAll_52 : decode cX1_takeAll 52 = .ok (.aload_n 0, 1) := by decide +kernel
theorem dX1_takeAll_53 : decode cX1_takeAll 53 = .ok (.getfield 22, 3) := by decide +kernel
theorem dX1_takeAll_56 : decode cX1_takeAll 56 = .ok (.arraylength, 1) := by decide +kernel
theorem dX1_takeAll_57 : decode cX1_takeAll 57 = .ok (.invokestatic 35, 3) := by decide +kernel
theorem dX1_takeAll_60 : decode cX1_takeAll 60 = .ok (.aload_n 1, 1) := by decide +kernel
theorem dX1_takeAll_61 : decode cX1_takeAll 61 = .ok (.getfield 25, 3) := by decide +kernel
theorem dX1_takeAll_64 : decode cX1_takeAll 64 = .ok (.iconst 0, 1) := by decide +kernel
theorem dX1_takeAll_65 : decode cX1_takeAll 65 = .ok (.aload_n 0, 1) := by decide +kernel
theorem dX1_takeAll_66 : decode cX1_takeAll 66 = .ok (.getfield 25, 3) := by decide +kernel
theorem dX1_takeAll_69 : decode cX1_takeAll 69 = .ok (.iconst 0, 1) := by decide +kernel
theorem dX1_takeAll_70 : decode cX1_takeAll 70 = .ok (.aload_n 0, 1) := by decide +kernel
theorem dX1_takeAll_71 : decode cX1_takeAll 71 = .ok (.getfield 25, 3) := by decide +kernel
theorem dX1_takeAll_74 : decode cX1_takeAll 74 = .ok (.arraylength, 1) := by decide +kernel
theorem dX1_takeAll_75 : decode cX1_takeAll 75 = .ok (.invokestatic 35, 3) := by decide +kernel
theorem dX1_takeAll_78 : decode cX1_takeAll 78 = .ok (.return_, 1) := by decide +kernel
set_option maxRecDepth 20000 in
theorem ggX1_hasLetter_X5_within : GoodIn wsX1_hasLetter wsX5_within := goodIn_r _ [4] (by decide +kernel) (by decide +kernel)
set_option maxRecDepth 20000 in
theorem gX1_hasLetter_X5_within_n41 : GoodIn wsX1_hasLetter (wsX5_within) := ggX1_hasLetter_X5_within
theorem dX1_hasLetter_0 : decode cX1_hasLetter 0 = .ok (.iload_n 1, 1) := by decide +kernel
theorem dX1_hasLetter_1 : decode cX1_hasLetter 1 = .ok (.iconst 0, 1) := by decide +kernel
theorem dX1_hasLetter_2 : decode cX1_hasLetter 2 = .ok (.aload_n 0, 1) := by decide +kernel
theorem dX1_hasLetter_3 : decode cX1_hasLetter 3 = .ok (.getfield 32, 3) := by decide +kernel
theorem dX1_hasLetter_6 : decode cX1_hasLetter 6 = .ok (.iconst 1, 1) := by decide +kernel
theorem dX1_hasLetter_7 : decode cX1_hasLetter 7 = .ok (.isub, 1) := by decide +kernel
theorem dX1_hasLetter_8 : decode cX1_hasLetter 8 = .ok (.invokestatic 41, 3) := by decide +kernel
theorem dX1_hasLetter_11 : decode cX1_hasLetter 11 = .ok (.ireturn, 1) := by decide +kernel
set_option maxRecDepth 20000 in
theorem ggX1_hasPair_X1_hasLetter : GoodIn wsX1_hasPair wsX1_hasLetter := goodIn_r _ [5, 6, 7, 8, 9, 10, 11, 12, 13, 14, 15] (by decide +kernel) (by decide +kernel)
set_option maxRecDepth 20000 in
theorem gX1_hasPair_X1_hasLetter : GoodIn wsX1_hasPair (wsV RX1 45 RX1 yX1_hasLetter wsX1_hasLetter) := goodIn_app (goodIn_of _ (by decide +kernel)) ggX1_hasPair_X1_hasLetter
theorem dX1_hasPair_0 : decode cX1_hasPair 0 = .ok (.aload_n 0, 1) := by decide +kernel
theorem dX1_hasPair_1 : decode cX1_hasPair 1 = .ok (.iload_n 1, 1) := by decide +kernel
theorem dX1_hasPair_2 : decode cX1_hasPair 2 = .ok (.invokevirtual 45, 3) := by decide +kernel
theorem dX1_hasPair_5 : decode cX1_hasPair 5 = .ok (.ifCond .eq 15, 3) := by decide +kernel
theorem dX1_hasPair_8 : decode cX1_hasPair 8 = .ok (.aload_n 0, 1) := by decide +kernel
theorem dX1_hasPair_9 : decode cX1_hasPair 9 = .ok (.iload_n 2, 1) := by decide +kernel
theorem dX1_hasPair_10 : decode cX1_hasPair 10 = .ok (.invokevirtual 45, 3) := by decide +kernel
theorem dX1_hasPair_13 : decode cX1_hasPair 13 = .ok (.ifCond .eq 7, 3) := by decide +kernel
theorem dX1_hasPair_16 : decode cX1_hasPair 16 = .ok (.iconst 1, 1) := by decide +kernel
theorem dX1_hasPair_17 : decode cX1_hasPair 17 = .ok (.goto 4, 3) := by decide +kernel
theorem dX1_hasPair_20 : decode cX1_hasPair 20 = .ok (.iconst 0, 1) := by decide +kernel
theorem dX1_hasPair_21 : decode cX1_hasPair 21 = .ok (.ireturn, 1) := by decide +kernel
theorem dX1_placeOfBack_0 : decode cX1_placeOfBack 0 = .ok (.iload_n 0, 1) := by decide +kernel
theorem dX1_placeOfBack_1 : decode cX1_placeOfBack 1 = .ok (.iconst 2, 1) := by decide +kernel
theorem dX1_placeOfBack_2 : decode cX1_placeOfBack 2 = .ok (.imul, 1) := by decide +kernel
theorem dX1_placeOfBack_3 : decode cX1_placeOfBack 3 = .ok (.iload_n 1, 1) := by decide +kernel
theorem dX1_placeOfBack_4 : decode cX1_placeOfBack 4 = .ok (.iadd, 1) := by decide +kernel
theorem dX1_placeOfBack_5 : decode cX1_placeOfBack 5 = .ok (.bipush 8, 2) := by decide +kernel
theorem dX1_placeOfBack_7 : decode cX1_placeOfBack 7 = .ok (.imul, 1) := by decide +kernel
theorem dX1_placeOfBack_8 : decode cX1_placeOfBack 8 = .ok (.iload_n 2, 1) := by decide +kernel
theorem dX1_placeOfBack_9 : decode cX1_placeOfBack 9 = .ok (.iadd, 1) := by decide +kernel
theorem dX1_placeOfBack_10 : decode cX1_placeOfBack 10 = .ok (.ireturn, 1) := by decide +kernel
set_option maxRecDepth 20000 in
theorem ggX1_backOf_X1_placeOfBack : GoodIn wsX1_backOf wsX1_placeOfBack := goodIn_r _ [5] (by decide +kernel) (by decide +kernel)
set_option maxRecDepth 20000 in
theorem gX1_backOf_X1_placeOfBack : GoodIn wsX1_backOf (va_wsS RX1 49 yX1_placeOfBack wsX1_placeOfBack) := goodIn_app (goodIn_of _ (by decide +kernel)) ggX1_backOf_X1_placeOfBack
theorem dX1_backOf_0 : decode cX1_backOf 0 = .ok (.aload_n 0, 1) := by decide +kernel
theorem dX1_backOf_1 : decode cX1_backOf 1 = .ok (.getfield 22, 3) := by decide +kernel
theorem dX1_backOf_4 : decode cX1_backOf 4 = .ok (.iload_n 1, 1) := by decide +kernel
theorem dX1_backOf_5 : decode cX1_backOf 5 = .ok (.iload_n 2, 1) := by decide +kernel
theorem dX1_backOf_6 : decode cX1_backOf 6 = .ok (.iload_n 3, 1) := by decide +kernel
theorem dX1_backOf_7 : decode cX1_backOf 7 = .ok (.invokestatic 49, 3) := by decide +kernel
theorem dX1_backOf_10 : decode cX1_backOf 10 = .ok (.iaload, 1) := by decide +kernel
theorem dX1_backOf_11 : decode cX1_backOf 11 = .ok (.ireturn, 1) := by decide +kernel
set_option maxRecDepth 20000 in
theorem ggX1_putBack_X1_placeOfBack : GoodIn wsX1_putBack wsX1_placeOfBack := goodIn_r _ [5] (by decide +kernel) (by decide +kernel)
set_option maxRecDepth 20000 in
theorem gX1_putBack_X1_placeOfBack : GoodIn wsX1_putBack (va_wsS RX1 49 yX1_placeOfBack wsX1_placeOfBack) := goodIn_app (goodIn_of _ (by decide +kernel)) ggX1_putBack_X1_placeOfBack
theorem dX1_putBack_0 : decode cX1_putBack 0 = .ok (.aload_n 0, 1) := by decide +kernel
theorem dX1_putBack_1 : decode cX1_putBack 1 = .ok (.getfield 22, 3) := by decide +kernel
theorem dX1_putBack_4 : decode cX1_putBack 4 = .ok (.iload_n 1, 1) := by decide +kernel
theorem dX1_putBack_5 : decode cX1_putBack 5 = .ok (.iload_n 2, 1) := by decide +kernel
theorem dX1_putBack_6 : decode cX1_putBack 6 = .ok (.iload_n 3, 1) := by decide +kernel
theorem dX1_putBack_7 : decode cX1_putBack 7 = .ok (.invokestatic 49, 3) := by decide +kernel
theorem dX1_putBack_10 : decode cX1_putBack 10 = .ok (.iload 4, 2) := by decide +kernel
theorem dX1_putBack_12 : decode cX1_putBack 12 = .ok (.iastore, 1) := by decide +kernel
theorem dX1_putBack_13 : decode cX1_putBack 13 = .ok (.return_, 1) := by decide +kernel
theorem dX1_weightOf_0 : decode cX1_weightOf 0 = .ok (.aload_n 0, 1) := by decide +kernel
theorem dX1_weightOf_1 : decode cX1_weightOf 1 = .ok (.getfield 25, 3) := by decide +kernel
theorem dX1_weightOf_4 : decode cX1_weightOf 4 = .ok (.iload_n 1, 1) := by decide +kernel
theorem dX1_weightOf_5 : decode cX1_weightOf 5 = .ok (.iconst 3, 1) := by decide +kernel
theorem dX1_weightOf_6 : decode cX1_weightOf 6 = .ok (.imul, 1) := by decide +kernel
theorem dX1_weightOf_7 : decode cX1_weightOf 7 = .ok (.iload_n 2, 1) := by decide +kernel
theorem dX1_weightOf_8 : decode cX1_weightOf 8 = .ok (.iadd, 1) := by decide +kernel
theorem dX1_weightOf_9 : decode cX1_weightOf 9 = .ok (.iaload, 1) := by decide +kernel
theorem dX1_weightOf_10 : decode cX1_weightOf 10 = .ok (.ireturn, 1) := by decide +kernel
theorem dX1_putWeight_0 : decode cX1_putWeight 0 = .ok (.aload_n 0, 1) := by decide +kernel
theorem dX1_putWeight_1 : decode cX1_putWeight 1 = .ok (.getfield 25, 3) := by decide +kernel
theorem dX1_putWeight_4 : decode cX1_putWeight 4 = .ok (.iload_n 1, 1) := by decide +kernel
theorem dX1_putWeight_5 : decode cX1_putWeight 5 = .ok (.iconst 3, 1) := by decide +kernel
theorem dX1_putWeight_6 : decode cX1_putWeight 6 = .ok (.imul, 1) := by decide +kernel
theorem dX1_putWeight_7 : decode cX1_putWeight 7 = .ok (.iload_n 2, 1) := by decide +kernel
theorem dX1_putWeight_8 : decode cX1_putWeight 8 = .ok (.iadd, 1) := by decide +kernel
theorem dX1_putWeight_9 : decode cX1_putWeight 9 = .ok (.iload_n 3, 1) := by decide +kernel
theorem dX1_putWeight_10 : decode cX1_putWeight 10 = .ok (.iastore, 1) := by decide +kernel
theorem dX1_putWeight_11 : decode cX1_putWeight 11 = .ok (.return_, 1) := by decide +kernel
theorem dX1_pairsWithWeight_0 : decode cX1_pairsWithWeight 0 = .ok (.iconst 0, 1) := by decide +kernel
theorem dX1_pairsWithWeight_1 : decode cX1_pairsWithWeight 1 = .ok (.istore_n 1, 1) := by decide +kernel
theorem dX1_pairsWithWeight_2 : decode cX1_pairsWithWeight 2 = .ok (.iconst 0, 1) := by decide +kernel
theorem dX1_pairsWithWeight_3 : decode cX1_pairsWithWeight 3 = .ok (.istore_n 2, 1) := by decide +kernel
theorem dX1_pairsWithWeight_4 : decode cX1_pairsWithWeight 4 = .ok (.iload_n 2, 1) := by decide +kernel
theorem dX1_pairsWithWeight_5 : decode cX1_pairsWithWeight 5 = .ok (.aload_n 0, 1) := by decide +kernel
theorem dX1_pairsWithWeight_6 : decode cX1_pairsWithWeight 6 = .ok (.getfield 25, 3) := by decide +kernel
theorem dX1_pairsWithWeight_9 : decode cX1_pairsWithWeight 9 = .ok (.arraylength, 1) := by decide +kernel
theorem dX1_pairsWithWeight_10 : decode cX1_pairsWithWeight 10 = .ok (.if_icmp .ge 26, 3) := by decide +kernel
theorem dX1_pairsWithWeight_13 : decode cX1_pairsWithWeight 13 = .ok (.iload_n 1, 1) := by decide +kernel
theorem dX1_pairsWithWeight_14 : decode cX1_pairsWithWeight 14 = .ok (.aload_n 0, 1) := by decide +kernel
theorem dX1_pairsWithWeight_15 : decode cX1_pairsWithWeight 15 = .ok (.getfield 25, 3) := by decide +kernel
theorem dX1_pairsWithWeight_18 : decode cX1_pairsWithWeight 18 = .ok (.iload_n 2, 1) := by decide +kernel
theorem dX1_pairsWithWeight_19 : decode cX1_pairsWithWeight 19 = .ok (.iaload, 1) := by decide +kernel
theorem dX1_pairsWithWeight_20 : decode cX1_pairsWithWeight 20 = .ok (.ifCond .le 7, 3) := by decide +kernel
theorem dX1_pairsWithWeight_23 : decode cX1_pairsWithWeight 23 = .ok (.iconst 1, 1) := by decide +kernel
theorem dX1_pairsWithWeight_24 : decode cX1_pairsWithWeight 24 = .ok (.goto 4, 3) := by decide +kernel
theorem dX1_pairsWithWeight_27 : decode cX1_pairsWithWeight 27 = .ok (.iconst 0, 1) := by decide +kernel
theorem dX1_pairsWithWeight_28 : decode cX1_pairsWithWeight 28 = .ok (.iadd, 1) := by decide +kernel
theorem dX1_pairsWithWeight_29 : decode cX1_pairsWithWeight 29 = .ok (.istore_n 1, 1) := by decide +kernel
theorem dX1_pairsWithWeight_30 : decode cX1_pairsWithWeight 30 = .ok (.iinc 2 1, 3) := by decide +kernel
theorem dX1_pairsWithWeight_33 : decode cX1_pairsWithWeight 33 = .ok (.goto (-29), 3) := by decide +kernel
theorem dX1_pairsWithWeight_36 : decode cX1_pairsWithWeight 36 = .ok (.iload_n 1, 1) := by decide +kernel
theorem dX1_pairsWithWeight_37 : decode cX1_pairsWithWeight 37 = .ok (.ireturn, 1) := by decide +kernel
set_option maxRecDepth 20000 in
theorem ggX1_sumOfSide_X1_backOf : GoodIn wsX1_sumOfSide wsX1_backOf := goodIn_r _ [5, 6, 7, 8, 4, 9, 10, 11, 12, 13, 14, 15] (by decide +kernel) (by decide +kernel)
set_option maxRecDepth 20000 in
theorem gX1_sumOfSide_X1_backOf : GoodIn wsX1_sumOfSide (wsV RX1 53 RX1 yX1_backOf wsX1_backOf) := goodIn_app (goodIn_of _ (by decide +kernel)) ggX1_sumOfSide_X1_backOf
theorem dX1_sumOfSide_0 : decode cX1_sumOfSide 0 = .ok (.iconst 0, 1) := by decide +kernel
theorem dX1_sumOfSide_1 : decode cX1_sumOfSide 1 = .ok (.istore_n 3, 1) := by decide +kernel
theorem dX1_sumOfSide_2 : decode cX1_sumOfSide 2 = .ok (.iconst 0, 1) := by decide +kernel
theorem dX1_sumOfSide_3 : decode cX1_sumOfSide 3 = .ok (.istore 4, 2) := by decide +kernel
theorem dX1_sumOfSide_5 : decode cX1_sumOfSide 5 = .ok (.iload 4, 2) := by decide +kernel
theorem dX1_sumOfSide_7 : decode cX1_sumOfSide 7 = .ok (.bipush 8, 2) := by decide +kernel
theorem dX1_sumOfSide_9 : decode cX1_sumOfSide 9 = .ok (.if_icmp .ge 20, 3) := by decide +kernel
theorem dX1_sumOfSide_12 : decode cX1_sumOfSide 12 = .ok (.iload_n 3, 1) := by decide +kernel
theorem dX1_sumOfSide_13 : decode cX1_sumOfSide 13 = .ok (.aload_n 0, 1) := by decide +kernel
theorem dX1_sumOfSide_14 : decode cX1_sumOfSide 14 = .ok (.iload_n 1, 1) := by decide +kernel
theorem dX1_sumOfSide_15 : decode cX1_sumOfSide 15 = .ok (.iload_n 2, 1) := by decide +kernel
theorem dX1_sumOfSide_16 : decode cX1_sumOfSide 16 = .ok (.iload 4, 2) := by decide +kernel
theorem dX1_sumOfSide_18 : decode cX1_sumOfSide 18 = .ok (.invokevirtual 53, 3) := by decide +kernel
theorem dX1_sumOfSide_21 : decode cX1_sumOfSide 21 = .ok (.iadd, 1) := by decide +kernel
theorem dX1_sumOfSide_22 : decode cX1_sumOfSide 22 = .ok (.istore_n 3, 1) := by decide +kernel
theorem dX1_sumOfSide_23 : decode cX1_sumOfSide 23 = .ok (.iinc 4 1, 3) := by decide +kernel
theorem dX1_sumOfSide_26 : decode cX1_sumOfSide 26 = .ok (.goto (-21), 3) := by decide +kernel
theorem dX1_sumOfSide_29 : decode cX1_sumOfSide 29 = .ok (.iload_n 3, 1) := by decide +kernel
theorem dX1_sumOfSide_30 : decode cX1_sumOfSide 30 = .ok (.ireturn, 1) := by decide +kernel
set_option maxRecDepth 20000 in
theorem ggX1_bareOf_X1_placeOfBack : GoodIn wsX1_bareOf wsX1_placeOfBack := goodIn_r _ [10] (by decide +kernel) (by decide +kernel)
set_option maxRecDepth 20000 in
theorem gX1_bareOf_X1_placeOfBack : GoodIn wsX1_bareOf (va_wsS RX1 49 yX1_placeOfBack wsX1_placeOfBack) := goodIn_app (goodIn_of _ (by decide +kernel)) ggX1_bareOf_X1_placeOfBack
theorem dX1_bareOf_0 : decode cX1_bareOf 0 = .ok (.iload_n 1, 1) := by decide +kernel
theorem dX1_bareOf_1 : decode cX1_bareOf 1 = .ok (.iconst 1, 1) := by decide +kernel
theorem dX1_bareOf_2 : decode cX1_bareOf 2 = .ok (.iconst 0, 1) := by decide +kernel
theorem dX1_bareOf_3 : decode cX1_bareOf 3 = .ok (.invokestatic 49, 3) := by decide +kernel
theorem dX1_bareOf_6 : decode cX1_bareOf 6 = .ok (.istore_n 3, 1) := by decide +kernel
theorem dX1_bareOf_7 : decode cX1_bareOf 7 = .ok (.iload_n 2, 1) := by decide +kernel
theorem dX1_bareOf_8 : decode cX1_bareOf 8 = .ok (.iconst 0, 1) := by decide +kernel
theorem dX1_bareOf_9 : decode cX1_bareOf 9 = .ok (.iconst 0, 1) := by decide +kernel
theorem dX1_bareOf_10 : decode cX1_bareOf 10 = .ok (.invokestatic 49, 3) := by decide +kernel
theorem dX1_bareOf_13 : decode cX1_bareOf 13 = .ok (.istore 4, 2) := by decide +kernel
theorem dX1_bareOf_15 : decode cX1_bareOf 15 = .ok (.iconst 0, 1) := by decide +kernel
theorem dX1_bareOf_16 : decode cX1_bareOf 16 = .ok (.istore 5, 2) := by decide +kernel
theorem dX1_bareOf_18 : decode cX1_bareOf 18 = .ok (.iconst 0, 1) := by decide +kernel
theorem dX1_bareOf_19 : decode cX1_bareOf 19 = .ok (.istore 6, 2) := by decide +kernel
theorem dX1_bareOf_21 : decode cX1_bareOf 21 = .ok (.iload 6, 2) := by decide +kernel
theorem dX1_bareOf_23 : decode cX1_bareOf 23 = .ok (.bipush 8, 2) := by decide +kernel
theorem dX1_bareOf_25 : decode cX1_bareOf 25 = .ok (.if_icmp .ge 41, 3) := by decide +kernel
theorem dX1_bareOf_28 : decode cX1_bareOf 28 = .ok (.iload 5, 2) := by decide +kernel
theorem dX1_bareOf_30 : decode cX1_bareOf 30 = .ok (.aload_n 0, 1) := by decide +kernel
theorem dX1_bareOf_31 : decode cX1_bareOf 31 = .ok (.getfield 9, 3) := by decide +kernel
theorem dX1_bareOf_34 : decode cX1_bareOf 34 = .ok (.aload_n 0, 1) := by decide +kernel
theorem dX1_bareOf_35 : decode cX1_bareOf 35 = .ok (.getfield 22, 3) := by decide +kernel
theorem dX1_bareOf_38 : decode cX1_bareOf 38 = .ok (.iload_n 3, 1) := by decide +kernel
theorem dX1_bareOf_39 : decode cX1_bareOf 39 = .ok (.iload 6, 2) := by decide +kernel
theorem dX1_bareOf_41 : decode cX1_bareOf 41 = .ok (.iadd, 1) := by decide +kernel
theorem dX1_bareOf_42 : decode cX1_bareOf 42 = .ok (.iaload, 1) := by decide +kernel
theorem dX1_bareOf_43 : decode cX1_bareOf 43 = .ok (.aload_n 0, 1) := by decide +kernel
theorem dX1_bareOf_44 : decode cX1_bareOf 44 = .ok (.getfield 22, 3) := by decide +kernel
theorem dX1_bareOf_47 : decode cX1_bareOf 47 = .ok (.iload 4, 2) := by decide +kernel
theorem dX1_bareOf_49 : decode cX1_bareOf 49 = .ok (.iload 6, 2) := by decide +kernel
theorem dX1_bareOf_51 : decode cX1_bareOf 51 = .ok (.iadd, 1) := by decide +kernel
theorem dX1_bareOf_52 : decode cX1_bareOf 52 = .ok (.iaload, 1) := by decide +kernel
theorem dX1_bareOf_53 : decode cX1_bareOf 53 = .ok (.iadd, 1) := by decide +kernel
theorem dX1_bareOf_54 : decode cX1_bareOf 54 = .ok (.invokestatic 56, 3) := by decide +kernel
theorem dX1_bareOf_57 : decode cX1_bareOf 57 = .ok (.iadd, 1) := by decide +kernel
theorem dX1_bareOf_58 : decode cX1_bareOf 58 = .ok (.istore 5, 2) := by decide +kernel
theorem dX1_bareOf_60 : decode cX1_bareOf 60 = .ok (.iinc 6 1, 3) := by decide +kernel
theorem dX1_bareOf_63 : decode cX1_bareOf 63 = .ok (.goto (-42), 3) := by decide +kernel
theorem dX1_bareOf_66 : decode cX1_bareOf 66 = .ok (.iload 5, 2) := by decide +kernel
theorem dX1_bareOf_68 : decode cX1_bareOf 68 = .ok (.ireturn, 1) := by decide +kernel
set_option maxRecDepth 20000 in
theorem ggX1_bareOfAll_X1_bareOf : GoodIn wsX1_bareOfAll wsX1_bareOf := goodIn_r _ [6, 7, 8, 9, 10, 11, 12, 13, 14, 5, 15, 16, 17, 18, 19, 20, 21] (by decide +kernel) (by decide +kernel)
set_option maxRecDepth 20000 in
theorem gX1_bareOfAll_X1_bareOf : GoodIn wsX1_bareOfAll (wsV RX1 62 RX1 yX1_bareOf wsX1_bareOf) := goodIn_app (goodIn_of _ (by decide +kernel)) ggX1_bareOfAll_X1_bareOf
theorem dX1_bareOfAll_0 : decode cX1_bareOfAll 0 = .ok (.iconst 0, 1) := by decide +kernel
theorem dX1_bareOfAll_1 : decode cX1_bareOfAll 1 = .ok (.istore_n 1, 1) := by decide +kernel
theorem dX1_bareOfAll_2 : decode cX1_bareOfAll 2 = .ok (.iconst 0, 1) := by decide +kernel
theorem dX1_bareOfAll_3 : decode cX1_bareOfAll 3 = .ok (.istore_n 2, 1) := by decide +kernel
theorem dX1_bareOfAll_4 : decode cX1_bareOfAll 4 = .ok (.iload_n 2, 1) := by decide +kernel
theorem dX1_bareOfAll_5 : decode cX1_bareOfAll 5 = .ok (.aload_n 0, 1) := by decide +kernel
theorem dX1_bareOfAll_6 : decode cX1_bareOfAll 6 = .ok (.getfield 32, 3) := by decide +kernel
theorem dX1_bareOfAll_9 : decode cX1_bareOfAll 9 = .ok (.if_icmp .ge 34, 3) := by decide +kernel
theorem dX1_bareOfAll_12 : decode cX1_bareOfAll 12 = .ok (.iconst 0, 1) := by decide +kernel
theorem dX1_bareOfAll_13 : decode cX1_bareOfAll 13 = .ok (.istore_n 3, 1) := by decide +kernel
theorem dX1_bareOfAll_14 : decode cX1_bareOfAll 14 = .ok (.iload_n 3, 1) := by decide +kernel
theorem dX1_bareOfAll_15 : decode cX1_bareOfAll 15 = .ok (.aload_n 0, 1) := by decide +kernel
theorem dX1_bareOfAll_16 : decode cX1_bareOfAll 16 = .ok (.getfield 32, 3) := by decide +kernel
theorem dX1_bareOfAll_19 : decode cX1_bareOfAll 19 = .ok (.if_icmp .ge 18, 3) := by decide +kernel
theorem dX1_bareOfAll_22 : decode cX1_bareOfAll 22 = .ok (.iload_n 1, 1) := by decide +kernel
theorem dX1_bareOfAll_23 : decode cX1_bareOfAll 23 = .ok (.aload_n 0, 1) := by decide +kernel
theorem dX1_bareOfAll_24 : decode cX1_bareOfAll 24 = .ok (.iload_n 2, 1) := by decide +kernel
theorem dX1_bareOfAll_25 : decode cX1_bareOfAll 25 = .ok (.iload_n 3, 1) := by decide +kernel
theorem dX1_bareOfAll_26 : decode cX1_bareOfAll 26 = .ok (.invokevirtual 62, 3) := by decide +kernel
theorem dX1_bareOfAll_29 : decode cX1_bareOfAll 29 = .ok (.iadd, 1) := by decide +kernel
theorem dX1_bareOfAll_30 : decode cX1_bareOfAll 30 = .ok (.istore_n 1, 1) := by decide +kernel
theorem dX1_bareOfAll_31 : decode cX1_bareOfAll 31 = .ok (.iinc 3 1, 3) := by decide +kernel
theorem dX1_bareOfAll_34 : decode cX1_bareOfAll 34 = .ok (.goto (-20), 3) := by decide +kernel
theorem dX1_bareOfAll_37 : decode cX1_bareOfAll 37 = .ok (.iinc 2 1, 3) := by decide +kernel
theorem dX1_bareOfAll_40 : decode cX1_bareOfAll 40 = .ok (.goto (-36), 3) := by decide +kernel
theorem dX1_bareOfAll_43 : decode cX1_bareOfAll 43 = .ok (.iload_n 1, 1) := by decide +kernel
theorem dX1_bareOfAll_44 : decode cX1_bareOfAll 44 = .ok (.ireturn, 1) := by decide +kernel
set_option maxRecDepth 20000 in
theorem ggX1_hasLikeSides_X1_backOf : GoodIn wsX1_hasLikeSides wsX1_backOf := goodIn_r _ [5, 6, 7, 8, 4, 9, 10, 11, 12, 13, 14, 15] (by decide +kernel) (by decide +kernel)
set_option maxRecDepth 20000 in
theorem gX1_hasLikeSides_X1_backOf : GoodIn wsX1_hasLikeSides (wsV RX1 53 RX1 yX1_backOf wsX1_backOf) := goodIn_app (goodIn_of _ (by decide +kernel)) ggX1_hasLikeSides_X1_backOf
theorem dX1_hasLikeSides_0 : decode cX1_hasLikeSides 0 = .ok (.iconst 0, 1) := by decide +kernel
theorem dX1_hasLikeSides_1 : decode cX1_hasLikeSides 1 = .ok (.istore_n 2, 1) := by decide +kernel
theorem dX1_hasLikeSides_2 : decode cX1_hasLikeSides 2 = .ok (.iload_n 2, 1) := by decide +kernel
theorem dX1_hasLikeSides_3 : decode cX1_hasLikeSides 3 = .ok (.bipush 8, 2) := by decide +kernel
theorem dX1_hasLikeSides_5 : decode cX1_hasLikeSides 5 = .ok (.if_icmp .ge 28, 3) := by decide +kernel
theorem dX1_hasLikeSides_8 : decode cX1_hasLikeSides 8 = .ok (.aload_n 0, 1) := by decide +kernel
theorem dX1_hasLikeSides_9 : decode cX1_hasLikeSides 9 = .ok (.iload_n 1, 1) := by decide +kernel
theorem dX1_hasLikeSides_10 : decode cX1_hasLikeSides 10 = .ok (.iconst 0, 1) := by decide +kernel
theorem dX1_hasLikeSides_11 : decode cX1_hasLikeSides 11 = .ok (.iload_n 2, 1) := by decide +kernel
theorem dX1_hasLikeSides_12 : decode cX1_hasLikeSides 12 = .ok (.invokevirtual 53, 3) := by decide +kernel
theorem dX1_hasLikeSides_15 : decode cX1_hasLikeSides 15 = .ok (.aload_n 0, 1) := by decide +kernel
theorem dX1_hasLikeSides_16 : decode cX1_hasLikeSides 16 = .ok (.iload_n 1, 1) := by decide +kernel
theorem dX1_hasLikeSides_17 : decode cX1_hasLikeSides 17 = .ok (.iconst 1, 1) := by decide +kernel
theorem dX1_hasLikeSides_18 : decode cX1_hasLikeSides 18 = .ok (.iload_n 2, 1) := by decide +kernel
theorem dX1_hasLikeSides_19 : decode cX1_hasLikeSides 19 = .ok (.invokevirtual 53, 3) := by decide +kernel
theorem dX1_hasLikeSides_22 : decode cX1_hasLikeSides 22 = .ok (.if_icmp .eq 5, 3) := by decide +kernel
theorem dX1_hasLikeSides_25 : decode cX1_hasLikeSides 25 = .ok (.iconst 0, 1) := by decide +kernel
theorem dX1_hasLikeSides_26 : decode cX1_hasLikeSides 26 = .ok (.ireturn, 1) := by decide +kernel
theorem dX1_hasLikeSides_27 : decode cX1_hasLikeSides 27 = .ok (.iinc 2 1, 3) := by decide +kernel
theorem dX1_hasLikeSides_30 : decode cX1_hasLikeSides 30 = .ok (.goto (-28), 3) := by decide +kernel
theorem dX1_hasLikeSides_33 : decode cX1_hasLikeSides 33 = .ok (.iconst 1, 1) := by decide +kernel
theorem dX1_hasLikeSides_34 : decode cX1_hasLikeSides 34 = .ok (.ireturn, 1) := by decide +kernel
set_option maxRecDepth 20000 in
theorem ggX1_swapSides_X1_backOf : GoodIn wsX1_swapSides wsX1_backOf := goodIn_r _ [5, 6, 7, 8, 4, 9, 14, 15, 16, 17, 18, 19] (by decide +kernel) (by decide +kernel)
set_option maxRecDepth 20000 in
theorem gX1_swapSides_X1_backOf : GoodIn wsX1_swapSides (wsV RX1 53 RX1 yX1_backOf wsX1_backOf) := goodIn_app (goodIn_of _ (by decide +kernel)) ggX1_swapSides_X1_backOf
set_option maxRecDepth 20000 in
theorem ggX1_swapSides_X1_putBack : GoodIn wsX1_swapSides wsX1_putBack := goodIn_r _ [13, 6, 7, 8, 4, 9, 14, 15, 16, 17, 18, 19] (by decide +kernel) (by decide +kernel)
set_option maxRecDepth 20000 in
theorem gX1_swapSides_X1_putBack : GoodIn wsX1_swapSides (wsV RX1 65 RX1 yX1_putBack wsX1_putBack) := goodIn_app (goodIn_of _ (by decide +kernel)) ggX1_swapSides_X1_putBack
theorem dX1_swapSides_0 : decode cX1_swapSides 0 = .ok (.iconst 0, 1) := by decide +kernel
theorem dX1_swapSides_1 : decode cX1_swapSides 1 = .ok (.istore_n 2, 1) := by decide +kernel
theorem dX1_swapSides_2 : decode cX1_swapSides 2 = .ok (.iload_n 2, 1) := by decide +kernel
theorem dX1_swapSides_3 : decode cX1_swapSides 3 = .ok (.bipush 8, 2) := by decide +kernel
theorem dX1_swapSides_5 : decode cX1_swapSides 5 = .ok (.if_icmp .ge 39, 3) := by decide +kernel
theorem dX1_swapSides_8 : decode cX1_swapSides 8 = .ok (.aload_n 0, 1) := by decide +kernel
theorem dX1_swapSides_9 : decode cX1_swapSides 9 = .ok (.iload_n 1, 1) := by decide +kernel
theorem dX1_swapSides_10 : decode cX1_swapSides 10 = .ok (.iconst 0, 1) := by decide +kernel
theorem dX1_swapSides_11 : decode cX1_swapSides 11 = .ok (.iload_n 2, 1) := by decide +kernel
theorem dX1_swapSides_12 : decode cX1_swapSides 12 = .ok (.invokevirtual 53, 3) := by decide +kernel
theorem dX1_swapSides_15 : decode cX1_swapSides 15 = .ok (.istore_n 3, 1) := by decide +kernel
theorem dX1_swapSides_16 : decode cX1_swapSides 16 = .ok (.aload_n 0, 1) := by decide +kernel
theorem dX1_swapSides_17 : decode cX1_swapSides 17 = .ok (.iload_n 1, 1) := by decide +kernel
theorem dX1_swapSides_18 : decode cX1_swapSides 18 = .ok (.iconst 0, 1) := by decide +kernel
theorem dX1_swapSides_19 : decode cX1_swapSides 19 = .ok (.iload_n 2, 1) := by decide +kernel
theorem dX1_swapSides_20 : decode cX1_swapSides 20 = .ok (.aload_n 0, 1) := by decide +kernel
theorem dX1_swapSides_21 : decode cX1_swapSides 21 = .ok (.iload_n 1, 1) := by decide +kernel
theorem dX1_swapSides_22 : decode cX1_swapSides 22 = .ok (.iconst 1, 1) := by decide +kernel
theorem dX1_swapSides_23 : decode cX1_swapSides 23 = .ok (.iload_n 2, 1) := by decide +kernel
theorem dX1_swapSides_24 : decode cX1_swapSides 24 = .ok (.invokevirtual 53, 3) := by decide +kernel
theorem dX1_swapSides_27 : decode cX1_swapSides 27 = .ok (.invokevirtual 65, 3) := by decide +kernel
theorem dX1_swapSides_30 : decode cX1_swapSides 30 = .ok (.aload_n 0, 1) := by decide +kernel
theorem dX1_swapSides_31 : decode cX1_swapSides 31 = .ok (.iload_n 1, 1) := by decide +kernel
theorem dX1_swapSides_32 : decode cX1_swapSides 32 = .ok (.iconst 1, 1) := by decide +kernel
theorem dX1_swapSides_33 : decode cX1_swapSides 33 = .ok (.iload_n 2, 1) := by decide +kernel
theorem dX1_swapSides_34 : decode cX1_swapSides 34 = .ok (.iload_n 3, 1) := by decide +kernel
theorem dX1_swapSides_35 : decode cX1_swapSides 35 = .ok (.invokevirtual 65, 3) := by decide +kernel
theorem dX1_swapSides_38 : decode cX1_swapSides 38 = .ok (.iinc 2 1, 3) := by decide +kernel
theorem dX1_swapSides_41 : decode cX1_swapSides 41 = .ok (.goto (-39), 3) := by decide +kernel
theorem dX1_swapSides_44 : decode cX1_swapSides 44 = .ok (.return_, 1) := by decide +kernel
set_option maxRecDepth 20000 in
theorem ggX1_turnRound_X1_swapSides : GoodIn wsX1_turnRound wsX1_swapSides := goodIn_r _ [6, 7, 8, 9, 5, 10, 11, 12, 13, 14, 15, 16, 17, 18, 28, 29, 30, 31, 32, 33] (by decide +kernel) (by decide +kernel)
set_option maxRecDepth 20000 in
theorem gX1_turnRound_X1_swapSides : GoodIn wsX1_turnRound (wsV RX1 69 RX1 yX1_swapSides wsX1_swapSides) := goodIn_app (goodIn_of _ (by decide +kernel)) ggX1_turnRound_X1_swapSides
set_option maxRecDepth 20000 in
theorem ggX1_turnRound_X1_weightOf : GoodIn wsX1_turnRound wsX1_weightOf := goodIn_r _ [22, 23, 28, 29, 30, 31, 32, 33] (by decide +kernel) (by decide +kernel)
set_option maxRecDepth 20000 in
theorem gX1_turnRound_X1_weightOf : GoodIn wsX1_turnRound (wsV RX1 72 RX1 yX1_weightOf wsX1_weightOf) := goodIn_app (goodIn_of _ (by decide +kernel)) ggX1_turnRound_X1_weightOf
set_option maxRecDepth 20000 in
theorem ggX1_turnRound_X1_putWeight : GoodIn wsX1_turnRound wsX1_putWeight := goodIn_r _ [27, 23, 28, 29, 30, 31, 32, 33] (by decide +kernel) (by decide +kernel)
set_option maxRecDepth 20000 in
theorem gX1_turnRound_X1_putWeight : GoodIn wsX1_turnRound (wsV RX1 75 RX1 yX1_putWeight wsX1_putWeight) := goodIn_app (goodIn_of _ (by decide +kernel)) ggX1_turnRound_X1_putWeight
theorem dX1_turnRound_0 : decode cX1_turnRound 0 = .ok (.iconst 0, 1) := by decide +kernel
theorem dX1_turnRound_1 : decode cX1_turnRound 1 = .ok (.istore_n 1, 1) := by decide +kernel
theorem dX1_turnRound_2 : decode cX1_turnRound 2 = .ok (.iload_n 1, 1) := by decide +kernel
theorem dX1_turnRound_3 : decode cX1_turnRound 3 = .ok (.aload_n 0, 1) := by decide +kernel
theorem dX1_turnRound_4 : decode cX1_turnRound 4 = .ok (.getfield 32, 3) := by decide +kernel
theorem dX1_turnRound_7 : decode cX1_turnRound 7 = .ok (.if_icmp .ge 53, 3) := by decide +kernel
theorem dX1_turnRound_10 : decode cX1_turnRound 10 = .ok (.aload_n 0, 1) := by decide +kernel
theorem dX1_turnRound_11 : decode cX1_turnRound 11 = .ok (.iload_n 1, 1) := by decide +kernel
theorem dX1_turnRound_12 : decode cX1_turnRound 12 = .ok (.invokevirtual 69, 3) := by decide +kernel
theorem dX1_turnRound_15 : decode cX1_turnRound 15 = .ok (.iconst 0, 1) := by decide +kernel
theorem dX1_turnRound_16 : decode cX1_turnRound 16 = .ok (.istore_n 2, 1) := by decide +kernel
theorem dX1_turnRound_17 : decode cX1_turnRound 17 = .ok (.iload_n 2, 1) := by decide +kernel
theorem dX1_turnRound_18 : decode cX1_turnRound 18 = .ok (.iload_n 1, 1) := by decide +kernel
theorem dX1_turnRound_19 : decode cX1_turnRound 19 = .ok (.if_icmp .ge 35, 3) := by decide +kernel
theorem dX1_turnRound_22 : decode cX1_turnRound 22 = .ok (.aload_n 0, 1) := by decide +kernel
theorem dX1_turnRound_23 : decode cX1_turnRound 23 = .ok (.iload_n 1, 1) := by decide +kernel
theorem dX1_turnRound_24 : decode cX1_turnRound 24 = .ok (.iload_n 2, 1) := by decide +kernel
theorem dX1_turnRound_25 : decode cX1_turnRound 25 = .ok (.invokevirtual 72, 3) := by decide +kernel
theorem dX1_turnRound_28 : decode cX1_turnRound 28 = .ok (.istore_n 3, 1) := by decide +kernel
theorem dX1_turnRound_29 : decode cX1_turnRound 29 = .ok (.aload_n 0, 1) := by decide +kernel
theorem dX1_turnRound_30 : decode cX1_turnRound 30 = .ok (.iload_n 1, 1) := by decide +kernel
theorem dX1_turnRound_31 : decode cX1_turnRound 31 = .ok (.iload_n 2, 1) := by decide +kernel
theorem dX1_turnRound_32 : decode cX1_turnRound 32 = .ok (.aload_n 0, 1) := by decide +kernel
theorem dX1_turnRound_33 : decode cX1_turnRound 33 = .ok (.iload_n 2, 1) := by decide +kernel
theorem dX1_turnRound_34 : decode cX1_turnRound 34 = .ok (.iload_n 1, 1) := by decide +kernel
theorem dX1_turnRound_35 : decode cX1_turnRound 35 = .ok (.invokevirtual 72, 3) := by decide +kernel
theorem dX1_turnRound_38 : decode cX1_turnRound 38 = .ok (.invokevirtual 75, 3) := by decide +kernel
theorem dX1_turnRound_41 : decode cX1_turnRound 41 = .ok (.aload_n 0, 1) := by decide +kernel
theorem dX1_turnRound_42 : decode cX1_turnRound 42 = .ok (.iload_n 2, 1) := by decide +kernel
theorem dX1_turnRound_43 : decode cX1_turnRound 43 = .ok (.iload_n 1, 1) := by decide +kernel
theorem dX1_turnRound_44 : decode cX1_turnRound 44 = .ok (.iload_n 3, 1) := by decide +kernel
theorem dX1_turnRound_45 : decode cX1_turnRound 45 = .ok (.invokevirtual 75, 3) := by decide +kernel
theorem dX1_turnRound_48 : decode cX1_turnRound 48 = .ok (.iinc 2 1, 3) := by decide +kernel
theorem dX1_turnRound_51 : decode cX1_turnRound 51 = .ok (.goto (-34), 3) := by decide +kernel
theorem dX1_turnRound_54 : decode cX1_turnRound 54 = .ok (.iinc 1 1, 3) := by decide +kernel
theorem dX1_turnRound_57 : decode cX1_turnRound 57 = .ok (.goto (-55), 3) := by decide +kernel
theorem dX1_turnRound_60 : decode cX1_turnRound 60 = .ok (.return_, 1) := by decide +kernel
set_option maxRecDepth 20000 in
theorem ggX1_takeLetter_X1_backOf : GoodIn wsX1_takeLetter wsX1_backOf := goodIn_r _ [6, 7, 8, 9, 5, 10, 15, 16, 17, 18, 19, 20] (by decide +kernel) (by decide +kernel)
set_option maxRecDepth 20000 in
theorem gX1_takeLetter_X1_backOf : GoodIn wsX1_takeLetter (wsV RX1 53 RX1 yX1_backOf wsX1_backOf) := goodIn_app (goodIn_of _ (by decide +kernel)) ggX1_takeLetter_X1_backOf
set_option maxRecDepth 20000 in
theorem ggX1_takeLetter_X1_putBack : GoodIn wsX1_takeLetter wsX1_putBack := goodIn_r _ [14, 7, 8, 9, 5, 10, 15, 16, 17, 18, 19, 20] (by decide +kernel) (by decide +kernel)
set_option maxRecDepth 20000 in
theorem gX1_takeLetter_X1_putBack : GoodIn wsX1_takeLetter (wsV RX1 65 RX1 yX1_putBack wsX1_putBack) := goodIn_app (goodIn_of _ (by decide +kernel)) ggX1_takeLetter_X1_putBack
theorem dX1_takeLetter_0 : decode cX1_takeLetter 0 = .ok (.aload_n 0, 1) := by decide +kernel
theorem dX1_takeLetter_1 : decode cX1_takeLetter 1 = .ok (.getfield 18, 3) := by decide +kernel
theorem dX1_takeLetter_4 : decode cX1_takeLetter 4 = .ok (.iload_n 1, 1) := by decide +kernel
theorem dX1_takeLetter_5 : decode cX1_takeLetter 5 = .ok (.iaload, 1) := by decide +kernel
theorem dX1_takeLetter_6 : decode cX1_takeLetter 6 = .ok (.aload_n 0, 1) := by decide +kernel
theorem dX1_takeLetter_7 : decode cX1_takeLetter 7 = .ok (.getfield 18, 3) := by decide +kernel
theorem dX1_takeLetter_10 : decode cX1_takeLetter 10 = .ok (.iload_n 2, 1) := by decide +kernel
theorem dX1_takeLetter_11 : decode cX1_takeLetter 11 = .ok (.iaload, 1) := by decide +kernel
theorem dX1_takeLetter_12 : decode cX1_takeLetter 12 = .ok (.if_icmp .eq 7, 3) := by decide +kernel
theorem dX1_takeLetter_15 : decode cX1_takeLetter 15 = .ok (.iconst 1, 1) := by decide +kernel
theorem dX1_takeLetter_16 : decode cX1_takeLetter 16 = .ok (.goto 4, 3) := by decide +kernel
theorem dX1_takeLetter_19 : decode cX1_takeLetter 19 = .ok (.iconst 0, 1) := by decide +kernel
theorem dX1_takeLetter_20 : decode cX1_takeLetter 20 = .ok (.istore_n 3, 1) := by decide +kernel
theorem dX1_takeLetter_21 : decode cX1_takeLetter 21 = .ok (.aload_n 0, 1) := by decide +kernel
theorem dX1_takeLetter_22 : decode cX1_takeLetter 22 = .ok (.getfield 18, 3) := by decide +kernel
theorem dX1_takeLetter_25 : decode cX1_takeLetter 25 = .ok (.iload_n 1, 1) := by decide +kernel
theorem dX1_takeLetter_26 : decode cX1_takeLetter 26 = .ok (.aload_n 0, 1) := by decide +kernel
theorem dX1_takeLetter_27 : decode cX1_takeLetter 27 = .ok (.getfield 18, 3) := by decide +kernel
theorem dX1_takeLetter_30 : decode cX1_takeLetter 30 = .ok (.iload_n 2, 1) := by decide +kernel
theorem dX1_takeLetter_31 : decode cX1_takeLetter 31 = .ok (.iaload, 1) := by decide +kernel
theorem dX1_takeLetter_32 : decode cX1_takeLetter 32 = .ok (.iastore, 1) := by decide +kernel
theorem dX1_takeLetter_33 : decode cX1_takeLetter 33 = .ok (.iconst 0, 1) := by decide +kernel
theorem dX1_takeLetter_34 : decode cX1_takeLetter 34 = .ok (.istore 4, 2) := by decide +kernel
theorem dX1_takeLetter_36 : decode cX1_takeLetter 36 = .ok (.iload 4, 2) := by decide +kernel
theorem dX1_takeLetter_38 : decode cX1_takeLetter 38 = .ok (.iconst 2, 1) := by decide +kernel
theorem dX1_takeLetter_39 : decode cX1_takeLetter 39 = .ok (.if_icmp .ge 69, 3) := by decide +kernel
theorem dX1_takeLetter_42 : decode cX1_takeLetter 42 = .ok (.iconst 0, 1) := by decide +kernel
theorem dX1_takeLetter_43 : decode cX1_takeLetter 43 = .ok (.istore 5, 2) := by decide +kernel
theorem dX1_takeLetter_45 : decode cX1_takeLetter 45 = .ok (.iload 5, 2) := by decide +kernel
theorem dX1_takeLetter_47 : decode cX1_takeLetter 47 = .ok (.bipush 8, 2) := by decide +kernel
theorem dX1_takeLetter_49 : decode cX1_takeLetter 49 = .ok (.if_icmp .ge 53, 3) := by decide +kernel
theorem dX1_takeLetter_52 : decode cX1_takeLetter 52 = .ok (.aload_n 0, 1) := by decide +kernel
theorem dX1_takeLetter_53 : decode cX1_takeLetter 53 = .ok (.iload_n 2, 1) := by decide +kernel
theorem dX1_takeLetter_54 : decode cX1_takeLetter 54 = .ok (.iload 4, 2) := by decide +kernel
theorem dX1_takeLetter_56 : decode cX1_takeLetter 56 = .ok (.iload 5, 2) := by decide +kernel
theorem dX1_takeLetter_58 : decode cX1_takeLetter 58 = .ok (.invokevirtual 53, 3) := by decide +kernel
theorem dX1_takeLetter_61 : decode cX1_takeLetter 61 = .ok (.istore 6, 2) := by decide +kernel
theorem dX1_takeLetter_63 : decode cX1_takeLetter 63 = .ok (.iload_n 3, 1) := by decide +kernel
theorem dX1_takeLetter_64 : decode cX1_takeLetter 64 = .ok (.aload_n 0, 1) := by decide +kernel
theorem dX1_takeLetter_65 : decode cX1_takeLetter 65 = .ok (.iload_n 1, 1) := by decide +kernel
theorem dX1_takeLetter_66 : decode cX1_takeLetter 66 = .ok (.iload 4, 2) := by decide +kernel
theorem dX1_takeLetter_68 : decode cX1_takeLetter 68 = .ok (.iload 5, 2) := by decide +kernel
theorem dX1_takeLetter_70 : decode cX1_takeLetter 70 = .ok (.invokevirtual 53, 3) := by decide +kernel
theorem dX1_takeLetter_73 : decode cX1_takeLetter 73 = .ok (.iload 6, 2) := by decide +kernel
theorem dX1_takeLetter_75 : decode cX1_takeLetter 75 = .ok (.if_icmp .eq 7, 3) := by decide +kernel
theorem dX1_takeLetter_78 : decode cX1_takeLetter 78 = .ok (.iconst 1, 1) := by decide +kernel
theorem dX1_takeLetter_79 : decode cX1_takeLetter 79 = .ok (.goto 4, 3) := by decide +kernel
theorem dX1_takeLetter_82 : decode cX1_takeLetter 82 = .ok (.iconst 0, 1) := by decide +kernel
theorem dX1_takeLetter_83 : decode cX1_takeLetter 83 = .ok (.iadd, 1) := by decide +kernel
theorem dX1_takeLetter_84 : decode cX1_takeLetter 84 = .ok (.istore_n 3, 1) := by decide +kernel
theorem dX1_takeLetter_85 : decode cX1_takeLetter 85 = .ok (.aload_n 0, 1) := by decide +kernel
theorem dX1_takeLetter_86 : decode cX1_takeLetter 86 = .ok (.iload_n 1, 1) := by decide +kernel
theorem dX1_takeLetter_87 : decode cX1_takeLetter 87 = .ok (.iload 4, 2) := by decide +kernel
theorem dX1_takeLetter_89 : decode cX1_takeLetter 89 = .ok (.iload 5, 2) := by decide +kernel
theorem dX1_takeLetter_91 : decode cX1_takeLetter 91 = .ok (.iload 6, 2) := by decide +kernel
theorem dX1_takeLetter_93 : decode cX1_takeLetter 93 = .ok (.invokevirtual 65, 3) := by decide +kernel
theorem dX1_takeLetter_96 : decode cX1_takeLetter 96 = .ok (.iinc 5 1, 3) := by decide +kernel
theorem dX1_takeLetter_99 : decode cX1_takeLetter 99 = .ok (.goto (-54), 3) := by decide +kernel
theorem dX1_takeLetter_102 : decode cX1_takeLetter 102 = .ok (.iinc 4 1, 3) := by decide +kernel
theorem dX1_takeLetter_105 : decode cX1_takeLetter 105 = .ok (.goto (-69), 3) := by decide +kernel
theorem dX1_takeLetter_108 : decode cX1_takeLetter 108 = .ok (.iload_n 3, 1) := by decide +kernel
theorem dX1_takeLetter_109 : decode cX1_takeLetter 109 = .ok (.ireturn, 1) := by decide +kernel
set_option maxRecDepth 20000 in
theorem ggX1_drawLots_X1_nextLot : GoodIn wsX1_drawLots wsX1_nextLot := goodIn_r _ [7, 8, 9] (by decide +kernel) (by decide +kernel)
set_option maxRecDepth 20000 in
theorem gX1_drawLots_X1_nextLot : GoodIn wsX1_drawLots (va_wsS RX1 79 yX1_nextLot wsX1_nextLot) := goodIn_app (goodIn_of _ (by decide +kernel)) ggX1_drawLots_X1_nextLot
set_option maxRecDepth 20000 in
theorem ggX1_drawLots_X1_putBack : GoodIn wsX1_drawLots wsX1_putBack := goodIn_r _ [13, 14, 15, 16, 6, 17, 23, 24, 25, 26, 27, 28] (by decide +kernel) (by decide +kernel)
set_option maxRecDepth 20000 in
theorem gX1_drawLots_X1_putBack : GoodIn wsX1_drawLots (wsV RX1 65 RX1 yX1_putBack wsX1_putBack) := goodIn_app (goodIn_of _ (by decide +kernel)) ggX1_drawLots_X1_putBack
set_option maxRecDepth 20000 in
theorem ggX1_drawLots_X1_putWeight : GoodIn wsX1_drawLots wsX1_putWeight := goodIn_r _ [21, 22, 23, 24, 25, 26, 27, 28] (by decide +kernel) (by decide +kernel)
set_option maxRecDepth 20000 in
theorem gX1_drawLots_X1_putWeight : GoodIn wsX1_drawLots (wsV RX1 75 RX1 yX1_putWeight wsX1_putWeight) := goodIn_app (goodIn_of _ (by decide +kernel)) ggX1_drawLots_X1_putWeight
theorem dX1_drawLots_0 : decode cX1_drawLots 0 = .ok (.iload_n 1, 1) := by decide +kernel
theorem dX1_drawLots_1 : decode cX1_drawLots 1 = .ok (.i2l, 1) := by decide +kernel
theorem dX1_drawLots_2 : decode cX1_drawLots 2 = .ok (.lstore_n 2, 1) := by decide +kernel
theorem dX1_drawLots_3 : decode cX1_drawLots 3 = .ok (.iconst 0, 1) := by decide +kernel
theorem dX1_drawLots_4 : decode cX1_drawLots 4 = .ok (.istore 4, 2) := by decide +kernel
theorem dX1_drawLots_6 : decode cX1_drawLots 6 = .ok (.iload 4, 2) := by decide +kernel
theorem dX1_drawLots_8 : decode cX1_drawLots 8 = .ok (.aload_n 0, 1) := by decide +kernel
theorem dX1_drawLots_9 : decode cX1_drawLots 9 = .ok (.getfield 32, 3) := by decide +kernel
theorem dX1_drawLots_12 : decode cX1_drawLots 12 = .ok (.if_icmp .ge 61, 3) := by decide +kernel
theorem dX1_drawLots_15 : decode cX1_drawLots 15 = .ok (.iconst 0, 1) := by decide +kernel
theorem dX1_drawLots_16 : decode cX1_drawLots 16 = .ok (.istore 5, 2) := by decide +kernel
theorem dX1_drawLots_18 : decode cX1_drawLots 18 = .ok (.iload 5, 2) := by decide +kernel
theorem dX1_drawLots_20 : decode cX1_drawLots 20 = .ok (.iconst 2, 1) := by decide +kernel
theorem dX1_drawLots_21 : decode cX1_drawLots 21 = .ok (.if_icmp .ge 46, 3) := by decide +kernel
theorem dX1_drawLots_24 : decode cX1_drawLots 24 = .ok (.iconst 0, 1) := by decide +kernel
theorem dX1_drawLots_25 : decode cX1_drawLots 25 = .ok (.istore 6, 2) := by decide +kernel
theorem dX1_drawLots_27 : decode cX1_drawLots 27 = .ok (.iload 6, 2) := by decide +kernel
theorem dX1_drawLots_29 : decode cX1_drawLots 29 = .ok (.bipush 8, 2) := by decide +kernel
theorem dX1_drawLots_31 : decode cX1_drawLots 31 = .ok (.if_icmp .ge 30, 3) := by decide +kernel
theorem dX1_drawLots_34 : decode cX1_drawLots 34 = .ok (.lload_n 2, 1) := by decide +kernel
theorem dX1_drawLots_35 : decode cX1_drawLots 35 = .ok (.invokestatic 79, 3) := by decide +kernel
theorem dX1_drawLots_38 : decode cX1_drawLots 38 = .ok (.lstore_n 2, 1) := by decide +kernel
theorem dX1_drawLots_39 : decode cX1_drawLots 39 = .ok (.aload_n 0, 1) := by decide +kernel
theorem dX1_drawLots_40 : decode cX1_drawLots 40 = .ok (.iload 4, 2) := by decide +kernel
theorem dX1_drawLots_42 : decode cX1_drawLots 42 = .ok (.iload 5, 2) := by decide +kernel
theorem dX1_drawLots_44 : decode cX1_drawLots 44 = .ok (.iload 6, 2) := by decide +kernel
theorem dX1_drawLots_46 : decode cX1_drawLots 46 = .ok (.lload_n 2, 1) := by decide +kernel
theorem dX1_drawLots_47 : decode cX1_drawLots 47 = .ok (.ldc2_w 83, 3) := by decide +kernel
theorem dX1_drawLots_50 : decode cX1_drawLots 50 = .ok (.lrem, 1) := by decide +kernel
theorem dX1_drawLots_51 : decode cX1_drawLots 51 = .ok (.l2i, 1) := by decide +kernel
theorem dX1_drawLots_52 : decode cX1_drawLots 52 = .ok (.invokevirtual 65, 3) := by decide +kernel
theorem dX1_drawLots_55 : decode cX1_drawLots 55 = .ok (.iinc 6 1, 3) := by decide +kernel
theorem dX1_drawLots_58 : decode cX1_drawLots 58 = .ok (.goto (-31), 3) := by decide +kernel
theorem dX1_drawLots_61 : decode cX1_drawLots 61 = .ok (.iinc 5 1, 3) := by decide +kernel
theorem dX1_drawLots_64 : decode cX1_drawLots 64 = .ok (.goto (-46), 3) := by decide +kernel
theorem dX1_drawLots_67 : decode cX1_drawLots 67 = .ok (.iinc 4 1, 3) := by decide +kernel
theorem dX1_drawLots_70 : decode cX1_drawLots 70 = .ok (.goto (-64), 3) := by decide +kernel
theorem dX1_drawLots_73 : decode cX1_drawLots 73 = .ok (.iconst 0, 1) := by decide +kernel
theorem dX1_drawLots_74 : decode cX1_drawLots 74 = .ok (.istore 4, 2) := by decide +kernel
theorem dX1_drawLots_76 : decode cX1_drawLots 76 = .ok (.iload 4, 2) := by decide +kernel
theorem dX1_drawLots_78 : decode cX1_drawLots 78 = .ok (.aload_n 0, 1) := by decide +kernel
theorem dX1_drawLots_79 : decode cX1_drawLots 79 = .ok (.getfield 32, 3) := by decide +kernel
theorem dX1_drawLots_82 : decode cX1_drawLots 82 = .ok (.if_icmp .ge 46, 3) := by decide +kernel
theorem dX1_drawLots_85 : decode cX1_drawLots 85 = .ok (.iconst 0, 1) := by decide +kernel
theorem dX1_drawLots_86 : decode cX1_drawLots 86 = .ok (.istore 5, 2) := by decide +kernel
theorem dX1_drawLots_88 : decode cX1_drawLots 88 = .ok (.iload 5, 2) := by decide +kernel
theorem dX1_drawLots_90 : decode cX1_drawLots 90 = .ok (.aload_n 0, 1) := by decide +kernel
theorem dX1_drawLots_91 : decode cX1_drawLots 91 = .ok (.getfield 32, 3) := by decide +kernel
theorem dX1_drawLots_94 : decode cX1_drawLots 94 = .ok (.if_icmp .ge 28, 3) := by decide +kernel
theorem dX1_drawLots_97 : decode cX1_drawLots 97 = .ok (.lload_n 2, 1) := by decide +kernel
theorem dX1_drawLots_98 : decode cX1_drawLots 98 = .ok (.invokestatic 79, 3) := by decide +kernel
theorem dX1_drawLots_101 : decode cX1_drawLots 101 = .ok (.lstore_n 2, 1) := by decide +kernel
theorem dX1_drawLots_102 : decode cX1_drawLots 102 = .ok (.aload_n 0, 1) := by decide +kernel
theorem dX1_drawLots_103 : decode cX1_drawLots 103 = .ok (.iload 4, 2) := by decide +kernel
theorem dX1_drawLots_105 : decode cX1_drawLots 105 = .ok (.iload 5, 2) := by decide +kernel
theorem dX1_drawLots_107 : decode cX1_drawLots 107 = .ok (.lload_n 2, 1) := by decide +kernel
theorem dX1_drawLots_108 : decode cX1_drawLots 108 = .ok (.ldc2_w 85, 3) := by decide +kernel
theorem dX1_drawLots_111 : decode cX1_drawLots 111 = .ok (.lrem, 1) := by decide +kernel
theorem dX1_drawLots_112 : decode cX1_drawLots 112 = .ok (.l2i, 1) := by decide +kernel
theorem dX1_drawLots_113 : decode cX1_drawLots 113 = .ok (.invokevirtual 75, 3) := by decide +kernel
theorem dX1_drawLots_116 : decode cX1_drawLots 116 = .ok (.iinc 5 1, 3) := by decide +kernel
theorem dX1_drawLots_119 : decode cX1_drawLots 119 = .ok (.goto (-31), 3) := by decide +kernel
theorem dX1_drawLots_122 : decode cX1_drawLots 122 = .ok (.iinc 4 1, 3) := by decide +kernel
theorem dX1_drawLots_125 : decode cX1_drawLots 125 = .ok (.goto (-49), 3) := by decide +kernel
theorem dX1_drawLots_128 : decode cX1_drawLots 128 = .ok (.return_, 1) := by decide +kernel
theorem dX1_nextLot_0 : decode cX1_nextLot 0 = .ok (.lload_n 0, 1) := by decide +kernel
theorem dX1_nextLot_1 : decode cX1_nextLot 1 = .ok (.ldc2_w 87, 3) := by decide +kernel
theorem dX1_nextLot_4 : decode cX1_nextLot 4 = .ok (.lmul, 1) := by decide +kernel
theorem dX1_nextLot_5 : decode cX1_nextLot 5 = .ok (.ldc2_w 89, 3) := by decide +kernel
theorem dX1_nextLot_8 : decode cX1_nextLot 8 = .ok (.lrem, 1) := by decide +kernel
theorem dX1_nextLot_9 : decode cX1_nextLot 9 = .ok (.lreturn, 1) := by decide +kernel
set_option maxRecDepth 20000 in
theorem ggX2_init_X4_init : GoodIn wsX2_init wsX4_init := goodIn_r _ [14, 15, 2, 3, 4, 16, 22, 23] (by decide +kernel) (by decide +kernel)
set_option maxRecDepth 20000 in
theorem gX2_init_X4_init : GoodIn wsX2_init (wsX4_init) := ggX2_init_X4_init
theorem dX2_init_0 : decode cX2_init 0 = .ok (.aload_n 0, 1) := by decide +kernel
theorem dX2_init_1 : decode cX2_init 1 = .ok (.invokespecial 3, 3) := by decide +kernel
theorem dX2_init_4 : decode cX2_init 4 = .ok (.aload_n 0, 1) := by decide +kernel
theorem dX2_init_5 : decode cX2_init 5 = .ok (.bipush 16, 2) := by decide +kernel
theorem dX2_init_7 : decode cX2_init 7 = .ok (.newarray .int, 2) := by decide +kernel
theorem dX2_init_9 : decode cX2_init 9 = .ok (.putfield 9, 3) := by decide +kernel
theorem dX2_init_12 : decode cX2_init 12 = .ok (.aload_n 0, 1) := by decide +kernel
theorem dX2_init_13 : decode cX2_init 13 = .ok (.aload_n 1, 1) := by decide +kernel
theorem dX2_init_14 : decode cX2_init 14 = .ok (.putfield 15, 3) := by decide +kernel
theorem dX2_init_17 : decode cX2_init 17 = .ok (.aload_n 0, 1) := by decide +kernel
theorem dX2_init_18 : decode cX2_init 18 = .ok (.aload_n 2, 1) := by decide +kernel
theorem dX2_init_19 : decode cX2_init 19 = .ok (.putfield 19, 3) := by decide +kernel
theorem dX2_init_22 : decode cX2_init 22 = .ok (.aload_n 0, 1) := by decide +kernel
theorem dX2_init_23 : decode cX2_init 23 = .ok (.new 23, 3) := by decide +kernel
theorem dX2_init_26 : decode cX2_init 26 = .ok (.dup, 1) := by decide +kernel
theorem dX2_init_27 : decode cX2_init 27 = .ok (.invokespecial 25, 3) := by decide +kernel
theorem dX2_init_30 : decode cX2_init 30 = .ok (.putfield 26, 3) := by decide +kernel
theorem dX2_init_33 : decode cX2_init 33 = .ok (.return_, 1) := by decide +kernel
theorem dX2_makeEmpty_0 : decode cX2_makeEmpty 0 = .ok (.aload_n 0, 1) := by decide +kernel
theorem dX2_makeEmpty_1 : decode cX2_makeEmpty 1 = .ok (.iconst 0, 1) := by decide +kernel
theorem dX2_makeEmpty_2 : decode cX2_makeEmpty 2 = .ok (.putfield 30, 3) := by decide +kernel
theorem dX2_makeEmpty_5 : decode cX2_makeEmpty 5 = .ok (.return_, 1) := by decide +kernel
theorem dX2_add_0 : decode cX2_add 0 = .ok (.aload_n 0, 1) := by decide +kernel
theorem dX2_add_1 : decode cX2_add 1 = .ok (.getfield 30, 3) := by decide +kernel
theorem dX2_add_4 : decode cX2_add 4 = .ok (.aload_n 0, 1) := by decide +kernel
theorem dX2_add_5 : decode cX2_add 5 = .ok (.getfield 9, 3) := by decide +kernel
theorem dX2_add_8 : decode cX2_add 8 = .ok (.arraylength, 1) := by decide +kernel
theorem dX2_add_9 : decode cX2_add 9 = .ok (.if_icmp .ge 23, 3) := by decide +kernel
theorem dX2_add_12 : decode cX2_add 12 = .ok (.aload_n 0, 1) := by decide +kernel
theorem dX2_add_13 : decode cX2_add 13 = .ok (.getfield 9, 3) := by decide +kernel
theorem dX2_add_16 : decode cX2_add 16 = .ok (.aload_n 0, 1) := by decide +kernel
theorem dX2_add_17 : decode cX2_add 17 = .ok (.getfield 30, 3) := by decide +kernel
theorem dX2_add_20 : decode cX2_add 20 = .ok (.iload_n 1, 1) := by decide +kernel
theorem dX2_add_21 : decode cX2_add 21 = .ok (.iastore, 1) := by decide +kernel
theorem dX2_add_22 : decode cX2_add 22 = .ok (.aload_n 0, 1) := by decide +kernel
theorem dX2_add_23 : decode cX2_add 23 = .ok (.dup, 1) := by decide +kernel
theorem dX2_add_24 : decode cX2_add 24 = .ok (.getfield 30, 3) := by decide +kernel
theorem dX2_add_27 : decode cX2_add 27 = .ok (.iconst 1, 1) := by decide +kernel
theorem dX2_add_28 : decode cX2_add 28 = .ok (.iadd, 1) := by decide +kernel
theorem dX2_add_29 : decode cX2_add 29 = .ok (.putfield 30, 3) := by decide +kernel
theorem dX2_add_32 : decode cX2_add 32 = .ok (.return_, 1) := by decide +kernel
set_option maxRecDepth 20000 in
theorem ggX2_letterAt_X5_within : GoodIn wsX2_letterAt wsX5_within := goodIn_r _ [5] (by decide +kernel) (by decide +kernel)
set_option maxRecDepth 20000 in
theorem gX2_letterAt_X5_within_n34 : GoodIn wsX2_letterAt (wsX5_within) := ggX2_letterAt_X5_within
theorem dX2_letterAt_0 : decode cX2_letterAt 0 = .ok (.iload_n 1, 1) := by decide +kernel
theorem dX2_letterAt_1 : decode cX2_letterAt 1 = .ok (.iconst 0, 1) := by decide +kernel
theorem dX2_letterAt_2 : decode cX2_letterAt 2 = .ok (.aload_n 0, 1) := by decide +kernel
theorem dX2_letterAt_3 : decode cX2_letterAt 3 = .ok (.getfield 30, 3) := by decide +kernel
theorem dX2_letterAt_6 : decode cX2_letterAt 6 = .ok (.iconst 1, 1) := by decide +kernel
theorem dX2_letterAt_7 : decode cX2_letterAt 7 = .ok (.isub, 1) := by decide +kernel
theorem dX2_letterAt_8 : decode cX2_letterAt 8 = .ok (.invokestatic 34, 3) := by decide +kernel
theorem dX2_letterAt_11 : decode cX2_letterAt 11 = .ok (.ifCond .eq 12, 3) := by decide +kernel
theorem dX2_letterAt_14 : decode cX2_letterAt 14 = .ok (.aload_n 0, 1) := by decide +kernel
theorem dX2_letterAt_15 : decode cX2_letterAt 15 = .ok (.getfield 9, 3) := by decide +kernel
theorem dX2_letterAt_18 : decode cX2_letterAt 18 = .ok (.iload_n 1, 1) := by decide +kernel
theorem dX2_letterAt_19 : decode cX2_letterAt 19 = .ok (.iaload, 1) := by decide +kernel
theorem dX2_letterAt_20 : decode cX2_letterAt 20 = .ok (.goto 4, 3) := by decide +kernel
theorem dX2_letterAt_23 : decode cX2_letterAt 23 = .ok (.iconst (-1), 1) := by decide +kernel
theorem dX2_letterAt_24 : decode cX2_letterAt 24 = .ok (.ireturn, 1) := by decide +kernel
set_option maxRecDepth 20000 in
theorem ggX2_wideAbove_X0_spaceBelow : GoodIn wsX2_wideAbove wsX0_spaceBelow := goodIn_r _ [10, 11, 12, 35, 36, 37, 38, 39, 40, 41, 42] (by decide +kernel) (by decide +kernel)
set_option maxRecDepth 20000 in
theorem gX2_wideAbove_X0_spaceBelow : GoodIn wsX2_wideAbove (wsV RX2 43 RX0 yX0_spaceBelow wsX0_spaceBelow) := goodIn_app (goodIn_of _ (by decide +kernel)) ggX2_wideAbove_X0_spaceBelow
set_option maxRecDepth 20000 in
theorem ggX2_wideAbove_X0_spaceAbove : GoodIn wsX2_wideAbove wsX0_spaceAbove := goodIn_r _ [16, 17, 18, 19, 20, 9, 21, 22, 23, 35, 36, 37, 38, 39, 40, 41, 42, 29, 30, 31, 32, 33, 34] (by decide +kernel) (by decide +kernel)
set_option maxRecDepth 20000 in
theorem gX2_wideAbove_X0_spaceAbove : GoodIn wsX2_wideAbove (wsV RX2 49 RX0 yX0_spaceAbove wsX0_spaceAbove) := goodIn_app (goodIn_of _ (by decide +kernel)) ggX2_wideAbove_X0_spaceAbove
theorem dX2_wideAbove_0 : decode cX2_wideAbove 0 = .ok (.lconst 0, 1) := by decide +kernel
theorem dX2_wideAbove_1 : decode cX2_wideAbove 1 = .ok (.lstore_n 1, 1) := by decide +kernel
theorem dX2_wideAbove_2 : decode cX2_wideAbove 2 = .ok (.iconst 0, 1) := by decide +kernel
theorem dX2_wideAbove_3 : decode cX2_wideAbove 3 = .ok (.istore_n 3, 1) := by decide +kernel
theorem dX2_wideAbove_4 : decode cX2_wideAbove 4 = .ok (.iload_n 3, 1) := by decide +kernel
theorem dX2_wideAbove_5 : decode cX2_wideAbove 5 = .ok (.aload_n 0, 1) := by decide +kernel
theorem dX2_wideAbove_6 : decode cX2_wideAbove 6 = .ok (.getfield 30, 3) := by decide +kernel
theorem dX2_wideAbove_9 : decode cX2_wideAbove 9 = .ok (.if_icmp .ge 91, 3) := by decide +kernel
theorem dX2_wideAbove_12 : decode cX2_wideAbove 12 = .ok (.lload_n 1, 1) := by decide +kernel
theorem dX2_wideAbove_13 : decode cX2_wideAbove 13 = .ok (.aload_n 0, 1) := by decide +kernel
theorem dX2_wideAbove_14 : decode cX2_wideAbove 14 = .ok (.getfield 15, 3) := by decide +kernel
theorem dX2_wideAbove_17 : decode cX2_wideAbove 17 = .ok (.getfield 38, 3) := by decide +kernel
theorem dX2_wideAbove_20 : decode cX2_wideAbove 20 = .ok (.aload_n 0, 1) := by decide +kernel
theorem dX2_wideAbove_21 : decode cX2_wideAbove 21 = .ok (.getfield 9, 3) := by decide +kernel
theorem dX2_wideAbove_24 : decode cX2_wideAbove 24 = .ok (.iload_n 3, 1) := by decide +kernel
theorem dX2_wideAbove_25 : decode cX2_wideAbove 25 = .ok (.iaload, 1) := by decide +kernel
theorem dX2_wideAbove_26 : decode cX2_wideAbove 26 = .ok (.iaload, 1) := by decide +kernel
theorem dX2_wideAbove_27 : decode cX2_wideAbove 27 = .ok (.i2l, 1) := by decide +kernel
theorem dX2_wideAbove_28 : decode cX2_wideAbove 28 = .ok (.aload_n 0, 1) := by decide +kernel
theorem dX2_wideAbove_29 : decode cX2_wideAbove 29 = .ok (.getfield 19, 3) := by decide +kernel
theorem dX2_wideAbove_32 : decode cX2_wideAbove 32 = .ok (.invokevirtual 43, 3) := by decide +kernel
theorem dX2_wideAbove_35 : decode cX2_wideAbove 35 = .ok (.lmul, 1) := by decide +kernel
theorem dX2_wideAbove_36 : decode cX2_wideAbove 36 = .ok (.ladd, 1) := by decide +kernel
theorem dX2_wideAbove_37 : decode cX2_wideAbove 37 = .ok (.lstore_n 1, 1) := by decide +kernel
theorem dX2_wideAbove_38 : decode cX2_wideAbove 38 = .ok (.lload_n 1, 1) := by decide +kernel
theorem dX2_wideAbove_39 : decode cX2_wideAbove 39 = .ok (.iload_n 3, 1) := by decide +kernel
theorem dX2_wideAbove_40 : decode cX2_wideAbove 40 = .ok (.ifCond .le 20, 3) := by decide +kernel
theorem dX2_wideAbove_43 : decode cX2_wideAbove 43 = .ok (.aload_n 0, 1) := by decide +kernel
theorem dX2_wideAbove_44 : decode cX2_wideAbove 44 = .ok (.getfield 19, 3) := by decide +kernel
theorem dX2_wideAbove_47 : decode cX2_wideAbove 47 = .ok (.aload_n 0, 1) := by decide +kernel
theorem dX2_wideAbove_48 : decode cX2_wideAbove 48 = .ok (.getfield 9, 3) := by decide +kernel
theorem dX2_wideAbove_51 : decode cX2_wideAbove 51 = .ok (.iload_n 3, 1) := by decide +kernel
theorem dX2_wideAbove_52 : decode cX2_wideAbove 52 = .ok (.iaload, 1) := by decide +kernel
theorem dX2_wideAbove_53 : decode cX2_wideAbove 53 = .ok (.iconst 0, 1) := by decide +kernel
theorem dX2_wideAbove_54 : decode cX2_wideAbove 54 = .ok (.invokevirtual 49, 3) := by decide +kernel
theorem dX2_wideAbove_57 : decode cX2_wideAbove 57 = .ok (.goto 4, 3) := by decide +kernel
theorem dX2_wideAbove_60 : decode cX2_wideAbove 60 = .ok (.lconst 0, 1) := by decide +kernel
theorem dX2_wideAbove_61 : decode cX2_wideAbove 61 = .ok (.ladd, 1) := by decide +kernel
theorem dX2_wideAbove_62 : decode cX2_wideAbove 62 = .ok (.lstore_n 1, 1) := by decide +kernel
theorem dX2_wideAbove_63 : decode cX2_wideAbove 63 = .ok (.lload_n 1, 1) := by decide +kernel
theorem dX2_wideAbove_64 : decode cX2_wideAbove 64 = .ok (.iload_n 3, 1) := by decide +kernel
theorem dX2_wideAbove_65 : decode cX2_wideAbove 65 = .ok (.aload_n 0, 1) := by decide +kernel
theorem dX2_wideAbove_66 : decode cX2_wideAbove 66 = .ok (.getfield 30, 3) := by decide +kernel
theorem dX2_wideAbove_69 : decode cX2_wideAbove 69 = .ok (.iconst 1, 1) := by decide +kernel
theorem dX2_wideAbove_70 : decode cX2_wideAbove 70 = .ok (.isub, 1) := by decide +kernel
theorem dX2_wideAbove_71 : decode cX2_wideAbove 71 = .ok (.if_icmp .ge 20, 3) := by decide +kernel
theorem dX2_wideAbove_74 : decode cX2_wideAbove 74 = .ok (.aload_n 0, 1) := by decide +kernel
theorem dX2_wideAbove_75 : decode cX2_wideAbove 75 = .ok (.getfield 19, 3) := by decide +kernel
theorem dX2_wideAbove_78 : decode cX2_wideAbove 78 = .ok (.aload_n 0, 1) := by decide +kernel
theorem dX2_wideAbove_79 : decode cX2_wideAbove 79 = .ok (.getfield 9, 3) := by decide +kernel
theorem dX2_wideAbove_82 : decode cX2_wideAbove 82 = .ok (.iload_n 3, 1) := by decide +kernel
theorem dX2_wideAbove_83 : decode cX2_wideAbove 83 = .ok (.iaload, 1) := by decide +kernel
theorem dX2_wideAbove_84 : decode cX2_wideAbove 84 = .ok (.iconst 1, 1) := by decide +kernel
theorem dX2_wideAbove_85 : decode cX2_wideAbove 85 = .ok (.invokevirtual 49, 3) := by decide +kernel
theorem dX2_wideAbove_88 : decode cX2_wideAbove 88 = .ok (.goto 4, 3) := by decide +kernel
theorem dX2_wideAbove_91 : decode cX2_wideAbove 91 = .ok (.lconst 0, 1) := by decide +kernel
theorem dX2_wideAbove_92 : decode cX2_wideAbove 92 = .ok (.ladd, 1) := by decide +kernel
theorem dX2_wideAbove_93 : decode cX2_wideAbove 93 = .ok (.lstore_n 1, 1) := by decide +kernel
theorem dX2_wideAbove_94 : decode cX2_wideAbove 94 = .ok (.iinc 3 1, 3) := by decide +kernel
theorem dX2_wideAbove_97 : decode cX2_wideAbove 97 = .ok (.goto (-93), 3) := by decide +kernel
theorem dX2_wideAbove_100 : decode cX2_wideAbove 100 = .ok (.lload_n 1, 1) := by decide +kernel
theorem dX2_wideAbove_101 : decode cX2_wideAbove 101 = .ok (.lreturn, 1) := by decide +kernel
set_option maxRecDepth 20000 in
theorem ggX2_thin_X0_whiteAbove : GoodIn wsX2_thin wsX0_whiteAbove := goodIn_r _ [8, 9, 10, 11, 12, 13, 7, 14, 15, 16, 17, 18, 19, 20, 21, 22, 23, 24, 25, 26, 27, 28, 29, 30, 31, 32, 33, 34, 40, 41, 42, 43, 44, 45, 46, 47, 48, 49, 50, 51, 52, 53] (by decide +kernel) (by decide +kernel)
set_option maxRecDepth 20000 in
theorem gX2_thin_X0_whiteAbove : GoodIn wsX2_thin (wsV RX2 53 RX0 yX0_whiteAbove wsX0_whiteAbove) := goodIn_app (goodIn_of _ (by decide +kernel)) ggX2_thin_X0_whiteAbove
theorem dX2_thin_0 : decode cX2_thin 0 = .ok (.iconst (-1), 1) := by decide +kernel
theorem dX2_thin_1 : decode cX2_thin 1 = .ok (.istore_n 1, 1) := by decide +kernel
theorem dX2_thin_2 : decode cX2_thin 2 = .ok (.lconst 0, 1) := by decide +kernel
theorem dX2_thin_3 : decode cX2_thin 3 = .ok (.lstore_n 2, 1) := by decide +kernel
theorem dX2_thin_4 : decode cX2_thin 4 = .ok (.iconst 0, 1) := by decide +kernel
theorem dX2_thin_5 : decode cX2_thin 5 = .ok (.istore 4, 2) := by decide +kernel
theorem dX2_thin_7 : decode cX2_thin 7 = .ok (.iload 4, 2) := by decide +kernel
theorem dX2_thin_9 : decode cX2_thin 9 = .ok (.aload_n 0, 1) := by decide +kernel
theorem dX2_thin_10 : decode cX2_thin 10 = .ok (.getfield 30, 3) := by decide +kernel
theorem dX2_thin_13 : decode cX2_thin 13 = .ok (.iconst 1, 1) := by decide +kernel
theorem dX2_thin_14 : decode cX2_thin 14 = .ok (.isub, 1) := by decide +kernel
theorem dX2_thin_15 : decode cX2_thin 15 = .ok (.if_icmp .ge 52, 3) := by decide +kernel
theorem dX2_thin_18 : decode cX2_thin 18 = .ok (.aload_n 0, 1) := by decide +kernel
theorem dX2_thin_19 : decode cX2_thin 19 = .ok (.getfield 19, 3) := by decide +kernel
theorem dX2_thin_22 : decode cX2_thin 22 = .ok (.aload_n 0, 1) := by decide +kernel
theorem dX2_thin_23 : decode cX2_thin 23 = .ok (.getfield 9, 3) := by decide +kernel
theorem dX2_thin_26 : decode cX2_thin 26 = .ok (.iload 4, 2) := by decide +kernel
theorem dX2_thin_28 : decode cX2_thin 28 = .ok (.iaload, 1) := by decide +kernel
theorem dX2_thin_29 : decode cX2_thin 29 = .ok (.aload_n 0, 1) := by decide +kernel
theorem dX2_thin_30 : decode cX2_thin 30 = .ok (.getfield 9, 3) := by decide +kernel
theorem dX2_thin_33 : decode cX2_thin 33 = .ok (.iload 4, 2) := by decide +kernel
theorem dX2_thin_35 : decode cX2_thin 35 = .ok (.iconst 1, 1) := by decide +kernel
theorem dX2_thin_36 : decode cX2_thin 36 = .ok (.iadd, 1) := by decide +kernel
theorem dX2_thin_37 : decode cX2_thin 37 = .ok (.iaload, 1) := by decide +kernel
theorem dX2_thin_38 : decode cX2_thin 38 = .ok (.invokevirtual 53, 3) := by decide +kernel
theorem dX2_thin_41 : decode cX2_thin 41 = .ok (.lstore 5, 2) := by decide +kernel
theorem dX2_thin_43 : decode cX2_thin 43 = .ok (.iload_n 1, 1) := by decide +kernel
theorem dX2_thin_44 : decode cX2_thin 44 = .ok (.iconst (-1), 1) := by decide +kernel
theorem dX2_thin_45 : decode cX2_thin 45 = .ok (.if_icmp .eq 10, 3) := by decide +kernel
theorem dX2_thin_48 : decode cX2_thin 48 = .ok (.lload 5, 2) := by decide +kernel
theorem dX2_thin_50 : decode cX2_thin 50 = .ok (.lload_n 2, 1) := by decide +kernel
theorem dX2_thin_51 : decode cX2_thin 51 = .ok (.lcmp, 1) := by decide +kernel
theorem dX2_thin_52 : decode cX2_thin 52 = .ok (.ifCond .ge 9, 3) := by decide +kernel
theorem dX2_thin_55 : decode cX2_thin 55 = .ok (.iload 4, 2) := by decide +kernel
theorem dX2_thin_57 : decode cX2_thin 57 = .ok (.istore_n 1, 1) := by decide +kernel
theorem dX2_thin_58 : decode cX2_thin 58 = .ok (.lload 5, 2) := by decide +kernel
theorem dX2_thin_60 : decode cX2_thin 60 = .ok (.lstore_n 2, 1) := by decide +kernel
theorem dX2_thin_61 : decode cX2_thin 61 = .ok (.iinc 4 1, 3) := by decide +kernel
theorem dX2_thin_64 : decode cX2_thin 64 = .ok (.goto (-57), 3) := by decide +kernel
theorem dX2_thin_67 : decode cX2_thin 67 = .ok (.iload_n 1, 1) := by decide +kernel
theorem dX2_thin_68 : decode cX2_thin 68 = .ok (.ireturn, 1) := by decide +kernel
set_option maxRecDepth 20000 in
theorem ggX2_written_X4_makeEmpty : GoodIn wsX2_written wsX4_makeEmpty := goodIn_r _ [9, 10, 95, 96] (by decide +kernel) (by decide +kernel)
set_option maxRecDepth 20000 in
theorem gX2_written_X4_makeEmpty : GoodIn wsX2_written (wsV RX2 56 RX4 yX4_makeEmpty wsX4_makeEmpty) := goodIn_app (goodIn_of _ (by decide +kernel)) ggX2_written_X4_makeEmpty
set_option maxRecDepth 20000 in
theorem ggX2_written_X2_signBetween : GoodIn wsX2_written wsX2_signBetween := goodIn_r _ [15, 4, 16, 17, 18, 19, 20, 21, 22, 23, 24, 25, 26, 27, 28, 29, 30, 31, 32, 33, 34, 35, 36, 37, 38, 39, 40, 41, 42, 43, 44, 45, 46, 47, 48, 49, 50, 51, 90, 91, 92, 93, 94, 97, 98, 99, 100, 101, 102, 103, 104, 105, 106, 107, 108, 109, 110] (by decide +kernel) (by decide +kernel)
set_option maxRecDepth 20000 in
theorem gX2_written_X2_signBetween : GoodIn wsX2_written (wsV RX2 59 RX2 yX2_signBetween wsX2_signBetween) := goodIn_app (goodIn_of _ (by decide +kernel)) ggX2_written_X2_signBetween
set_option maxRecDepth 20000 in
theorem ggX2_written_X4_addSign : GoodIn wsX2_written wsX4_addSign := goodIn_r _ [55, 10, 56, 95, 96] (by decide +kernel) (by decide +kernel)
set_option maxRecDepth 20000 in
theorem gX2_written_X4_addSign : GoodIn wsX2_written (wsV RX2 63 RX4 yX4_addSign wsX4_addSign) := goodIn_app (goodIn_of _ (by decide +kernel)) ggX2_written_X4_addSign
set_option maxRecDepth 20000 in
theorem ggX2_written_X2_wideAbove : GoodIn wsX2_written wsX2_wideAbove := goodIn_r _ [60, 2, 61, 62, 3, 4, 63, 64, 65, 19, 66, 67, 23, 68, 29, 30, 31, 32, 33, 34, 35, 36, 21, 37, 90, 91, 92, 93, 94, 105, 106, 107, 108, 109, 110, 97, 98, 99, 100, 101, 102, 103, 104] (by decide +kernel) (by decide +kernel)
set_option maxRecDepth 20000 in
theorem gX2_written_X2_wideAbove : GoodIn wsX2_written (wsV RX2 67 RX2 yX2_wideAbove wsX2_wideAbove) := goodIn_app (goodIn_of _ (by decide +kernel)) ggX2_written_X2_wideAbove
set_option maxRecDepth 20000 in
theorem ggX2_written_X0_spaceBelow : GoodIn wsX2_written wsX0_spaceBelow := goodIn_r _ [66, 67, 23, 97, 98, 99, 100, 101, 102, 103, 104] (by decide +kernel) (by decide +kernel)
set_option maxRecDepth 20000 in
theorem gX2_written_X0_spaceBelow : GoodIn wsX2_written (wsV RX2 43 RX0 yX0_spaceBelow wsX0_spaceBelow) := goodIn_app (goodIn_of _ (by decide +kernel)) ggX2_written_X0_spaceBelow
set_option maxRecDepth 20000 in
theorem ggX2_written_X5_aboveOf : GoodIn wsX2_written wsX5_aboveOf := goodIn_r _ [71, 72, 73, 70, 74, 75, 76, 47, 77, 78, 79, 80] (by decide +kernel) (by decide +kernel)
set_option maxRecDepth 20000 in
theorem gX2_written_X5_aboveOf_n70 : GoodIn wsX2_written (wsX5_aboveOf) := ggX2_written_X5_aboveOf
set_option maxRecDepth 20000 in
theorem ggX2_written_X4_addNumber : GoodIn wsX2_written wsX4_addNumber := goodIn_r _ [84, 85, 76, 47, 77, 86, 87, 53, 54, 8, 55, 10, 56, 95, 96] (by decide +kernel) (by decide +kernel)
set_option maxRecDepth 20000 in
theorem gX2_written_X4_addNumber : GoodIn wsX2_written (wsV RX2 74 RX4 yX4_addNumber wsX4_addNumber) := goodIn_app (goodIn_of _ (by decide +kernel)) ggX2_written_X4_addNumber
set_option maxRecDepth 20000 in
theorem ggX2_written_X5_belowOf : GoodIn wsX2_written wsX5_belowOf := goodIn_r _ [89, 72, 73, 70, 74, 75, 76, 47, 77, 78, 79, 80] (by decide +kernel) (by decide +kernel)
set_option maxRecDepth 20000 in
theorem gX2_written_X5_belowOf_n78 : GoodIn wsX2_written (wsX5_belowOf) := ggX2_written_X5_belowOf
theorem dX2_written_0 : decode cX2_written 0 = .ok (.aload_n 0, 1) := by decide +kernel
theorem dX2_written_1 : decode cX2_written 1 = .ok (.getfield 26, 3) := by decide +kernel
theorem dX2_written_4 : decode cX2_written 4 = .ok (.invokevirtual 56, 3) := by decide +kernel
theorem dX2_written_7 : decode cX2_written 7 = .ok (.iconst 0, 1) := by decide +kernel
theorem dX2_written_8 : decode cX2_written 8 = .ok (.istore_n 1, 1) := by decide +kernel
theorem dX2_written_9 : decode cX2_written 9 = .ok (.iload_n 1, 1) := by decide +kernel
theorem dX2_written_10 : decode cX2_written 10 = .ok (.aload_n 0, 1) := by decide +kernel
theorem dX2_written_11 : decode cX2_written 11 = .ok (.getfield 30, 3) := by decide +kernel
theorem dX2_written_14 : decode cX2_written 14 = .ok (.if_icmp .ge 54, 3) := by decide +kernel
theorem dX2_written_17 : decode cX2_written 17 = .ok (.iload_n 1, 1) := by decide +kernel
theorem dX2_written_18 : decode cX2_written 18 = .ok (.ifCond .le 28, 3) := by decide +kernel
theorem dX2_written_21 : decode cX2_written 21 = .ok (.aload_n 0, 1) := by decide +kernel
theorem dX2_written_22 : decode cX2_written 22 = .ok (.getfield 26, 3) := by decide +kernel
theorem dX2_written_25 : decode cX2_written 25 = .ok (.aload_n 0, 1) := by decide +kernel
theorem dX2_written_26 : decode cX2_written 26 = .ok (.aload_n 0, 1) := by decide +kernel
theorem dX2_written_27 : decode cX2_written 27 = .ok (.getfield 9, 3) := by decide +kernel
theorem dX2_written_30 : decode cX2_written 30 = .ok (.iload_n 1, 1) := by decide +kernel
theorem dX2_written_31 : decode cX2_written 31 = .ok (.iconst 1, 1) := by decide +kernel
theorem dX2_written_32 : decode cX2_written 32 = .ok (.isub, 1) := by decide +kernel
theorem dX2_written_33 : decode cX2_written 33 = .ok (.iaload, 1) := by decide +kernel
theorem dX2_written_34 : decode cX2_written 34 = .ok (.aload_n 0, 1) := by decide +kernel
theorem dX2_written_35 : decode cX2_written 35 = .ok (.getfield 9, 3) := by decide +kernel
theorem dX2_written_38 : decode cX2_written 38 = .ok (.iload_n 1, 1) := by decide +kernel
theorem dX2_written_39 : decode cX2_written 39 = .ok (.iaload, 1) := by decide +kernel
theorem dX2_written_40 : decode cX2_written 40 = .ok (.invokevirtual 59, 3) := by decide +kernel
theorem dX2_written_43 : decode cX2_written 43 = .ok (.invokevirtual 63, 3) := by decide +kernel
theorem dX2_written_46 : decode cX2_written 46 = .ok (.aload_n 0, 1) := by decide +kernel
theorem dX2_written_47 : decode cX2_written 47 = .ok (.getfield 26, 3) := by decide +kernel
theorem dX2_written_50 : decode cX2_written 50 = .ok (.bipush 97, 2) := by decide +kernel
theorem dX2_written_52 : decode cX2_written 52 = .ok (.aload_n 0, 1) := by decide +kernel
theorem dX2_written_53 : decode cX2_written 53 = .ok (.getfield 9, 3) := by decide +kernel
theorem dX2_written_56 : decode cX2_written 56 = .ok (.iload_n 1, 1) := by decide +kernel
theorem dX2_written_57 : decode cX2_written 57 = .ok (.iaload, 1) := by decide +kernel
theorem dX2_written_58 : decode cX2_written 58 = .ok (.iadd, 1) := by decide +kernel
theorem dX2_written_59 : decode cX2_written 59 = .ok (.invokevirtual 63, 3) := by decide +kernel
theorem dX2_written_62 : decode cX2_written 62 = .ok (.iinc 1 1, 3) := by decide +kernel
theorem dX2_written_65 : decode cX2_written 65 = .ok (.goto (-56), 3) := by decide +kernel
theorem dX2_written_68 : decode cX2_written 68 = .ok (.aload_n 0, 1) := by decide +kernel
theorem dX2_written_69 : decode cX2_written 69 = .ok (.invokevirtual 67, 3) := by decide +kernel
theorem dX2_written_72 : decode cX2_written 72 = .ok (.lstore_n 1, 1) := by decide +kernel
theorem dX2_written_73 : decode cX2_written 73 = .ok (.aload_n 0, 1) := by decide +kernel
theorem dX2_written_74 : decode cX2_written 74 = .ok (.getfield 26, 3) := by decide +kernel
theorem dX2_written_77 : decode cX2_written 77 = .ok (.bipush 58, 2) := by decide +kernel
theorem dX2_written_79 : decode cX2_written 79 = .ok (.invokevirtual 63, 3) := by decide +kernel
theorem dX2_written_82 : decode cX2_written 82 = .ok (.aload_n 0, 1) := by decide +kernel
theorem dX2_written_83 : decode cX2_written 83 = .ok (.getfield 26, 3) := by decide +kernel
theorem dX2_written_86 : decode cX2_written 86 = .ok (.lload_n 1, 1) := by decide +kernel
theorem dX2_written_87 : decode cX2_written 87 = .ok (.aload_n 0, 1) := by decide +kernel
theorem dX2_written_88 : decode cX2_written 88 = .ok (.getfield 19, 3) := by decide +kernel
theorem dX2_written_91 : decode cX2_written 91 = .ok (.invokevirtual 43, 3) := by decide +kernel
theorem dX2_written_94 : decode cX2_written 94 = .ok (.invokestatic 70, 3) := by decide +kernel
theorem dX2_written_97 : decode cX2_written 97 = .ok (.invokevirtual 74, 3) := by decide +kernel
theorem dX2_written_100 : decode cX2_written 100 = .ok (.aload_n 0, 1) := by decide +kernel
theorem dX2_written_101 : decode cX2_written 101 = .ok (.getfield 26, 3) := by decide +kernel
theorem dX2_written_104 : decode cX2_written 104 = .ok (.bipush 47, 2) := by decide +kernel
theorem dX2_written_106 : decode cX2_written 106 = .ok (.invokevirtual 63, 3) := by decide +kernel
theorem dX2_written_109 : decode cX2_written 109 = .ok (.aload_n 0, 1) := by decide +kernel
theorem dX2_written_110 : decode cX2_written 110 = .ok (.getfield 26, 3) := by decide +kernel
theorem dX2_written_113 : decode cX2_written 113 = .ok (.lload_n 1, 1) := by decide +kernel
theorem dX2_written_114 : decode cX2_written 114 = .ok (.aload_n 0, 1) := by decide +kernel
theorem dX2_written_115 : decode cX2_written 115 = .ok (.getfield 19, 3) := by decide +kernel
theorem dX2_written_118 : decode cX2_written 118 = .ok (.invokevirtual 43, 3) := by decide +kernel
theorem dX2_written_121 : decode cX2_written 121 = .ok (.invokestatic 78, 3) := by decide +kernel
theorem dX2_written_124 : decode cX2_written 124 = .ok (.invokevirtual 74, 3) := by decide +kernel
theorem dX2_written_127 : decode cX2_written 127 = .ok (.aload_n 0, 1) := by decide +kernel
theorem dX2_written_128 : decode cX2_written 128 = .ok (.getfield 26, 3) := by decide +kernel
theorem dX2_written_131 : decode cX2_written 131 = .ok (.areturn, 1) := by decide +kernel
set_option maxRecDepth 20000 in
theorem ggX2_signBetween_X0_leftOverAbove : GoodIn wsX2_signBetween wsX0_leftOverAbove := goodIn_r _ [6, 7, 8, 9, 10, 11, 12, 5, 13, 14, 15, 16, 17, 18, 19, 20, 21, 22, 23, 24, 25, 26, 27, 28, 29, 30, 31, 32, 33, 34, 35, 36, 37, 43, 44, 45, 46, 47, 48, 49, 50, 51, 52, 53, 54, 55, 56] (by decide +kernel) (by decide +kernel)
set_option maxRecDepth 20000 in
theorem gX2_signBetween_X0_leftOverAbove : GoodIn wsX2_signBetween (wsV RX2 81 RX0 yX0_leftOverAbove wsX0_leftOverAbove) := goodIn_app (goodIn_of _ (by decide +kernel)) ggX2_signBetween_X0_leftOverAbove
theorem dX2_signBetween_0 : decode cX2_signBetween 0 = .ok (.aload_n 0, 1) := by decide +kernel
theorem dX2_signBetween_1 : decode cX2_signBetween 1 = .ok (.getfield 19, 3) := by decide +kernel
theorem dX2_signBetween_4 : decode cX2_signBetween 4 = .ok (.iload_n 1, 1) := by decide +kernel
theorem dX2_signBetween_5 : decode cX2_signBetween 5 = .ok (.iload_n 2, 1) := by decide +kernel
theorem dX2_signBetween_6 : decode cX2_signBetween 6 = .ok (.invokevirtual 81, 3) := by decide +kernel
theorem dX2_signBetween_9 : decode cX2_signBetween 9 = .ok (.lstore_n 3, 1) := by decide +kernel
theorem dX2_signBetween_10 : decode cX2_signBetween 10 = .ok (.lload_n 3, 1) := by decide +kernel
theorem dX2_signBetween_11 : decode cX2_signBetween 11 = .ok (.lconst 0, 1) := by decide +kernel
theorem dX2_signBetween_12 : decode cX2_signBetween 12 = .ok (.lcmp, 1) := by decide +kernel
theorem dX2_signBetween_13 : decode cX2_signBetween 13 = .ok (.ifCond .ne 6, 3) := by decide +kernel
theorem dX2_signBetween_16 : decode cX2_signBetween 16 = .ok (.bipush 61, 2) := by decide +kernel
theorem dX2_signBetween_18 : decode cX2_signBetween 18 = .ok (.ireturn, 1) := by decide +kernel
theorem dX2_signBetween_19 : decode cX2_signBetween 19 = .ok (.lload_n 3, 1) := by decide +kernel
theorem dX2_signBetween_20 : decode cX2_signBetween 20 = .ok (.lconst 0, 1) := by decide +kernel
theorem dX2_signBetween_21 : decode cX2_signBetween 21 = .ok (.lcmp, 1) := by decide +kernel
theorem dX2_signBetween_22 : decode cX2_signBetween 22 = .ok (.ifCond .le 8, 3) := by decide +kernel
theorem dX2_signBetween_25 : decode cX2_signBetween 25 = .ok (.bipush 43, 2) := by decide +kernel
theorem dX2_signBetween_27 : decode cX2_signBetween 27 = .ok (.goto 5, 3) := by decide +kernel
theorem dX2_signBetween_30 : decode cX2_signBetween 30 = .ok (.bipush 45, 2) := by decide +kernel
theorem dX2_signBetween_32 : decode cX2_signBetween 32 = .ok (.ireturn, 1) := by decide +kernel
set_option maxRecDepth 20000 in
theorem ggX3_init_X1_init : GoodIn wsX3_init wsX1_init := goodIn_r _ [10, 11, 2, 3, 12, 13, 14, 15, 16, 17, 18, 19, 20, 7, 21, 22, 26, 27, 28, 29, 30, 31] (by decide +kernel) (by decide +kernel)
set_option maxRecDepth 20000 in
theorem gX3_init_X1_init : GoodIn wsX3_init (wsX1_init) := ggX3_init_X1_init
theorem dX3_init_0 : decode cX3_init 0 = .ok (.aload_n 0, 1) := by decide +kernel
theorem dX3_init_1 : decode cX3_init 1 = .ok (.invokespecial 3, 3) := by decide +kernel
theorem dX3_init_4 : decode cX3_init 4 = .ok (.aload_n 0, 1) := by decide +kernel
theorem dX3_init_5 : decode cX3_init 5 = .ok (.bipush 8, 2) := by decide +kernel
theorem dX3_init_7 : decode cX3_init 7 = .ok (.anewarray 9, 3) := by decide +kernel
theorem dX3_init_10 : decode cX3_init 10 = .ok (.putfield 11, 3) := by decide +kernel
theorem dX3_init_13 : decode cX3_init 13 = .ok (.iconst 0, 1) := by decide +kernel
theorem dX3_init_14 : decode cX3_init 14 = .ok (.istore_n 1, 1) := by decide +kernel
theorem dX3_init_15 : decode cX3_init 15 = .ok (.iload_n 1, 1) := by decide +kernel
theorem dX3_init_16 : decode cX3_init 16 = .ok (.bipush 8, 2) := by decide +kernel
theorem dX3_init_18 : decode cX3_init 18 = .ok (.if_icmp .ge 22, 3) := by decide +kernel
theorem dX3_init_21 : decode cX3_init 21 = .ok (.aload_n 0, 1) := by decide +kernel
theorem dX3_init_22 : decode cX3_init 22 = .ok (.getfield 11, 3) := by decide +kernel
theorem dX3_init_25 : decode cX3_init 25 = .ok (.iload_n 1, 1) := by decide +kernel
theorem dX3_init_26 : decode cX3_init 26 = .ok (.new 9, 3) := by decide +kernel
theorem dX3_init_29 : decode cX3_init 29 = .ok (.dup, 1) := by decide +kernel
theorem dX3_init_30 : decode cX3_init 30 = .ok (.invokespecial 17, 3) := by decide +kernel
theorem dX3_init_33 : decode cX3_init 33 = .ok (.aastore, 1) := by decide +kernel
theorem dX3_init_34 : decode cX3_init 34 = .ok (.iinc 1 1, 3) := by decide +kernel
theorem dX3_init_37 : decode cX3_init 37 = .ok (.goto (-22), 3) := by decide +kernel
theorem dX3_init_40 : decode cX3_init 40 = .ok (.return_, 1) := by decide +kernel
set_option maxRecDepth 20000 in
theorem ggX3_remember_X1_takeAll : GoodIn wsX3_remember wsX1_takeAll := goodIn_r _ [12, 13, 14, 15, 16, 17, 18, 19, 20, 21, 22, 26, 27, 28, 29, 30, 31] (by decide +kernel) (by decide +kernel)
set_option maxRecDepth 20000 in
theorem gX3_remember_X1_takeAll : GoodIn wsX3_remember (wsV RX3 22 RX1 yX1_takeAll wsX1_takeAll) := goodIn_app (goodIn_of _ (by decide +kernel)) ggX3_remember_X1_takeAll
theorem dX3_remember_0 : decode cX3_remember 0 = .ok (.aload_n 0, 1) := by decide +kernel
theorem dX3_remember_1 : decode cX3_remember 1 = .ok (.getfield 11, 3) := by decide +kernel
theorem dX3_remember_4 : decode cX3_remember 4 = .ok (.aload_n 0, 1) := by decide +kernel
theorem dX3_remember_5 : decode cX3_remember 5 = .ok (.getfield 18, 3) := by decide +kernel
theorem dX3_remember_8 : decode cX3_remember 8 = .ok (.aaload, 1) := by decide +kernel
theorem dX3_remember_9 : decode cX3_remember 9 = .ok (.aload_n 1, 1) := by decide +kernel
theorem dX3_remember_10 : decode cX3_remember 10 = .ok (.invokevirtual 22, 3) := by decide +kernel
theorem dX3_remember_13 : decode cX3_remember 13 = .ok (.aload_n 0, 1) := by decide +kernel
theorem dX3_remember_14 : decode cX3_remember 14 = .ok (.aload_n 0, 1) := by decide +kernel
theorem dX3_remember_15 : decode cX3_remember 15 = .ok (.getfield 18, 3) := by decide +kernel
theorem dX3_remember_18 : decode cX3_remember 18 = .ok (.iconst 1, 1) := by decide +kernel
theorem dX3_remember_19 : decode cX3_remember 19 = .ok (.iadd, 1) := by decide +kernel
theorem dX3_remember_20 : decode cX3_remember 20 = .ok (.bipush 8, 2) := by decide +kernel
theorem dX3_remember_22 : decode cX3_remember 22 = .ok (.irem, 1) := by decide +kernel
theorem dX3_remember_23 : decode cX3_remember 23 = .ok (.putfield 18, 3) := by decide +kernel
theorem dX3_remember_26 : decode cX3_remember 26 = .ok (.aload_n 0, 1) := by decide +kernel
theorem dX3_remember_27 : decode cX3_remember 27 = .ok (.aload_n 0, 1) := by decide +kernel
theorem dX3_remember_28 : decode cX3_remember 28 = .ok (.getfield 26, 3) := by decide +kernel
theorem dX3_remember_31 : decode cX3_remember 31 = .ok (.iconst 1, 1) := by decide +kernel
theorem dX3_remember_32 : decode cX3_remember 32 = .ok (.iadd, 1) := by decide +kernel
theorem dX3_remember_33 : decode cX3_remember 33 = .ok (.bipush 8, 2) := by decide +kernel
theorem dX3_remember_35 : decode cX3_remember 35 = .ok (.invokestatic 29, 3) := by decide +kernel
theorem dX3_remember_38 : decode cX3_remember 38 = .ok (.putfield 26, 3) := by decide +kernel
theorem dX3_remember_41 : decode cX3_remember 41 = .ok (.return_, 1) := by decide +kernel
set_option maxRecDepth 20000 in
theorem ggX3_giveBack_X1_takeAll : GoodIn wsX3_giveBack wsX1_takeAll := goodIn_r _ [12, 13, 14, 15, 16, 17, 18, 19, 20, 21, 22, 26, 27, 28, 29, 30, 31] (by decide +kernel) (by decide +kernel)
set_option maxRecDepth 20000 in
theorem gX3_giveBack_X1_takeAll : GoodIn wsX3_giveBack (wsV RX3 22 RX1 yX1_takeAll wsX1_takeAll) := goodIn_app (goodIn_of _ (by decide +kernel)) ggX3_giveBack_X1_takeAll
theorem dX3_giveBack_0 : decode cX3_giveBack 0 = .ok (.aload_n 0, 1) := by decide +kernel
theorem dX3_giveBack_1 : decode cX3_giveBack 1 = .ok (.aload_n 0, 1) := by decide +kernel
theorem dX3_giveBack_2 : decode cX3_giveBack 2 = .ok (.getfield 18, 3) := by decide +kernel
theorem dX3_giveBack_5 : decode cX3_giveBack 5 = .ok (.bipush 8, 2) := by decide +kernel
theorem dX3_giveBack_7 : decode cX3_giveBack 7 = .ok (.iadd, 1) := by decide +kernel
theorem dX3_giveBack_8 : decode cX3_giveBack 8 = .ok (.iconst 1, 1) := by decide +kernel
theorem dX3_giveBack_9 : decode cX3_giveBack 9 = .ok (.isub, 1) := by decide +kernel
theorem dX3_giveBack_10 : decode cX3_giveBack 10 = .ok (.bipush 8, 2) := by decide +kernel
theorem dX3_giveBack_12 : decode cX3_giveBack 12 = .ok (.irem, 1) := by decide +kernel
theorem dX3_giveBack_13 : decode cX3_giveBack 13 = .ok (.putfield 18, 3) := by decide +kernel
theorem dX3_giveBack_16 : decode cX3_giveBack 16 = .ok (.aload_n 0, 1) := by decide +kernel
theorem dX3_giveBack_17 : decode cX3_giveBack 17 = .ok (.aload_n 0, 1) := by decide +kernel
theorem dX3_giveBack_18 : decode cX3_giveBack 18 = .ok (.getfield 26, 3) := by decide +kernel
theorem dX3_giveBack_21 : decode cX3_giveBack 21 = .ok (.iconst 1, 1) := by decide +kernel
theorem dX3_giveBack_22 : decode cX3_giveBack 22 = .ok (.isub, 1) := by decide +kernel
theorem dX3_giveBack_23 : decode cX3_giveBack 23 = .ok (.iconst 0, 1) := by decide +kernel
theorem dX3_giveBack_24 : decode cX3_giveBack 24 = .ok (.invokestatic 35, 3) := by decide +kernel
theorem dX3_giveBack_27 : decode cX3_giveBack 27 = .ok (.putfield 26, 3) := by decide +kernel
theorem dX3_giveBack_30 : decode cX3_giveBack 30 = .ok (.aload_n 1, 1) := by decide +kernel
theorem dX3_giveBack_31 : decode cX3_giveBack 31 = .ok (.aload_n 0, 1) := by decide +kernel
theorem dX3_giveBack_32 : decode cX3_giveBack 32 = .ok (.getfield 11, 3) := by decide +kernel
theorem dX3_giveBack_35 : decode cX3_giveBack 35 = .ok (.aload_n 0, 1) := by decide +kernel
theorem dX3_giveBack_36 : decode cX3_giveBack 36 = .ok (.getfield 18, 3) := by decide +kernel
theorem dX3_giveBack_39 : decode cX3_giveBack 39 = .ok (.aaload, 1) := by decide +kernel
theorem dX3_giveBack_40 : decode cX3_giveBack 40 = .ok (.invokevirtual 22, 3) := by decide +kernel
theorem dX3_giveBack_43 : decode cX3_giveBack 43 = .ok (.return_, 1) := by decide +kernel
theorem dX3_forget_0 : decode cX3_forget 0 = .ok (.aload_n 0, 1) := by decide +kernel
theorem dX3_forget_1 : decode cX3_forget 1 = .ok (.iconst 0, 1) := by decide +kernel
theorem dX3_forget_2 : decode cX3_forget 2 = .ok (.putfield 26, 3) := by decide +kernel
theorem dX3_forget_5 : decode cX3_forget 5 = .ok (.return_, 1) := by decide +kernel
theorem dX4_init_0 : decode cX4_init 0 = .ok (.aload_n 0, 1) := by decide +kernel
theorem dX4_init_1 : decode cX4_init 1 = .ok (.invokespecial 3, 3) := by decide +kernel
theorem dX4_init_4 : decode cX4_init 4 = .ok (.aload_n 0, 1) := by decide +kernel
theorem dX4_init_5 : decode cX4_init 5 = .ok (.bipush 96, 2) := by decide +kernel
theorem dX4_init_7 : decode cX4_init 7 = .ok (.newarray .int, 2) := by decide +kernel
theorem dX4_init_9 : decode cX4_init 9 = .ok (.putfield 9, 3) := by decide +kernel
theorem dX4_init_12 : decode cX4_init 12 = .ok (.return_, 1) := by decide +kernel
theorem dX4_makeEmpty_0 : decode cX4_makeEmpty 0 = .ok (.aload_n 0, 1) := by decide +kernel
theorem dX4_makeEmpty_1 : decode cX4_makeEmpty 1 = .ok (.iconst 0, 1) := by decide +kernel
theorem dX4_makeEmpty_2 : decode cX4_makeEmpty 2 = .ok (.putfield 15, 3) := by decide +kernel
theorem dX4_makeEmpty_5 : decode cX4_makeEmpty 5 = .ok (.return_, 1) := by decide +kernel
theorem dX4_addSign_0 : decode cX4_addSign 0 = .ok (.aload_n 0, 1) := by decide +kernel
theorem dX4_addSign_1 : decode cX4_addSign 1 = .ok (.getfield 15, 3) := by decide +kernel
theorem dX4_addSign_4 : decode cX4_addSign 4 = .ok (.aload_n 0, 1) := by decide +kernel
theorem dX4_addSign_5 : decode cX4_addSign 5 = .ok (.getfield 9, 3) := by decide +kernel
theorem dX4_addSign_8 : decode cX4_addSign 8 = .ok (.arraylength, 1) := by decide +kernel
theorem dX4_addSign_9 : decode cX4_addSign 9 = .ok (.if_icmp .ge 23, 3) := by decide +kernel
theorem dX4_addSign_12 : decode cX4_addSign 12 = .ok (.aload_n 0, 1) := by decide +kernel
theorem dX4_addSign_13 : decode cX4_addSign 13 = .ok (.getfield 9, 3) := by decide +kernel
theorem dX4_addSign_16 : decode cX4_addSign 16 = .ok (.aload_n 0, 1) := by decide +kernel
theorem dX4_addSign_17 : decode cX4_addSign 17 = .ok (.getfield 15, 3) := by decide +kernel
theorem dX4_addSign_20 : decode cX4_addSign 20 = .ok (.iload_n 1, 1) := by decide +kernel
theorem dX4_addSign_21 : decode cX4_addSign 21 = .ok (.iastore, 1) := by decide +kernel
theorem dX4_addSign_22 : decode cX4_addSign 22 = .ok (.aload_n 0, 1) := by decide +kernel
theorem dX4_addSign_23 : decode cX4_addSign 23 = .ok (.dup, 1) := by decide +kernel
theorem dX4_addSign_24 : decode cX4_addSign 24 = .ok (.getfield 15, 3) := by decide +kernel
theorem dX4_addSign_27 : decode cX4_addSign 27 = .ok (.iconst 1, 1) := by decide +kernel
theorem dX4_addSign_28 : decode cX4_addSign 28 = .ok (.iadd, 1) := by decide +kernel
theorem dX4_addSign_29 : decode cX4_addSign 29 = .ok (.putfield 15, 3) := by decide +kernel
theorem dX4_addSign_32 : decode cX4_addSign 32 = .ok (.return_, 1) := by decide +kernel
set_option maxRecDepth 20000 in
theorem ggX4_addNumber_X4_addSign : GoodIn wsX4_addNumber wsX4_addSign := goodIn_r _ [10, 11, 12, 13, 14] (by decide +kernel) (by decide +kernel)
set_option maxRecDepth 20000 in
theorem gX4_addNumber_X4_addSign : GoodIn wsX4_addNumber (wsV RX4 19 RX4 yX4_addSign wsX4_addSign) := goodIn_app (goodIn_of _ (by decide +kernel)) ggX4_addNumber_X4_addSign
theorem dX4_addNumber_0 : decode cX4_addNumber 0 = .ok (.lload_n 1, 1) := by decide +kernel
theorem dX4_addNumber_1 : decode cX4_addNumber 1 = .ok (.lconst 0, 1) := by decide +kernel
theorem dX4_addNumber_2 : decode cX4_addNumber 2 = .ok (.lcmp, 1) := by decide +kernel
theorem dX4_addNumber_3 : decode cX4_addNumber 3 = .ok (.ifCond .ge 9, 3) := by decide +kernel
theorem dX4_addNumber_6 : decode cX4_addNumber 6 = .ok (.aload_n 0, 1) := by decide +kernel
theorem dX4_addNumber_7 : decode cX4_addNumber 7 = .ok (.bipush 45, 2) := by decide +kernel
theorem dX4_addNumber_9 : decode cX4_addNumber 9 = .ok (.invokevirtual 19, 3) := by decide +kernel
theorem dX4_addNumber_12 : decode cX4_addNumber 12 = .ok (.lload_n 1, 1) := by decide +kernel
theorem dX4_addNumber_13 : decode cX4_addNumber 13 = .ok (.invokestatic 23, 3) := by decide +kernel
theorem dX4_addNumber_16 : decode cX4_addNumber 16 = .ok (.lstore_n 3, 1) := by decide +kernel
theorem dX4_addNumber_17 : decode cX4_addNumber 17 = .ok (.lconst 1, 1) := by decide +kernel
theorem dX4_addNumber_18 : decode cX4_addNumber 18 = .ok (.lstore 5, 2) := by decide +kernel
theorem dX4_addNumber_20 : decode cX4_addNumber 20 = .ok (.iconst 0, 1) := by decide +kernel
theorem dX4_addNumber_21 : decode cX4_addNumber 21 = .ok (.istore 7, 2) := by decide +kernel
theorem dX4_addNumber_23 : decode cX4_addNumber 23 = .ok (.iload 7, 2) := by decide +kernel
theorem dX4_addNumber_25 : decode cX4_addNumber 25 = .ok (.bipush 18, 2) := by decide +kernel
theorem dX4_addNumber_27 : decode cX4_addNumber 27 = .ok (.if_icmp .ge 28, 3) := by decide +kernel
theorem dX4_addNumber_30 : decode cX4_addNumber 30 = .ok (.lload_n 3, 1) := by decide +kernel
theorem dX4_addNumber_31 : decode cX4_addNumber 31 = .ok (.lload 5, 2) := by decide +kernel
theorem dX4_addNumber_33 : decode cX4_addNumber 33 = .ok (.ldiv, 1) := by decide +kernel
theorem dX4_addNumber_34 : decode cX4_addNumber 34 = .ok (.ldc2_w 29, 3) := by decide +kernel
theorem dX4_addNumber_37 : decode cX4_addNumber 37 = .ok (.lcmp, 1) := by decide +kernel
theorem dX4_addNumber_38 : decode cX4_addNumber 38 = .ok (.ifCond .lt 17, 3) := by decide +kernel
theorem dX4_addNumber_41 : decode cX4_addNumber 41 = .ok (.lload 5, 2) := by decide +kernel
theorem dX4_addNumber_43 : decode cX4_addNumber 43 = .ok (.ldc2_w 29, 3) := by decide +kernel
theorem dX4_addNumber_46 : decode cX4_addNumber 46 = .ok (.lmul, 1) := by decide +kernel
theorem dX4_addNumber_47 : decode cX4_addNumber 47 = .ok (.lstore 5, 2) := by decide +kernel
theorem dX4_addNumber_49 : decode cX4_addNumber 49 = .ok (.iinc 7 1, 3) := by decide +kernel
theorem dX4_addNumber_52 : decode cX4_addNumber 52 = .ok (.goto (-29), 3) := by decide +kernel
theorem dX4_addNumber_55 : decode cX4_addNumber 55 = .ok (.iconst 0, 1) := by decide +kernel
theorem dX4_addNumber_56 : decode cX4_addNumber 56 = .ok (.istore 7, 2) := by decide +kernel
theorem dX4_addNumber_58 : decode cX4_addNumber 58 = .ok (.iload 7, 2) := by decide +kernel
theorem dX4_addNumber_60 : decode cX4_addNumber 60 = .ok (.bipush 19, 2) := by decide +kernel
theorem dX4_addNumber_62 : decode cX4_addNumber 62 = .ok (.if_icmp .ge 40, 3) := by decide +kernel
theorem dX4_addNumber_65 : decode cX4_addNumber 65 = .ok (.lload 5, 2) := by decide +kernel
theorem dX4_addNumber_67 : decode cX4_addNumber 67 = .ok (.lconst 0, 1) := by decide +kernel
theorem dX4_addNumber_68 : decode cX4_addNumber 68 = .ok (.lcmp, 1) := by decide +kernel
theorem dX4_addNumber_69 : decode cX4_addNumber 69 = .ok (.ifCond .le 33, 3) := by decide +kernel
theorem dX4_addNumber_72 : decode cX4_addNumber 72 = .ok (.aload_n 0, 1) := by decide +kernel
theorem dX4_addNumber_73 : decode cX4_addNumber 73 = .ok (.bipush 48, 2) := by decide +kernel
theorem dX4_addNumber_75 : decode cX4_addNumber 75 = .ok (.lload_n 3, 1) := by decide +kernel
theorem dX4_addNumber_76 : decode cX4_addNumber 76 = .ok (.lload 5, 2) := by decide +kernel
theorem dX4_addNumber_78 : decode cX4_addNumber 78 = .ok (.ldiv, 1) := by decide +kernel
theorem dX4_addNumber_79 : decode cX4_addNumber 79 = .ok (.ldc2_w 29, 3) := by decide +kernel
theorem dX4_addNumber_82 : decode cX4_addNumber 82 = .ok (.lrem, 1) := by decide +kernel
theorem dX4_addNumber_83 : decode cX4_addNumber 83 = .ok (.l2i, 1) := by decide +kernel
theorem dX4_addNumber_84 : decode cX4_addNumber 84 = .ok (.iadd, 1) := by decide +kernel
theorem dX4_addNumber_85 : decode cX4_addNumber 85 = .ok (.invokevirtual 19, 3) := by decide +kernel
theorem dX4_addNumber_88 : decode cX4_addNumber 88 = .ok (.lload 5, 2) := by decide +kernel
theorem dX4_addNumber_90 : decode cX4_addNumber 90 = .ok (.ldc2_w 29, 3) := by decide +kernel
theorem dX4_addNumber_93 : decode cX4_addNumber 93 = .ok (.ldiv, 1) := by decide +kernel
theorem dX4_addNumber_94 : decode cX4_addNumber 94 = .ok (.lstore 5, 2) := by decide +kernel
theorem dX4_addNumber_96 : decode cX4_addNumber 96 = .ok (.iinc 7 1, 3) := by decide +kernel
theorem dX4_addNumber_99 : decode cX4_addNumber 99 = .ok (.goto (-41), 3) := by decide +kernel
theorem dX4_addNumber_102 : decode cX4_addNumber 102 = .ok (.return_, 1) := by decide +kernel
set_option maxRecDepth 20000 in
theorem ggX4_signAt_X5_within : GoodIn wsX4_signAt wsX5_within := goodIn_r _ [5] (by decide +kernel) (by decide +kernel)
set_option maxRecDepth 20000 in
theorem gX4_signAt_X5_within_n31 : GoodIn wsX4_signAt (wsX5_within) := ggX4_signAt_X5_within
theorem dX4_signAt_0 : decode cX4_signAt 0 = .ok (.iload_n 1, 1) := by decide +kernel
theorem dX4_signAt_1 : decode cX4_signAt 1 = .ok (.iconst 0, 1) := by decide +kernel
theorem dX4_signAt_2 : decode cX4_signAt 2 = .ok (.aload_n 0, 1) := by decide +kernel
theorem dX4_signAt_3 : decode cX4_signAt 3 = .ok (.getfield 15, 3) := by decide +kernel
theorem dX4_signAt_6 : decode cX4_signAt 6 = .ok (.iconst 1, 1) := by decide +kernel
theorem dX4_signAt_7 : decode cX4_signAt 7 = .ok (.isub, 1) := by decide +kernel
theorem dX4_signAt_8 : decode cX4_signAt 8 = .ok (.invokestatic 31, 3) := by decide +kernel
theorem dX4_signAt_11 : decode cX4_signAt 11 = .ok (.ifCond .eq 12, 3) := by decide +kernel
theorem dX4_signAt_14 : decode cX4_signAt 14 = .ok (.aload_n 0, 1) := by decide +kernel
theorem dX4_signAt_15 : decode cX4_signAt 15 = .ok (.getfield 9, 3) := by decide +kernel
theorem dX4_signAt_18 : decode cX4_signAt 18 = .ok (.iload_n 1, 1) := by decide +kernel
theorem dX4_signAt_19 : decode cX4_signAt 19 = .ok (.iaload, 1) := by decide +kernel
theorem dX4_signAt_20 : decode cX4_signAt 20 = .ok (.goto 4, 3) := by decide +kernel
theorem dX4_signAt_23 : decode cX4_signAt 23 = .ok (.iconst (-1), 1) := by decide +kernel
theorem dX4_signAt_24 : decode cX4_signAt 24 = .ok (.ireturn, 1) := by decide +kernel
set_option maxRecDepth 20000 in
theorem ggX5_init_X1_init : GoodIn wsX5_init wsX1_init := goodIn_r _ [25, 26, 2, 3, 27, 28, 29, 30, 31, 32, 33, 34, 35, 6, 36, 37, 74, 75, 76, 77, 78, 79] (by decide +kernel) (by decide +kernel)
set_option maxRecDepth 20000 in
theorem gX5_init_X1_init : GoodIn wsX5_init (wsX1_init) := ggX5_init_X1_init
set_option maxRecDepth 20000 in
theorem ggX5_init_X0_init : GoodIn wsX5_init wsX0_init := goodIn_r _ [40, 41, 2, 3, 42, 43, 44, 45, 21, 46, 47, 48, 49, 50, 86, 87, 88, 89, 90, 91, 92, 93] (by decide +kernel) (by decide +kernel)
set_option maxRecDepth 20000 in
theorem gX5_init_X0_init : GoodIn wsX5_init (wsX0_init) := ggX5_init_X0_init
set_option maxRecDepth 20000 in
theorem ggX5_init_X3_init : GoodIn wsX5_init wsX3_init := goodIn_r _ [53, 54, 2, 3, 55, 56, 5, 6, 57, 24, 25, 26, 27, 28, 29, 30, 31, 32, 33, 34, 35, 36, 37, 94, 95, 96, 74, 75, 76, 77, 78, 79] (by decide +kernel) (by decide +kernel)
set_option maxRecDepth 20000 in
theorem gX5_init_X3_init : GoodIn wsX5_init (wsX3_init) := ggX5_init_X3_init
set_option maxRecDepth 20000 in
theorem ggX5_init_X2_init : GoodIn wsX5_init wsX2_init := goodIn_r _ [60, 61, 2, 3, 29, 62, 63, 64, 65, 66, 67, 68, 69, 70, 71, 72, 73, 97, 98, 99, 100, 101, 102, 103] (by decide +kernel) (by decide +kernel)
set_option maxRecDepth 20000 in
theorem gX5_init_X2_init : GoodIn wsX5_init (wsX2_init) := ggX5_init_X2_init
theorem dX5_init_0 : decode cX5_init 0 = .ok (.aload_n 0, 1) := by decide +kernel
theorem dX5_init_1 : decode cX5_init 1 = .ok (.invokespecial 3, 3) := by decide +kernel
theorem dX5_init_4 : decode cX5_init 4 = .ok (.aload_n 0, 1) := by decide +kernel
theorem dX5_init_5 : decode cX5_init 5 = .ok (.new 9, 3) := by decide +kernel
theorem dX5_init_8 : decode cX5_init 8 = .ok (.dup, 1) := by decide +kernel
theorem dX5_init_9 : decode cX5_init 9 = .ok (.invokespecial 11, 3) := by decide +kernel
theorem dX5_init_12 : decode cX5_init 12 = .ok (.putfield 12, 3) := by decide +kernel
theorem dX5_init_15 : decode cX5_init 15 = .ok (.aload_n 0, 1) := by decide +kernel
theorem dX5_init_16 : decode cX5_init 16 = .ok (.new 16, 3) := by decide +kernel
theorem dX5_init_19 : decode cX5_init 19 = .ok (.dup, 1) := by decide +kernel
theorem dX5_init_20 : decode cX5_init 20 = .ok (.aload_n 0, 1) := by decide +kernel
theorem dX5_init_21 : decode cX5_init 21 = .ok (.getfield 12, 3) := by decide +kernel
theorem dX5_init_24 : decode cX5_init 24 = .ok (.invokespecial 18, 3) := by decide +kernel
theorem dX5_init_27 : decode cX5_init 27 = .ok (.putfield 21, 3) := by decide +kernel
theorem dX5_init_30 : decode cX5_init 30 = .ok (.aload_n 0, 1) := by decide +kernel
theorem dX5_init_31 : decode cX5_init 31 = .ok (.new 25, 3) := by decide +kernel
theorem dX5_init_34 : decode cX5_init 34 = .ok (.dup, 1) := by decide +kernel
theorem dX5_init_35 : decode cX5_init 35 = .ok (.invokespecial 27, 3) := by decide +kernel
theorem dX5_init_38 : decode cX5_init 38 = .ok (.putfield 28, 3) := by decide +kernel
theorem dX5_init_41 : decode cX5_init 41 = .ok (.aload_n 0, 1) := by decide +kernel
theorem dX5_init_42 : decode cX5_init 42 = .ok (.new 32, 3) := by decide +kernel
theorem dX5_init_45 : decode cX5_init 45 = .ok (.dup, 1) := by decide +kernel
theorem dX5_init_46 : decode cX5_init 46 = .ok (.aload_n 0, 1) := by decide +kernel
theorem dX5_init_47 : decode cX5_init 47 = .ok (.getfield 12, 3) := by decide +kernel
theorem dX5_init_50 : decode cX5_init 50 = .ok (.aload_n 0, 1) := by decide +kernel
theorem dX5_init_51 : decode cX5_init 51 = .ok (.getfield 21, 3) := by decide +kernel
theorem dX5_init_54 : decode cX5_init 54 = .ok (.invokespecial 34, 3) := by decide +kernel
theorem dX5_init_57 : decode cX5_init 57 = .ok (.putfield 37, 3) := by decide +kernel
theorem dX5_init_60 : decode cX5_init 60 = .ok (.aload_n 0, 1) := by decide +kernel
theorem dX5_init_61 : decode cX5_init 61 = .ok (.iconst 2, 1) := by decide +kernel
theorem dX5_init_62 : decode cX5_init 62 = .ok (.anewarray 9, 3) := by decide +kernel
theorem dX5_init_65 : decode cX5_init 65 = .ok (.putfield 41, 3) := by decide +kernel
theorem dX5_init_68 : decode cX5_init 68 = .ok (.aload_n 0, 1) := by decide +kernel
theorem dX5_init_69 : decode cX5_init 69 = .ok (.iconst 2, 1) := by decide +kernel
theorem dX5_init_70 : decode cX5_init 70 = .ok (.newarray .boolean, 2) := by decide +kernel
theorem dX5_init_72 : decode cX5_init 72 = .ok (.putfield 45, 3) := by decide +kernel
theorem dX5_init_75 : decode cX5_init 75 = .ok (.iconst 0, 1) := by decide +kernel
theorem dX5_init_76 : decode cX5_init 76 = .ok (.istore_n 1, 1) := by decide +kernel
theorem dX5_init_77 : decode cX5_init 77 = .ok (.iload_n 1, 1) := by decide +kernel
theorem dX5_init_78 : decode cX5_init 78 = .ok (.iconst 2, 1) := by decide +kernel
theorem dX5_init_79 : decode cX5_init 79 = .ok (.if_icmp .ge 22, 3) := by decide +kernel
theorem dX5_init_82 : decode cX5_init 82 = .ok (.aload_n 0, 1) := by decide +kernel
theorem dX5_init_83 : decode cX5_init 83 = .ok (.getfield 41, 3) := by decide +kernel
theorem dX5_init_86 : decode cX5_init 86 = .ok (.iload_n 1, 1) := by decide +kernel
theorem dX5_init_87 : decode cX5_init 87 = .ok (.new 9, 3) := by decide +kernel
theorem dX5_init_90 : decode cX5_init 90 = .ok (.dup, 1) := by decide +kernel
theorem dX5_init_91 : decode cX5_init 91 = .ok (.invokespecial 11, 3) := by decide +kernel
theorem dX5_init_94 : decode cX5_init 94 = .ok (.aastore, 1) := by decide +kernel
theorem dX5_init_95 : decode cX5_init 95 = .ok (.iinc 1 1, 3) := by decide +kernel
theorem dX5_init_98 : decode cX5_init 98 = .ok (.goto (-21), 3) := by decide +kernel
theorem dX5_init_101 : decode cX5_init 101 = .ok (.return_, 1) := by decide +kernel
set_option maxRecDepth 20000 in
theorem ggX5_letters_X5_within : GoodIn wsX5_letters wsX5_within := goodIn_r _ [8] (by decide +kernel) (by decide +kernel)
set_option maxRecDepth 20000 in
theorem gX5_letters_X5_within : GoodIn wsX5_letters (va_wsS RX5 49 yX5_within wsX5_within) := goodIn_app (goodIn_of _ (by decide +kernel)) ggX5_letters_X5_within
set_option maxRecDepth 20000 in
theorem ggX5_letters_X5_beginChange : GoodIn wsX5_letters wsX5_beginChange := goodIn_r _ [12, 13, 2, 14, 15, 16, 17, 18, 19, 20, 21, 22, 23, 24, 25, 26, 27, 28, 29, 30, 31, 32, 33, 34, 35, 36, 37, 38, 39, 40, 41, 42, 43, 44, 45, 46, 47, 58, 59, 60, 61, 62, 63, 70, 71, 72, 64, 65, 66, 67, 68, 69, 73, 74, 75, 76, 77, 78, 79, 80] (by decide +kernel) (by decide +kernel)
set_option maxRecDepth 20000 in
theorem gX5_letters_X5_beginChange : GoodIn wsX5_letters (wsV RX5 54 RX5 yX5_beginChange wsX5_beginChange) := goodIn_app (goodIn_of _ (by decide +kernel)) ggX5_letters_X5_beginChange
set_option maxRecDepth 20000 in
theorem ggX5_letters_X1_startAnew : GoodIn wsX5_letters wsX1_startAnew := goodIn_r _ [51, 32, 35, 40, 41, 64, 65, 66, 67, 68, 69] (by decide +kernel) (by decide +kernel)
set_option maxRecDepth 20000 in
theorem gX5_letters_X1_startAnew : GoodIn wsX5_letters (wsV RX5 61 RX1 yX1_startAnew wsX1_startAnew) := goodIn_app (goodIn_of _ (by decide +kernel)) ggX5_letters_X1_startAnew
set_option maxRecDepth 20000 in
theorem ggX5_letters_X2_makeEmpty : GoodIn wsX5_letters wsX2_makeEmpty := goodIn_r _ [56, 57, 81, 82, 83, 84, 85] (by decide +kernel) (by decide +kernel)
set_option maxRecDepth 20000 in
theorem gX5_letters_X2_makeEmpty : GoodIn wsX5_letters (wsV RX5 65 RX2 yX2_makeEmpty wsX2_makeEmpty) := goodIn_app (goodIn_of _ (by decide +kernel)) ggX5_letters_X2_makeEmpty
theorem dX5_letters_0 : decode cX5_letters 0 = .ok (.iload_n 1, 1) := by decide +kernel
theorem dX5_letters_1 : decode cX5_letters 1 = .ok (.iconst 1, 1) := by decide +kernel
theorem dX5_letters_2 : decode cX5_letters 2 = .ok (.iconst 3, 1) := by decide +kernel
theorem dX5_letters_3 : decode cX5_letters 3 = .ok (.invokestatic 49, 3) := by decide +kernel
theorem dX5_letters_6 : decode cX5_letters 6 = .ok (.ifCond .ne 6, 3) := by decide +kernel
theorem dX5_letters_9 : decode cX5_letters 9 = .ok (.ldc 53, 2) := by decide +kernel
theorem dX5_letters_11 : decode cX5_letters 11 = .ok (.ireturn, 1) := by decide +kernel
theorem dX5_letters_12 : decode cX5_letters 12 = .ok (.aload_n 0, 1) := by decide +kernel
theorem dX5_letters_13 : decode cX5_letters 13 = .ok (.invokevirtual 54, 3) := by decide +kernel
theorem dX5_letters_16 : decode cX5_letters 16 = .ok (.aload_n 0, 1) := by decide +kernel
theorem dX5_letters_17 : decode cX5_letters 17 = .ok (.getfield 12, 3) := by decide +kernel
theorem dX5_letters_20 : decode cX5_letters 20 = .ok (.getfield 57, 3) := by decide +kernel
theorem dX5_letters_23 : decode cX5_letters 23 = .ok (.istore_n 2, 1) := by decide +kernel
theorem dX5_letters_24 : decode cX5_letters 24 = .ok (.aload_n 0, 1) := by decide +kernel
theorem dX5_letters_25 : decode cX5_letters 25 = .ok (.getfield 12, 3) := by decide +kernel
theorem dX5_letters_28 : decode cX5_letters 28 = .ok (.iload_n 1, 1) := by decide +kernel
theorem dX5_letters_29 : decode cX5_letters 29 = .ok (.invokevirtual 61, 3) := by decide +kernel
theorem dX5_letters_32 : decode cX5_letters 32 = .ok (.aload_n 0, 1) := by decide +kernel
theorem dX5_letters_33 : decode cX5_letters 33 = .ok (.getfield 37, 3) := by decide +kernel
theorem dX5_letters_36 : decode cX5_letters 36 = .ok (.invokevirtual 65, 3) := by decide +kernel
theorem dX5_letters_39 : decode cX5_letters 39 = .ok (.iload_n 2, 1) := by decide +kernel
theorem dX5_letters_40 : decode cX5_letters 40 = .ok (.ireturn, 1) := by decide +kernel
set_option maxRecDepth 20000 in
theorem ggX5_side_X1_hasLetter : GoodIn wsX5_side wsX1_hasLetter := goodIn_r _ [8, 9, 10, 11, 12, 74, 75, 76, 77, 78, 79] (by decide +kernel) (by decide +kernel)
set_option maxRecDepth 20000 in
theorem gX5_side_X1_hasLetter : GoodIn wsX5_side (wsV RX5 68 RX1 yX1_hasLetter wsX1_hasLetter) := goodIn_app (goodIn_of _ (by decide +kernel)) ggX5_side_X1_hasLetter
set_option maxRecDepth 20000 in
theorem ggX5_side_X5_isHeight : GoodIn wsX5_side wsX5_isHeight := goodIn_r _ [15, 16, 10, 11, 12] (by decide +kernel) (by decide +kernel)
set_option maxRecDepth 20000 in
theorem gX5_side_X5_isHeight : GoodIn wsX5_side (va_wsS RX5 72 yX5_isHeight wsX5_isHeight) := goodIn_app (goodIn_of _ (by decide +kernel)) ggX5_side_X5_isHeight
set_option maxRecDepth 20000 in
theorem ggX5_side_X5_isSide : GoodIn wsX5_side wsX5_isSide := goodIn_r _ [19, 16, 10, 11, 12] (by decide +kernel) (by decide +kernel)
set_option maxRecDepth 20000 in
theorem gX5_side_X5_isSide : GoodIn wsX5_side (va_wsS RX5 76 yX5_isSide wsX5_isSide) := goodIn_app (goodIn_of _ (by decide +kernel)) ggX5_side_X5_isSide
set_option maxRecDepth 20000 in
theorem ggX5_side_X5_within : GoodIn wsX5_side wsX5_within := goodIn_r _ [12] (by decide +kernel) (by decide +kernel)
set_option maxRecDepth 20000 in
theorem gX5_side_X5_within : GoodIn wsX5_side (va_wsS RX5 49 yX5_within wsX5_within) := goodIn_app (goodIn_of _ (by decide +kernel)) ggX5_side_X5_within
set_option maxRecDepth 20000 in
theorem ggX5_side_X5_beginChange : GoodIn wsX5_side wsX5_beginChange := goodIn_r _ [23, 24, 1, 25, 26, 27, 28, 29, 30, 31, 32, 33, 34, 35, 36, 37, 38, 39, 40, 7, 41, 9, 42, 43, 44, 45, 46, 47, 48, 49, 50, 51, 52, 53, 54, 55, 56, 68, 69, 70, 71, 72, 73, 80, 81, 82, 74, 75, 76, 77, 78, 79, 83, 84, 85, 86, 87, 88, 89, 90] (by decide +kernel) (by decide +kernel)
set_option maxRecDepth 20000 in
theorem gX5_side_X5_beginChange : GoodIn wsX5_side (wsV RX5 54 RX5 yX5_beginChange wsX5_beginChange) := goodIn_app (goodIn_of _ (by decide +kernel)) ggX5_side_X5_beginChange
set_option maxRecDepth 20000 in
theorem ggX5_side_X1_backOf : GoodIn wsX5_side wsX1_backOf := goodIn_r _ [60, 49, 61, 62, 7, 63, 74, 75, 76, 77, 78, 79] (by decide +kernel) (by decide +kernel)
set_option maxRecDepth 20000 in
theorem gX5_side_X1_backOf : GoodIn wsX5_side (wsV RX5 79 RX1 yX1_backOf wsX1_backOf) := goodIn_app (goodIn_of _ (by decide +kernel)) ggX5_side_X1_backOf
set_option maxRecDepth 20000 in
theorem ggX5_side_X1_putBack : GoodIn wsX5_side wsX1_putBack := goodIn_r _ [67, 49, 61, 62, 7, 63, 74, 75, 76, 77, 78, 79] (by decide +kernel) (by decide +kernel)
set_option maxRecDepth 20000 in
theorem gX5_side_X1_putBack : GoodIn wsX5_side (wsV RX5 83 RX1 yX1_putBack wsX1_putBack) := goodIn_app (goodIn_of _ (by decide +kernel)) ggX5_side_X1_putBack
theorem dX5_side_0 : decode cX5_side 0 = .ok (.aload_n 0, 1) := by decide +kernel
theorem dX5_side_1 : decode cX5_side 1 = .ok (.getfield 12, 3) := by decide +kernel
theorem dX5_side_4 : decode cX5_side 4 = .ok (.iload_n 1, 1) := by decide +kernel
theorem dX5_side_5 : decode cX5_side 5 = .ok (.invokevirtual 68, 3) := by decide +kernel
theorem dX5_side_8 : decode cX5_side 8 = .ok (.ifCond .eq 10, 3) := by decide +kernel
theorem dX5_side_11 : decode cX5_side 11 = .ok (.iload_n 3, 1) := by decide +kernel
theorem dX5_side_12 : decode cX5_side 12 = .ok (.invokestatic 72, 3) := by decide +kernel
theorem dX5_side_15 : decode cX5_side 15 = .ok (.ifCond .ne 6, 3) := by decide +kernel
theorem dX5_side_18 : decode cX5_side 18 = .ok (.ldc 75, 2) := by decide +kernel
theorem dX5_side_20 : decode cX5_side 20 = .ok (.ireturn, 1) := by decide +kernel
theorem dX5_side_21 : decode cX5_side 21 = .ok (.iload_n 2, 1) := by decide +kernel
theorem dX5_side_22 : decode cX5_side 22 = .ok (.invokestatic 76, 3) := by decide +kernel
theorem dX5_side_25 : decode cX5_side 25 = .ok (.ifCond .eq 14, 3) := by decide +kernel
theorem dX5_side_28 : decode cX5_side 28 = .ok (.iload 4, 2) := by decide +kernel
theorem dX5_side_30 : decode cX5_side 30 = .ok (.iconst 0, 1) := by decide +kernel
theorem dX5_side_31 : decode cX5_side 31 = .ok (.bipush 30, 2) := by decide +kernel
theorem dX5_side_33 : decode cX5_side 33 = .ok (.invokestatic 49, 3) := by decide +kernel
theorem dX5_side_36 : decode cX5_side 36 = .ok (.ifCond .ne 6, 3) := by decide +kernel
theorem dX5_side_39 : decode cX5_side 39 = .ok (.ldc 53, 2) := by decide +kernel
theorem dX5_side_41 : decode cX5_side 41 = .ok (.ireturn, 1) := by decide +kernel
theorem dX5_side_42 : decode cX5_side 42 = .ok (.aload_n 0, 1) := by decide +kernel
theorem dX5_side_43 : decode cX5_side 43 = .ok (.invokevirtual 54, 3) := by decide +kernel
theorem dX5_side_46 : decode cX5_side 46 = .ok (.aload_n 0, 1) := by decide +kernel
theorem dX5_side_47 : decode cX5_side 47 = .ok (.getfield 12, 3) := by decide +kernel
theorem dX5_side_50 : decode cX5_side 50 = .ok (.iload_n 1, 1) := by decide +kernel
theorem dX5_side_51 : decode cX5_side 51 = .ok (.iload_n 2, 1) := by decide +kernel
theorem dX5_side_52 : decode cX5_side 52 = .ok (.iload_n 3, 1) := by decide +kernel
theorem dX5_side_53 : decode cX5_side 53 = .ok (.invokevirtual 79, 3) := by decide +kernel
theorem dX5_side_56 : decode cX5_side 56 = .ok (.istore 5, 2) := by decide +kernel
theorem dX5_side_58 : decode cX5_side 58 = .ok (.aload_n 0, 1) := by decide +kernel
theorem dX5_side_59 : decode cX5_side 59 = .ok (.getfield 12, 3) := by decide +kernel
theorem dX5_side_62 : decode cX5_side 62 = .ok (.iload_n 1, 1) := by decide +kernel
theorem dX5_side_63 : decode cX5_side 63 = .ok (.iload_n 2, 1) := by decide +kernel
theorem dX5_side_64 : decode cX5_side 64 = .ok (.iload_n 3, 1) := by decide +kernel
theorem dX5_side_65 : decode cX5_side 65 = .ok (.iload 4, 2) := by decide +kernel
theorem dX5_side_67 : decode cX5_side 67 = .ok (.invokevirtual 83, 3) := by decide +kernel
theorem dX5_side_70 : decode cX5_side 70 = .ok (.iload 5, 2) := by decide +kernel
theorem dX5_side_72 : decode cX5_side 72 = .ok (.ireturn, 1) := by decide +kernel
set_option maxRecDepth 20000 in
theorem ggX5_body_X1_hasLetter : GoodIn wsX5_body wsX1_hasLetter := goodIn_r _ [9, 10, 11, 12, 13, 58, 59, 60, 61, 62, 63] (by decide +kernel) (by decide +kernel)
set_option maxRecDepth 20000 in
theorem gX5_body_X1_hasLetter : GoodIn wsX5_body (wsV RX5 68 RX1 yX1_hasLetter wsX1_hasLetter) := goodIn_app (goodIn_of _ (by decide +kernel)) ggX5_body_X1_hasLetter
set_option maxRecDepth 20000 in
theorem ggX5_body_X5_within : GoodIn wsX5_body wsX5_within := goodIn_r _ [13] (by decide +kernel) (by decide +kernel)
set_option maxRecDepth 20000 in
theorem gX5_body_X5_within : GoodIn wsX5_body (va_wsS RX5 49 yX5_within wsX5_within) := goodIn_app (goodIn_of _ (by decide +kernel)) ggX5_body_X5_within
set_option maxRecDepth 20000 in
theorem ggX5_body_X5_beginChange : GoodIn wsX5_body wsX5_beginChange := goodIn_r _ [18, 19, 1, 20, 21, 22, 23, 24, 25, 26, 27, 28, 29, 30, 31, 32, 33, 34, 35, 8, 36, 10, 37, 38, 39, 40, 41, 42, 43, 44, 45, 46, 47, 48, 49, 50, 51, 52, 53, 54, 55, 56, 57, 64, 65, 66, 58, 59, 60, 61, 62, 63, 67, 68, 69, 70, 71, 72, 73, 74] (by decide +kernel) (by decide +kernel)
set_option maxRecDepth 20000 in
theorem gX5_body_X5_beginChange : GoodIn wsX5_body (wsV RX5 54 RX5 yX5_beginChange wsX5_beginChange) := goodIn_app (goodIn_of _ (by decide +kernel)) ggX5_body_X5_beginChange
theorem dX5_body_0 : decode cX5_body 0 = .ok (.aload_n 0, 1) := by decide +kernel
theorem dX5_body_1 : decode cX5_body 1 = .ok (.getfield 12, 3) := by decide +kernel
theorem dX5_body_4 : decode cX5_body 4 = .ok (.iload_n 1, 1) := by decide +kernel
theorem dX5_body_5 : decode cX5_body 5 = .ok (.invokevirtual 68, 3) := by decide +kernel
theorem dX5_body_8 : decode cX5_body 8 = .ok (.ifCond .ne 6, 3) := by decide +kernel
theorem dX5_body_11 : decode cX5_body 11 = .ok (.ldc 75, 2) := by decide +kernel
theorem dX5_body_13 : decode cX5_body 13 = .ok (.ireturn, 1) := by decide +kernel
theorem dX5_body_14 : decode cX5_body 14 = .ok (.iload_n 2, 1) := by decide +kernel
theorem dX5_body_15 : decode cX5_body 15 = .ok (.iconst 1, 1) := by decide +kernel
theorem dX5_body_16 : decode cX5_body 16 = .ok (.bipush 50, 2) := by decide +kernel
theorem dX5_body_18 : decode cX5_body 18 = .ok (.invokestatic 49, 3) := by decide +kernel
theorem dX5_body_21 : decode cX5_body 21 = .ok (.ifCond .ne 6, 3) := by decide +kernel
theorem dX5_body_24 : decode cX5_body 24 = .ok (.ldc 53, 2) := by decide +kernel
theorem dX5_body_26 : decode cX5_body 26 = .ok (.ireturn, 1) := by decide +kernel
theorem dX5_body_27 : decode cX5_body 27 = .ok (.aload_n 0, 1) := by decide +kernel
theorem dX5_body_28 : decode cX5_body 28 = .ok (.invokevirtual 54, 3) := by decide +kernel
theorem dX5_body_31 : decode cX5_body 31 = .ok (.aload_n 0, 1) := by decide +kernel
theorem dX5_body_32 : decode cX5_body 32 = .ok (.getfield 12, 3) := by decide +kernel
theorem dX5_body_35 : decode cX5_body 35 = .ok (.getfield 87, 3) := by decide +kernel
theorem dX5_body_38 : decode cX5_body 38 = .ok (.iload_n 1, 1) := by decide +kernel
theorem dX5_body_39 : decode cX5_body 39 = .ok (.iaload, 1) := by decide +kernel
theorem dX5_body_40 : decode cX5_body 40 = .ok (.istore_n 3, 1) := by decide +kernel
theorem dX5_body_41 : decode cX5_body 41 = .ok (.aload_n 0, 1) := by decide +kernel
theorem dX5_body_42 : decode cX5_body 42 = .ok (.getfield 12, 3) := by decide +kernel
theorem dX5_body_45 : decode cX5_body 45 = .ok (.getfield 87, 3) := by decide +kernel
theorem dX5_body_48 : decode cX5_body 48 = .ok (.iload_n 1, 1) := by decide +kernel
theorem dX5_body_49 : decode cX5_body 49 = .ok (.iload_n 2, 1) := by decide +kernel
theorem dX5_body_50 : decode cX5_body 50 = .ok (.iastore, 1) := by decide +kernel
theorem dX5_body_51 : decode cX5_body 51 = .ok (.iload_n 3, 1) := by decide +kernel
theorem dX5_body_52 : decode cX5_body 52 = .ok (.ireturn, 1) := by decide +kernel
set_option maxRecDepth 20000 in
theorem ggX5_bound_X5_within : GoodIn wsX5_bound wsX5_within := goodIn_r _ [8] (by decide +kernel) (by decide +kernel)
set_option maxRecDepth 20000 in
theorem gX5_bound_X5_within : GoodIn wsX5_bound (va_wsS RX5 49 yX5_within wsX5_within) := goodIn_app (goodIn_of _ (by decide +kernel)) ggX5_bound_X5_within
set_option maxRecDepth 20000 in
theorem ggX5_bound_X5_beginChange : GoodIn wsX5_bound wsX5_beginChange := goodIn_r _ [12, 13, 1, 14, 15, 16, 17, 18, 19, 20, 21, 22, 23, 24, 25, 26, 27, 28, 29, 30, 31, 32, 33, 34, 35, 36, 37, 38, 39, 40, 41, 42, 43, 44, 45, 46, 47, 48, 49, 50, 51, 52, 53, 60, 61, 62, 54, 55, 56, 57, 58, 59, 63, 64, 65, 66, 67, 68, 69, 70] (by decide +kernel) (by decide +kernel)
set_option maxRecDepth 20000 in
theorem gX5_bound_X5_beginChange : GoodIn wsX5_bound (wsV RX5 54 RX5 yX5_beginChange wsX5_beginChange) := goodIn_app (goodIn_of _ (by decide +kernel)) ggX5_bound_X5_beginChange
theorem dX5_bound_0 : decode cX5_bound 0 = .ok (.iload_n 1, 1) := by decide +kernel
theorem dX5_bound_1 : decode cX5_bound 1 = .ok (.ifCond .ne 35, 3) := by decide +kernel
theorem dX5_bound_4 : decode cX5_bound 4 = .ok (.iload_n 2, 1) := by decide +kernel
theorem dX5_bound_5 : decode cX5_bound 5 = .ok (.iconst 1, 1) := by decide +kernel
theorem dX5_bound_6 : decode cX5_bound 6 = .ok (.bipush 60, 2) := by decide +kernel
theorem dX5_bound_8 : decode cX5_bound 8 = .ok (.invokestatic 49, 3) := by decide +kernel
theorem dX5_bound_11 : decode cX5_bound 11 = .ok (.ifCond .eq 25, 3) := by decide +kernel
theorem dX5_bound_14 : decode cX5_bound 14 = .ok (.aload_n 0, 1) := by decide +kernel
theorem dX5_bound_15 : decode cX5_bound 15 = .ok (.invokevirtual 54, 3) := by decide +kernel
theorem dX5_bound_18 : decode cX5_bound 18 = .ok (.aload_n 0, 1) := by decide +kernel
theorem dX5_bound_19 : decode cX5_bound 19 = .ok (.getfield 12, 3) := by decide +kernel
theorem dX5_bound_22 : decode cX5_bound 22 = .ok (.getfield 91, 3) := by decide +kernel
theorem dX5_bound_25 : decode cX5_bound 25 = .ok (.istore_n 3, 1) := by decide +kernel
theorem dX5_bound_26 : decode cX5_bound 26 = .ok (.aload_n 0, 1) := by decide +kernel
theorem dX5_bound_27 : decode cX5_bound 27 = .ok (.getfield 12, 3) := by decide +kernel
theorem dX5_bound_30 : decode cX5_bound 30 = .ok (.iload_n 2, 1) := by decide +kernel
theorem dX5_bound_31 : decode cX5_bound 31 = .ok (.putfield 91, 3) := by decide +kernel
theorem dX5_bound_34 : decode cX5_bound 34 = .ok (.iload_n 3, 1) := by decide +kernel
theorem dX5_bound_35 : decode cX5_bound 35 = .ok (.ireturn, 1) := by decide +kernel
theorem dX5_bound_36 : decode cX5_bound 36 = .ok (.iload_n 1, 1) := by decide +kernel
theorem dX5_bound_37 : decode cX5_bound 37 = .ok (.iconst 1, 1) := by decide +kernel
theorem dX5_bound_38 : decode cX5_bound 38 = .ok (.if_icmp .ne 36, 3) := by decide +kernel
theorem dX5_bound_41 : decode cX5_bound 41 = .ok (.iload_n 2, 1) := by decide +kernel
theorem dX5_bound_42 : decode cX5_bound 42 = .ok (.iconst 0, 1) := by decide +kernel
theorem dX5_bound_43 : decode cX5_bound 43 = .ok (.sipush 500, 3) := by decide +kernel
theorem dX5_bound_46 : decode cX5_bound 46 = .ok (.invokestatic 49, 3) := by decide +kernel
theorem dX5_bound_49 : decode cX5_bound 49 = .ok (.ifCond .eq 25, 3) := by decide +kernel
theorem dX5_bound_52 : decode cX5_bound 52 = .ok (.aload_n 0, 1) := by decide +kernel
theorem dX5_bound_53 : decode cX5_bound 53 = .ok (.invokevirtual 54, 3) := by decide +kernel
theorem dX5_bound_56 : decode cX5_bound 56 = .ok (.aload_n 0, 1) := by decide +kernel
theorem dX5_bound_57 : decode cX5_bound 57 = .ok (.getfield 12, 3) := by decide +kernel
theorem dX5_bound_60 : decode cX5_bound 60 = .ok (.getfield 94, 3) := by decide +kernel
theorem dX5_bound_63 : decode cX5_bound 63 = .ok (.istore_n 3, 1) := by decide +kernel
theorem dX5_bound_64 : decode cX5_bound 64 = .ok (.aload_n 0, 1) := by decide +kernel
theorem dX5_bound_65 : decode cX5_bound 65 = .ok (.getfield 12, 3) := by decide +kernel
theorem dX5_bound_68 : decode cX5_bound 68 = .ok (.iload_n 2, 1) := by decide +kernel
theorem dX5_bound_69 : decode cX5_bound 69 = .ok (.putfield 94, 3) := by decide +kernel
theorem dX5_bound_72 : decode cX5_bound 72 = .ok (.iload_n 3, 1) := by decide +kernel
theorem dX5_bound_73 : decode cX5_bound 73 = .ok (.ireturn, 1) := by decide +kernel
theorem dX5_bound_74 : decode cX5_bound 74 = .ok (.ldc 53, 2) := by decide +kernel
theorem dX5_bound_76 : decode cX5_bound 76 = .ok (.ireturn, 1) := by decide +kernel
set_option maxRecDepth 20000 in
theorem ggX5_weight_X1_hasPair : GoodIn wsX5_weight wsX1_hasPair := goodIn_r _ [8, 9, 10, 11, 7, 12, 13, 14, 15, 16, 69, 70, 71, 72, 73, 74] (by decide +kernel) (by decide +kernel)
set_option maxRecDepth 20000 in
theorem gX5_weight_X1_hasPair : GoodIn wsX5_weight (wsV RX5 97 RX1 yX1_hasPair wsX1_hasPair) := goodIn_app (goodIn_of _ (by decide +kernel)) ggX5_weight_X1_hasPair
set_option maxRecDepth 20000 in
theorem ggX5_weight_X5_within : GoodIn wsX5_weight wsX5_within := goodIn_r _ [16] (by decide +kernel) (by decide +kernel)
set_option maxRecDepth 20000 in
theorem gX5_weight_X5_within : GoodIn wsX5_weight (va_wsS RX5 49 yX5_within wsX5_within) := goodIn_app (goodIn_of _ (by decide +kernel)) ggX5_weight_X5_within
set_option maxRecDepth 20000 in
theorem ggX5_weight_X5_beginChange : GoodIn wsX5_weight wsX5_beginChange := goodIn_r _ [21, 22, 1, 23, 24, 25, 26, 27, 28, 29, 30, 31, 32, 33, 34, 35, 36, 37, 38, 7, 39, 13, 40, 41, 42, 43, 44, 45, 46, 47, 48, 49, 50, 51, 52, 53, 54, 63, 64, 65, 66, 67, 68, 75, 76, 77, 69, 70, 71, 72, 73, 74, 78, 79, 80, 81, 82, 83, 84, 85] (by decide +kernel) (by decide +kernel)
set_option maxRecDepth 20000 in
theorem gX5_weight_X5_beginChange : GoodIn wsX5_weight (wsV RX5 54 RX5 yX5_beginChange wsX5_beginChange) := goodIn_app (goodIn_of _ (by decide +kernel)) ggX5_weight_X5_beginChange
set_option maxRecDepth 20000 in
theorem ggX5_weight_X1_weightOf : GoodIn wsX5_weight wsX1_weightOf := goodIn_r _ [58, 48, 69, 70, 71, 72, 73, 74] (by decide +kernel) (by decide +kernel)
set_option maxRecDepth 20000 in
theorem gX5_weight_X1_weightOf : GoodIn wsX5_weight (wsV RX5 101 RX1 yX1_weightOf wsX1_weightOf) := goodIn_app (goodIn_of _ (by decide +kernel)) ggX5_weight_X1_weightOf
set_option maxRecDepth 20000 in
theorem ggX5_weight_X1_putWeight : GoodIn wsX5_weight wsX1_putWeight := goodIn_r _ [62, 48, 69, 70, 71, 72, 73, 74] (by decide +kernel) (by decide +kernel)
set_option maxRecDepth 20000 in
theorem gX5_weight_X1_putWeight : GoodIn wsX5_weight (wsV RX5 105 RX1 yX1_putWeight wsX1_putWeight) := goodIn_app (goodIn_of _ (by decide +kernel)) ggX5_weight_X1_putWeight
theorem dX5_weight_0 : decode cX5_weight 0 = .ok (.aload_n 0, 1) := by decide +kernel
theorem dX5_weight_1 : decode cX5_weight 1 = .ok (.getfield 12, 3) := by decide +kernel
theorem dX5_weight_4 : decode cX5_weight 4 = .ok (.iload_n 1, 1) := by decide +kernel
theorem dX5_weight_5 : decode cX5_weight 5 = .ok (.iload_n 2, 1) := by decide +kernel
theorem dX5_weight_6 : decode cX5_weight 6 = .ok (.invokevirtual 97, 3) := by decide +kernel
theorem dX5_weight_9 : decode cX5_weight 9 = .ok (.ifCond .ne 6, 3) := by decide +kernel
theorem dX5_weight_12 : decode cX5_weight 12 = .ok (.ldc 75, 2) := by decide +kernel
theorem dX5_weight_14 : decode cX5_weight 14 = .ok (.ireturn, 1) := by decide +kernel
theorem dX5_weight_15 : decode cX5_weight 15 = .ok (.iload_n 3, 1) := by decide +kernel
theorem dX5_weight_16 : decode cX5_weight 16 = .ok (.iconst 0, 1) := by decide +kernel
theorem dX5_weight_17 : decode cX5_weight 17 = .ok (.iconst 4, 1) := by decide +kernel
theorem dX5_weight_18 : decode cX5_weight 18 = .ok (.invokestatic 49, 3) := by decide +kernel
theorem dX5_weight_21 : decode cX5_weight 21 = .ok (.ifCond .ne 6, 3) := by decide +kernel
theorem dX5_weight_24 : decode cX5_weight 24 = .ok (.ldc 53, 2) := by decide +kernel
theorem dX5_weight_26 : decode cX5_weight 26 = .ok (.ireturn, 1) := by decide +kernel
theorem dX5_weight_27 : decode cX5_weight 27 = .ok (.aload_n 0, 1) := by decide +kernel
theorem dX5_weight_28 : decode cX5_weight 28 = .ok (.invokevirtual 54, 3) := by decide +kernel
theorem dX5_weight_31 : decode cX5_weight 31 = .ok (.aload_n 0, 1) := by decide +kernel
theorem dX5_weight_32 : decode cX5_weight 32 = .ok (.getfield 12, 3) := by decide +kernel
theorem dX5_weight_35 : decode cX5_weight 35 = .ok (.iload_n 1, 1) := by decide +kernel
theorem dX5_weight_36 : decode cX5_weight 36 = .ok (.iload_n 2, 1) := by decide +kernel
theorem dX5_weight_37 : decode cX5_weight 37 = .ok (.invokevirtual 101, 3) := by decide +kernel
theorem dX5_weight_40 : decode cX5_weight 40 = .ok (.istore 4, 2) := by decide +kernel
theorem dX5_weight_42 : decode cX5_weight 42 = .ok (.aload_n 0, 1) := by decide +kernel
theorem dX5_weight_43 : decode cX5_weight 43 = .ok (.getfield 12, 3) := by decide +kernel
theorem dX5_weight_46 : decode cX5_weight 46 = .ok (.iload_n 1, 1) := by decide +kernel
theorem dX5_weight_47 : decode cX5_weight 47 = .ok (.iload_n 2, 1) := by decide +kernel
theorem dX5_weight_48 : decode cX5_weight 48 = .ok (.iload_n 3, 1) := by decide +kernel
theorem dX5_weight_49 : decode cX5_weight 49 = .ok (.invokevirtual 105, 3) := by decide +kernel
theorem dX5_weight_52 : decode cX5_weight 52 = .ok (.iload 4, 2) := by decide +kernel
theorem dX5_weight_54 : decode cX5_weight 54 = .ok (.ireturn, 1) := by decide +kernel
set_option maxRecDepth 20000 in
theorem ggX5_mirror_X1_hasLetter : GoodIn wsX5_mirror wsX1_hasLetter := goodIn_r _ [7, 8, 9, 10, 11, 74, 75, 76, 77, 78, 79] (by decide +kernel) (by decide +kernel)
set_option maxRecDepth 20000 in
theorem gX5_mirror_X1_hasLetter : GoodIn wsX5_mirror (wsV RX5 68 RX1 yX1_hasLetter wsX1_hasLetter) := goodIn_app (goodIn_of _ (by decide +kernel)) ggX5_mirror_X1_hasLetter
set_option maxRecDepth 20000 in
theorem ggX5_mirror_X5_beginChange : GoodIn wsX5_mirror wsX5_beginChange := goodIn_r _ [15, 16, 1, 17, 18, 19, 20, 21, 22, 23, 24, 25, 26, 27, 28, 29, 30, 31, 32, 6, 33, 8, 34, 35, 36, 37, 38, 39, 40, 41, 42, 43, 44, 45, 46, 47, 48, 68, 69, 70, 71, 72, 73, 80, 81, 82, 74, 75, 76, 77, 78, 79, 83, 84, 85, 86, 87, 88, 89, 90] (by decide +kernel) (by decide +kernel)
set_option maxRecDepth 20000 in
theorem gX5_mirror_X5_beginChange : GoodIn wsX5_mirror (wsV RX5 54 RX5 yX5_beginChange wsX5_beginChange) := goodIn_app (goodIn_of _ (by decide +kernel)) ggX5_mirror_X5_beginChange
set_option maxRecDepth 20000 in
theorem ggX5_mirror_X1_hasLikeSides : GoodIn wsX5_mirror wsX1_hasLikeSides := goodIn_r _ [52, 53, 54, 55, 6, 56, 41, 57, 58, 59, 74, 75, 76, 77, 78, 79] (by decide +kernel) (by decide +kernel)
set_option maxRecDepth 20000 in
theorem gX5_mirror_X1_hasLikeSides : GoodIn wsX5_mirror (wsV RX5 109 RX1 yX1_hasLikeSides wsX1_hasLikeSides) := goodIn_app (goodIn_of _ (by decide +kernel)) ggX5_mirror_X1_hasLikeSides
set_option maxRecDepth 20000 in
theorem ggX5_mirror_X1_swapSides : GoodIn wsX5_mirror wsX1_swapSides := goodIn_r _ [63, 53, 54, 55, 6, 56, 41, 57, 58, 59, 64, 65, 66, 67, 74, 75, 76, 77, 78, 79] (by decide +kernel) (by decide +kernel)
set_option maxRecDepth 20000 in
theorem gX5_mirror_X1_swapSides : GoodIn wsX5_mirror (wsV RX5 112 RX1 yX1_swapSides wsX1_swapSides) := goodIn_app (goodIn_of _ (by decide +kernel)) ggX5_mirror_X1_swapSides
theorem dX5_mirror_0 : decode cX5_mirror 0 = .ok (.aload_n 0, 1) := by decide +kernel
theorem dX5_mirror_1 : decode cX5_mirror 1 = .ok (.getfield 12, 3) := by decide +kernel
theorem dX5_mirror_4 : decode cX5_mirror 4 = .ok (.iload_n 1, 1) := by decide +kernel
theorem dX5_mirror_5 : decode cX5_mirror 5 = .ok (.invokevirtual 68, 3) := by decide +kernel
theorem dX5_mirror_8 : decode cX5_mirror 8 = .ok (.ifCond .ne 6, 3) := by decide +kernel
theorem dX5_mirror_11 : decode cX5_mirror 11 = .ok (.ldc 75, 2) := by decide +kernel
theorem dX5_mirror_13 : decode cX5_mirror 13 = .ok (.ireturn, 1) := by decide +kernel
theorem dX5_mirror_14 : decode cX5_mirror 14 = .ok (.aload_n 0, 1) := by decide +kernel
theorem dX5_mirror_15 : decode cX5_mirror 15 = .ok (.invokevirtual 54, 3) := by decide +kernel
theorem dX5_mirror_18 : decode cX5_mirror 18 = .ok (.aload_n 0, 1) := by decide +kernel
theorem dX5_mirror_19 : decode cX5_mirror 19 = .ok (.getfield 12, 3) := by decide +kernel
theorem dX5_mirror_22 : decode cX5_mirror 22 = .ok (.iload_n 1, 1) := by decide +kernel
theorem dX5_mirror_23 : decode cX5_mirror 23 = .ok (.invokevirtual 109, 3) := by decide +kernel
theorem dX5_mirror_26 : decode cX5_mirror 26 = .ok (.ifCond .eq 7, 3) := by decide +kernel
theorem dX5_mirror_29 : decode cX5_mirror 29 = .ok (.iconst 0, 1) := by decide +kernel
theorem dX5_mirror_30 : decode cX5_mirror 30 = .ok (.goto 4, 3) := by decide +kernel
theorem dX5_mirror_33 : decode cX5_mirror 33 = .ok (.iconst 1, 1) := by decide +kernel
theorem dX5_mirror_34 : decode cX5_mirror 34 = .ok (.istore_n 2, 1) := by decide +kernel
theorem dX5_mirror_35 : decode cX5_mirror 35 = .ok (.aload_n 0, 1) := by decide +kernel
theorem dX5_mirror_36 : decode cX5_mirror 36 = .ok (.getfield 12, 3) := by decide +kernel
theorem dX5_mirror_39 : decode cX5_mirror 39 = .ok (.iload_n 1, 1) := by decide +kernel
theorem dX5_mirror_40 : decode cX5_mirror 40 = .ok (.invokevirtual 112, 3) := by decide +kernel
theorem dX5_mirror_43 : decode cX5_mirror 43 = .ok (.iload_n 2, 1) := by decide +kernel
theorem dX5_mirror_44 : decode cX5_mirror 44 = .ok (.ireturn, 1) := by decide +kernel
set_option maxRecDepth 20000 in
theorem ggX5_turn_X5_beginChange : GoodIn wsX5_turn wsX5_beginChange := goodIn_r _ [7, 8, 1, 9, 10, 11, 12, 13, 14, 15, 16, 17, 18, 19, 20, 21, 22, 23, 24, 25, 26, 27, 28, 29, 30, 31, 32, 33, 34, 35, 36, 37, 38, 39, 40, 41, 42, 70, 71, 72, 73, 74, 75, 82, 83, 84, 76, 77, 78, 79, 80, 81, 85, 86, 87, 88, 89, 90, 91, 92] (by decide +kernel) (by decide +kernel)
set_option maxRecDepth 20000 in
theorem gX5_turn_X5_beginChange : GoodIn wsX5_turn (wsV RX5 54 RX5 yX5_beginChange wsX5_beginChange) := goodIn_app (goodIn_of _ (by decide +kernel)) ggX5_turn_X5_beginChange
set_option maxRecDepth 20000 in
theorem ggX5_turn_X1_turnRound : GoodIn wsX5_turn wsX1_turnRound := goodIn_r _ [46, 27, 47, 48, 49, 25, 50, 51, 52, 53, 54, 35, 55, 56, 57, 58, 59, 60, 61, 62, 63, 64, 65, 36, 66, 67, 68, 69, 76, 77, 78, 79, 80, 81] (by decide +kernel) (by decide +kernel)
set_option maxRecDepth 20000 in
theorem gX5_turn_X1_turnRound : GoodIn wsX5_turn (wsV RX5 115 RX1 yX1_turnRound wsX1_turnRound) := goodIn_app (goodIn_of _ (by decide +kernel)) ggX5_turn_X1_turnRound
theorem dX5_turn_0 : decode cX5_turn 0 = .ok (.aload_n 0, 1) := by decide +kernel
theorem dX5_turn_1 : decode cX5_turn 1 = .ok (.invokevirtual 54, 3) := by decide +kernel
theorem dX5_turn_4 : decode cX5_turn 4 = .ok (.aload_n 0, 1) := by decide +kernel
theorem dX5_turn_5 : decode cX5_turn 5 = .ok (.getfield 12, 3) := by decide +kernel
theorem dX5_turn_8 : decode cX5_turn 8 = .ok (.invokevirtual 115, 3) := by decide +kernel
theorem dX5_turn_11 : decode cX5_turn 11 = .ok (.aload_n 0, 1) := by decide +kernel
theorem dX5_turn_12 : decode cX5_turn 12 = .ok (.getfield 12, 3) := by decide +kernel
theorem dX5_turn_15 : decode cX5_turn 15 = .ok (.getfield 57, 3) := by decide +kernel
theorem dX5_turn_18 : decode cX5_turn 18 = .ok (.ireturn, 1) := by decide +kernel
set_option maxRecDepth 20000 in
theorem ggX5_copy_X1_hasPair : GoodIn wsX5_copy wsX1_hasPair := goodIn_r _ [7, 8, 9, 10, 6, 11, 12, 13, 14, 15, 74, 75, 76, 77, 78, 79] (by decide +kernel) (by decide +kernel)
set_option maxRecDepth 20000 in
theorem gX5_copy_X1_hasPair : GoodIn wsX5_copy (wsV RX5 97 RX1 yX1_hasPair wsX1_hasPair) := goodIn_app (goodIn_of _ (by decide +kernel)) ggX5_copy_X1_hasPair
set_option maxRecDepth 20000 in
theorem ggX5_copy_X5_beginChange : GoodIn wsX5_copy wsX5_beginChange := goodIn_r _ [19, 20, 1, 21, 22, 23, 24, 25, 26, 27, 28, 29, 30, 31, 32, 33, 34, 35, 36, 6, 37, 12, 38, 39, 40, 41, 42, 43, 44, 45, 46, 47, 48, 49, 50, 51, 52, 68, 69, 70, 71, 72, 73, 80, 81, 82, 74, 75, 76, 77, 78, 79, 83, 84, 85, 86, 87, 88, 89, 90] (by decide +kernel) (by decide +kernel)
set_option maxRecDepth 20000 in
theorem gX5_copy_X5_beginChange : GoodIn wsX5_copy (wsV RX5 54 RX5 yX5_beginChange wsX5_beginChange) := goodIn_app (goodIn_of _ (by decide +kernel)) ggX5_copy_X5_beginChange
set_option maxRecDepth 20000 in
theorem ggX5_copy_X1_takeLetter : GoodIn wsX5_copy wsX1_takeLetter := goodIn_r _ [56, 40, 57, 58, 59, 6, 60, 45, 61, 62, 63, 64, 65, 66, 67, 74, 75, 76, 77, 78, 79] (by decide +kernel) (by decide +kernel)
set_option maxRecDepth 20000 in
theorem gX5_copy_X1_takeLetter : GoodIn wsX5_copy (wsV RX5 118 RX1 yX1_takeLetter wsX1_takeLetter) := goodIn_app (goodIn_of _ (by decide +kernel)) ggX5_copy_X1_takeLetter
theorem dX5_copy_0 : decode cX5_copy 0 = .ok (.aload_n 0, 1) := by decide +kernel
theorem dX5_copy_1 : decode cX5_copy 1 = .ok (.getfield 12, 3) := by decide +kernel
theorem dX5_copy_4 : decode cX5_copy 4 = .ok (.iload_n 1, 1) := by decide +kernel
theorem dX5_copy_5 : decode cX5_copy 5 = .ok (.iload_n 2, 1) := by decide +kernel
theorem dX5_copy_6 : decode cX5_copy 6 = .ok (.invokevirtual 97, 3) := by decide +kernel
theorem dX5_copy_9 : decode cX5_copy 9 = .ok (.ifCond .eq 8, 3) := by decide +kernel
theorem dX5_copy_12 : decode cX5_copy 12 = .ok (.iload_n 1, 1) := by decide +kernel
theorem dX5_copy_13 : decode cX5_copy 13 = .ok (.iload_n 2, 1) := by decide +kernel
theorem dX5_copy_14 : decode cX5_copy 14 = .ok (.if_icmp .ne 6, 3) := by decide +kernel
theorem dX5_copy_17 : decode cX5_copy 17 = .ok (.ldc 75, 2) := by decide +kernel
theorem dX5_copy_19 : decode cX5_copy 19 = .ok (.ireturn, 1) := by decide +kernel
theorem dX5_copy_20 : decode cX5_copy 20 = .ok (.aload_n 0, 1) := by decide +kernel
theorem dX5_copy_21 : decode cX5_copy 21 = .ok (.invokevirtual 54, 3) := by decide +kernel
theorem dX5_copy_24 : decode cX5_copy 24 = .ok (.aload_n 0, 1) := by decide +kernel
theorem dX5_copy_25 : decode cX5_copy 25 = .ok (.getfield 12, 3) := by decide +kernel
theorem dX5_copy_28 : decode cX5_copy 28 = .ok (.iload_n 1, 1) := by decide +kernel
theorem dX5_copy_29 : decode cX5_copy 29 = .ok (.iload_n 2, 1) := by decide +kernel
theorem dX5_copy_30 : decode cX5_copy 30 = .ok (.invokevirtual 118, 3) := by decide +kernel
theorem dX5_copy_33 : decode cX5_copy 33 = .ok (.ireturn, 1) := by decide +kernel
set_option maxRecDepth 20000 in
theorem ggX5_drift_X5_within : GoodIn wsX5_drift wsX5_within := goodIn_r _ [7] (by decide +kernel) (by decide +kernel)
set_option maxRecDepth 20000 in
theorem gX5_drift_X5_within : GoodIn wsX5_drift (va_wsS RX5 49 yX5_within wsX5_within) := goodIn_app (goodIn_of _ (by decide +kernel)) ggX5_drift_X5_within
set_option maxRecDepth 20000 in
theorem ggX5_drift_X5_beginChange : GoodIn wsX5_drift wsX5_beginChange := goodIn_r _ [11, 12, 3, 13, 14, 15, 16, 17, 18, 19, 20, 21, 22, 23, 24, 25, 26, 27, 28, 29, 30, 31, 32, 33, 34, 35, 36, 37, 38, 39, 40, 41, 42, 43, 44, 45, 46, 78, 79, 80, 81, 82, 83, 84, 85, 86, 87, 88, 89, 90, 91, 92, 93, 94, 95, 96, 97, 98, 99, 100] (by decide +kernel) (by decide +kernel)
set_option maxRecDepth 20000 in
theorem gX5_drift_X5_beginChange : GoodIn wsX5_drift (wsV RX5 54 RX5 yX5_beginChange wsX5_beginChange) := goodIn_app (goodIn_of _ (by decide +kernel)) ggX5_drift_X5_beginChange
set_option maxRecDepth 20000 in
theorem ggX5_drift_X1_drawLots : GoodIn wsX5_drift wsX1_drawLots := goodIn_r _ [50, 31, 51, 52, 53, 54, 29, 55, 56, 57, 58, 59, 60, 61, 39, 62, 63, 64, 65, 66, 67, 68, 40, 87, 88, 89, 90, 91, 92] (by decide +kernel) (by decide +kernel)
set_option maxRecDepth 20000 in
theorem gX5_drift_X1_drawLots : GoodIn wsX5_drift (wsV RX5 122 RX1 yX1_drawLots wsX1_drawLots) := goodIn_app (goodIn_of _ (by decide +kernel)) ggX5_drift_X1_drawLots
set_option maxRecDepth 20000 in
theorem ggX5_drift_X1_bareOfAll : GoodIn wsX5_drift wsX1_bareOfAll := goodIn_r _ [72, 31, 73, 74, 75, 29, 76, 32, 39, 77, 23, 24, 25, 62, 63, 64, 87, 88, 89, 90, 91, 92] (by decide +kernel) (by decide +kernel)
set_option maxRecDepth 20000 in
theorem gX5_drift_X1_bareOfAll : GoodIn wsX5_drift (wsV RX5 125 RX1 yX1_bareOfAll wsX1_bareOfAll) := goodIn_app (goodIn_of _ (by decide +kernel)) ggX5_drift_X1_bareOfAll
theorem dX5_drift_0 : decode cX5_drift 0 = .ok (.iload_n 1, 1) := by decide +kernel
theorem dX5_drift_1 : decode cX5_drift 1 = .ok (.iconst 1, 1) := by decide +kernel
theorem dX5_drift_2 : decode cX5_drift 2 = .ok (.ldc 121, 2) := by decide +kernel
theorem dX5_drift_4 : decode cX5_drift 4 = .ok (.invokestatic 49, 3) := by decide +kernel
theorem dX5_drift_7 : decode cX5_drift 7 = .ok (.ifCond .ne 6, 3) := by decide +kernel
theorem dX5_drift_10 : decode cX5_drift 10 = .ok (.ldc 53, 2) := by decide +kernel
theorem dX5_drift_12 : decode cX5_drift 12 = .ok (.ireturn, 1) := by decide +kernel
theorem dX5_drift_13 : decode cX5_drift 13 = .ok (.aload_n 0, 1) := by decide +kernel
theorem dX5_drift_14 : decode cX5_drift 14 = .ok (.invokevirtual 54, 3) := by decide +kernel
theorem dX5_drift_17 : decode cX5_drift 17 = .ok (.aload_n 0, 1) := by decide +kernel
theorem dX5_drift_18 : decode cX5_drift 18 = .ok (.getfield 12, 3) := by decide +kernel
theorem dX5_drift_21 : decode cX5_drift 21 = .ok (.iload_n 1, 1) := by decide +kernel
theorem dX5_drift_22 : decode cX5_drift 22 = .ok (.invokevirtual 122, 3) := by decide +kernel
theorem dX5_drift_25 : decode cX5_drift 25 = .ok (.aload_n 0, 1) := by decide +kernel
theorem dX5_drift_26 : decode cX5_drift 26 = .ok (.getfield 12, 3) := by decide +kernel
theorem dX5_drift_29 : decode cX5_drift 29 = .ok (.invokevirtual 125, 3) := by decide +kernel
theorem dX5_drift_32 : decode cX5_drift 32 = .ok (.ireturn, 1) := by decide +kernel
set_option maxRecDepth 20000 in
theorem ggX5_undo_X3_giveBack : GoodIn wsX5_undo wsX3_giveBack := goodIn_r _ [12, 13, 14, 15, 16, 17, 18, 19, 20, 21, 22, 23, 24, 25, 26, 27, 28, 29, 30, 31, 32, 33, 34, 53, 54, 55, 56, 57, 58, 59, 60, 61] (by decide +kernel) (by decide +kernel)
set_option maxRecDepth 20000 in
theorem gX5_undo_X3_giveBack : GoodIn wsX5_undo (wsV RX5 131 RX3 yX3_giveBack wsX3_giveBack) := goodIn_app (goodIn_of _ (by decide +kernel)) ggX5_undo_X3_giveBack
set_option maxRecDepth 20000 in
theorem ggX5_undo_X0_forget : GoodIn wsX5_undo wsX0_forget := goodIn_r _ [39, 40, 62, 63, 64, 65, 66, 67, 68, 69] (by decide +kernel) (by decide +kernel)
set_option maxRecDepth 20000 in
theorem gX5_undo_X0_forget : GoodIn wsX5_undo (wsV RX5 134 RX0 yX0_forget wsX0_forget) := goodIn_app (goodIn_of _ (by decide +kernel)) ggX5_undo_X0_forget
set_option maxRecDepth 20000 in
theorem ggX5_undo_X2_makeEmpty : GoodIn wsX5_undo wsX2_makeEmpty := goodIn_r _ [45, 46, 70, 71, 72, 73, 74] (by decide +kernel) (by decide +kernel)
set_option maxRecDepth 20000 in
theorem gX5_undo_X2_makeEmpty : GoodIn wsX5_undo (wsV RX5 65 RX2 yX2_makeEmpty wsX2_makeEmpty) := goodIn_app (goodIn_of _ (by decide +kernel)) ggX5_undo_X2_makeEmpty
theorem dX5_undo_0 : decode cX5_undo 0 = .ok (.aload_n 0, 1) := by decide +kernel
theorem dX5_undo_1 : decode cX5_undo 1 = .ok (.getfield 28, 3) := by decide +kernel
theorem dX5_undo_4 : decode cX5_undo 4 = .ok (.getfield 129, 3) := by decide +kernel
theorem dX5_undo_7 : decode cX5_undo 7 = .ok (.ifCond .ne 6, 3) := by decide +kernel
theorem dX5_undo_10 : decode cX5_undo 10 = .ok (.ldc 130, 2) := by decide +kernel
theorem dX5_undo_12 : decode cX5_undo 12 = .ok (.ireturn, 1) := by decide +kernel
theorem dX5_undo_13 : decode cX5_undo 13 = .ok (.aload_n 0, 1) := by decide +kernel
theorem dX5_undo_14 : decode cX5_undo 14 = .ok (.getfield 12, 3) := by decide +kernel
theorem dX5_undo_17 : decode cX5_undo 17 = .ok (.getfield 57, 3) := by decide +kernel
theorem dX5_undo_20 : decode cX5_undo 20 = .ok (.istore_n 1, 1) := by decide +kernel
theorem dX5_undo_21 : decode cX5_undo 21 = .ok (.aload_n 0, 1) := by decide +kernel
theorem dX5_undo_22 : decode cX5_undo 22 = .ok (.getfield 28, 3) := by decide +kernel
theorem dX5_undo_25 : decode cX5_undo 25 = .ok (.aload_n 0, 1) := by decide +kernel
theorem dX5_undo_26 : decode cX5_undo 26 = .ok (.getfield 12, 3) := by decide +kernel
theorem dX5_undo_29 : decode cX5_undo 29 = .ok (.invokevirtual 131, 3) := by decide +kernel
theorem dX5_undo_32 : decode cX5_undo 32 = .ok (.aload_n 0, 1) := by decide +kernel
theorem dX5_undo_33 : decode cX5_undo 33 = .ok (.getfield 21, 3) := by decide +kernel
theorem dX5_undo_36 : decode cX5_undo 36 = .ok (.invokevirtual 134, 3) := by decide +kernel
theorem dX5_undo_39 : decode cX5_undo 39 = .ok (.aload_n 0, 1) := by decide +kernel
theorem dX5_undo_40 : decode cX5_undo 40 = .ok (.getfield 12, 3) := by decide +kernel
theorem dX5_undo_43 : decode cX5_undo 43 = .ok (.getfield 57, 3) := by decide +kernel
theorem dX5_undo_46 : decode cX5_undo 46 = .ok (.iload_n 1, 1) := by decide +kernel
theorem dX5_undo_47 : decode cX5_undo 47 = .ok (.if_icmp .eq 10, 3) := by decide +kernel
theorem dX5_undo_50 : decode cX5_undo 50 = .ok (.aload_n 0, 1) := by decide +kernel
theorem dX5_undo_51 : decode cX5_undo 51 = .ok (.getfield 37, 3) := by decide +kernel
theorem dX5_undo_54 : decode cX5_undo 54 = .ok (.invokevirtual 65, 3) := by decide +kernel
theorem dX5_undo_57 : decode cX5_undo 57 = .ok (.aload_n 0, 1) := by decide +kernel
theorem dX5_undo_58 : decode cX5_undo 58 = .ok (.getfield 28, 3) := by decide +kernel
theorem dX5_undo_61 : decode cX5_undo 61 = .ok (.getfield 129, 3) := by decide +kernel
theorem dX5_undo_64 : decode cX5_undo 64 = .ok (.ireturn, 1) := by decide +kernel
set_option maxRecDepth 20000 in
theorem ggX5_told_X0_find : GoodIn wsX5_told wsX0_find := goodIn_r _ [16, 17, 18, 19, 20, 15, 21, 22, 23, 24, 25, 26, 27, 28, 29, 30, 31, 32, 33, 34, 35, 36, 37, 38, 39, 40, 41, 42, 43, 44, 45, 46, 47, 48, 49, 50, 51, 52, 53, 54, 55, 56, 57, 58, 59, 60, 61, 62, 63, 64, 65, 66, 67, 68, 69, 70, 71, 72, 73, 74, 75, 76, 77, 78, 79, 80, 81, 82, 83, 84, 85, 86, 87, 88, 89, 90, 210, 211, 212, 213, 214, 215, 216, 217, 194, 195, 196, 197, 198, 199] (by decide +kernel) (by decide +kernel)
set_option maxRecDepth 20000 in
theorem gX5_told_X0_find : GoodIn wsX5_told (wsV RX5 137 RX0 yX0_find wsX0_find) := goodIn_app (goodIn_of _ (by decide +kernel)) ggX5_told_X0_find
set_option maxRecDepth 20000 in
theorem ggX5_told_X1_pairsWithWeight : GoodIn wsX5_told wsX1_pairsWithWeight := goodIn_r _ [94, 35, 194, 195, 196, 197, 198, 199] (by decide +kernel) (by decide +kernel)
set_option maxRecDepth 20000 in
theorem gX5_told_X1_pairsWithWeight : GoodIn wsX5_told (wsV RX5 140 RX1 yX1_pairsWithWeight wsX1_pairsWithWeight) := goodIn_app (goodIn_of _ (by decide +kernel)) ggX5_told_X1_pairsWithWeight
set_option maxRecDepth 20000 in
theorem ggX5_told_X0_worst : GoodIn wsX5_told wsX0_worst := goodIn_r _ [98, 79, 23, 24, 99, 100, 44, 101, 102, 103, 104, 15, 105, 29, 57, 106, 107, 108, 109, 110, 111, 112, 113, 59, 49, 50, 51, 52, 36, 37, 38, 33, 39, 40, 41, 42, 43, 45, 46, 47, 48, 30, 31, 32, 34, 35, 210, 211, 212, 213, 214, 215, 216, 217, 194, 195, 196, 197, 198, 199] (by decide +kernel) (by decide +kernel)
set_option maxRecDepth 20000 in
theorem gX5_told_X0_worst : GoodIn wsX5_told (wsV RX5 143 RX0 yX0_worst wsX0_worst) := goodIn_app (goodIn_of _ (by decide +kernel)) ggX5_told_X0_worst
set_option maxRecDepth 20000 in
theorem ggX5_told_X0_squaresAbove : GoodIn wsX5_told wsX0_squaresAbove := goodIn_r _ [117, 23, 24, 102, 103, 104, 15, 105, 29, 57, 106, 107, 108, 109, 110, 111, 112, 113, 59, 49, 50, 51, 52, 36, 37, 38, 33, 39, 40, 41, 42, 43, 44, 45, 46, 47, 48, 30, 31, 32, 34, 35, 210, 211, 212, 213, 214, 215, 216, 217, 194, 195, 196, 197, 198, 199] (by decide +kernel) (by decide +kernel)
set_option maxRecDepth 20000 in
theorem gX5_told_X0_squaresAbove : GoodIn wsX5_told (wsV RX5 146 RX0 yX0_squaresAbove wsX0_squaresAbove) := goodIn_app (goodIn_of _ (by decide +kernel)) ggX5_told_X0_squaresAbove
set_option maxRecDepth 20000 in
theorem ggX5_told_X0_squaresBelow : GoodIn wsX5_told wsX0_squaresBelow := goodIn_r _ [121, 57, 210, 211, 212, 213, 214, 215, 216, 217] (by decide +kernel) (by decide +kernel)
set_option maxRecDepth 20000 in
theorem gX5_told_X0_squaresBelow : GoodIn wsX5_told (wsV RX5 150 RX0 yX0_squaresBelow wsX0_squaresBelow) := goodIn_app (goodIn_of _ (by decide +kernel)) ggX5_told_X0_squaresBelow
set_option maxRecDepth 20000 in
theorem ggX5_told_X5_aboveOf : GoodIn wsX5_told wsX5_aboveOf := goodIn_r _ [125, 126, 127, 124, 128, 129, 100, 44, 101, 130, 69, 70] (by decide +kernel) (by decide +kernel)
set_option maxRecDepth 20000 in
theorem gX5_told_X5_aboveOf : GoodIn wsX5_told (va_wsS RX5 153 yX5_aboveOf wsX5_aboveOf) := goodIn_app (goodIn_of _ (by decide +kernel)) ggX5_told_X5_aboveOf
set_option maxRecDepth 20000 in
theorem ggX5_told_X5_belowOf : GoodIn wsX5_told wsX5_belowOf := goodIn_r _ [133, 126, 127, 124, 128, 129, 100, 44, 101, 130, 69, 70] (by decide +kernel) (by decide +kernel)
set_option maxRecDepth 20000 in
theorem gX5_told_X5_belowOf : GoodIn wsX5_told (va_wsS RX5 157 yX5_belowOf wsX5_belowOf) := goodIn_app (goodIn_of _ (by decide +kernel)) ggX5_told_X5_belowOf
set_option maxRecDepth 20000 in
theorem ggX5_told_X0_openSpaces : GoodIn wsX5_told wsX0_openSpaces := goodIn_r _ [137, 58, 60, 61, 62, 15, 63, 23, 24, 210, 211, 212, 213, 214, 215, 216, 217, 194, 195, 196, 197, 198, 199] (by decide +kernel) (by decide +kernel)
set_option maxRecDepth 20000 in
theorem gX5_told_X0_openSpaces : GoodIn wsX5_told (wsV RX5 160 RX0 yX0_openSpaces wsX0_openSpaces) := goodIn_app (goodIn_of _ (by decide +kernel)) ggX5_told_X0_openSpaces
set_option maxRecDepth 20000 in
theorem ggX5_told_X2_wideAbove : GoodIn wsX5_told wsX2_wideAbove := goodIn_r _ [142, 143, 144, 145, 146, 147, 148, 149, 150, 15, 151, 75, 57, 152, 111, 112, 113, 59, 49, 50, 51, 52, 23, 24, 200, 201, 202, 203, 204, 194, 195, 196, 197, 198, 199, 210, 211, 212, 213, 214, 215, 216, 217] (by decide +kernel) (by decide +kernel)
set_option maxRecDepth 20000 in
theorem gX5_told_X2_wideAbove : GoodIn wsX5_told (wsV RX5 164 RX2 yX2_wideAbove wsX2_wideAbove) := goodIn_app (goodIn_of _ (by decide +kernel)) ggX5_told_X2_wideAbove
set_option maxRecDepth 20000 in
theorem ggX5_told_X0_spaceBelow : GoodIn wsX5_told wsX0_spaceBelow := goodIn_r _ [151, 75, 57, 210, 211, 212, 213, 214, 215, 216, 217] (by decide +kernel) (by decide +kernel)
set_option maxRecDepth 20000 in
theorem gX5_told_X0_spaceBelow : GoodIn wsX5_told (wsV RX5 167 RX0 yX0_spaceBelow wsX0_spaceBelow) := goodIn_app (goodIn_of _ (by decide +kernel)) ggX5_told_X0_spaceBelow
set_option maxRecDepth 20000 in
theorem ggX5_told_X2_thin : GoodIn wsX5_told wsX2_thin := goodIn_r _ [157, 143, 147, 146, 158, 107, 108, 15, 109, 23, 57, 110, 111, 112, 113, 59, 49, 50, 51, 52, 24, 36, 37, 38, 33, 39, 40, 41, 42, 43, 44, 45, 46, 47, 48, 200, 201, 202, 203, 204, 210, 211, 212, 213, 214, 215, 216, 217, 194, 195, 196, 197, 198, 199] (by decide +kernel) (by decide +kernel)
set_option maxRecDepth 20000 in
theorem gX5_told_X2_thin : GoodIn wsX5_told (wsV RX5 170 RX2 yX2_thin wsX2_thin) := goodIn_app (goodIn_of _ (by decide +kernel)) ggX5_told_X2_thin
set_option maxRecDepth 20000 in
theorem ggX5_told_X2_written : GoodIn wsX5_told wsX2_written := goodIn_r _ [162, 163, 143, 146, 147, 164, 165, 166, 167, 168, 169, 170, 171, 172, 141, 173, 174, 103, 104, 15, 105, 23, 29, 57, 106, 107, 108, 109, 110, 111, 112, 113, 59, 49, 50, 51, 52, 24, 36, 37, 38, 33, 39, 40, 41, 42, 43, 44, 45, 46, 47, 48, 175, 176, 177, 178, 179, 180, 139, 140, 142, 144, 145, 148, 149, 150, 151, 75, 152, 123, 124, 125, 126, 127, 128, 129, 100, 101, 130, 69, 70, 181, 182, 183, 184, 185, 186, 187, 132, 133, 200, 201, 202, 203, 204, 205, 206, 210, 211, 212, 213, 214, 215, 216, 217, 194, 195, 196, 197, 198, 199] (by decide +kernel) (by decide +kernel)
set_option maxRecDepth 20000 in
theorem gX5_told_X2_written : GoodIn wsX5_told (wsV RX5 173 RX2 yX2_written wsX2_written) := goodIn_app (goodIn_of _ (by decide +kernel)) ggX5_told_X2_written
theorem dX5_told_0 : decode cX5_told 0 = .ok (.aload_n 0, 1) := by decide +kernel
theorem dX5_told_1 : decode cX5_told 1 = .ok (.getfield 21, 3) := by decide +kernel
theorem dX5_told_4 : decode cX5_told 4 = .ok (.invokevirtual 137, 3) := by decide +kernel
theorem dX5_told_7 : decode cX5_told 7 = .ok (.iload_n 1, 1) := by decide +kernel
theorem dX5_told_8 : decode cX5_told 8 = .ok (.tableswitch 237 0 13 #[72, 81, 90, 99, 108, 117, 135, 153, 162, 171, 189, 207, 216, 228], 72) := by decide +kernel
theorem dX5_told_80 : decode cX5_told 80 = .ok (.aload_n 0, 1) := by decide +kernel
theorem dX5_told_81 : decode cX5_told 81 = .ok (.getfield 12, 3) := by decide +kernel
theorem dX5_told_84 : decode cX5_told 84 = .ok (.getfield 57, 3) := by decide +kernel
theorem dX5_told_87 : decode cX5_told 87 = .ok (.i2l, 1) := by decide +kernel
theorem dX5_told_88 : decode cX5_told 88 = .ok (.lreturn, 1) := by decide +kernel
theorem dX5_told_89 : decode cX5_told 89 = .ok (.aload_n 0, 1) := by decide +kernel
theorem dX5_told_90 : decode cX5_told 90 = .ok (.getfield 12, 3) := by decide +kernel
theorem dX5_told_93 : decode cX5_told 93 = .ok (.getfield 91, 3) := by decide +kernel
theorem dX5_told_96 : decode cX5_told 96 = .ok (.i2l, 1) := by decide +kernel
theorem dX5_told_97 : decode cX5_told 97 = .ok (.lreturn, 1) := by decide +kernel
theorem dX5_told_98 : decode cX5_told 98 = .ok (.aload_n 0, 1) := by decide +kernel
theorem dX5_told_99 : decode cX5_told 99 = .ok (.getfield 12, 3) := by decide +kernel
theorem dX5_told_102 : decode cX5_told 102 = .ok (.getfield 94, 3) := by decide +kernel
theorem dX5_told_105 : decode cX5_told 105 = .ok (.i2l, 1) := by decide +kernel
theorem dX5_told_106 : decode cX5_told 106 = .ok (.lreturn, 1) := by decide +kernel
theorem dX5_told_107 : decode cX5_told 107 = .ok (.aload_n 0, 1) := by decide +kernel
theorem dX5_told_108 : decode cX5_told 108 = .ok (.getfield 12, 3) := by decide +kernel
theorem dX5_told_111 : decode cX5_told 111 = .ok (.invokevirtual 140, 3) := by decide +kernel
theorem dX5_told_114 : decode cX5_told 114 = .ok (.i2l, 1) := by decide +kernel
theorem dX5_told_115 : decode cX5_told 115 = .ok (.lreturn, 1) := by decide +kernel
theorem dX5_told_116 : decode cX5_told 116 = .ok (.aload_n 0, 1) := by decide +kernel
theorem dX5_told_117 : decode cX5_told 117 = .ok (.getfield 21, 3) := by decide +kernel
theorem dX5_told_120 : decode cX5_told 120 = .ok (.invokevirtual 143, 3) := by decide +kernel
theorem dX5_told_123 : decode cX5_told 123 = .ok (.i2l, 1) := by decide +kernel
theorem dX5_told_124 : decode cX5_told 124 = .ok (.lreturn, 1) := by decide +kernel
theorem dX5_told_125 : decode cX5_told 125 = .ok (.aload_n 0, 1) := by decide +kernel
theorem dX5_told_126 : decode cX5_told 126 = .ok (.getfield 21, 3) := by decide +kernel
theorem dX5_told_129 : decode cX5_told 129 = .ok (.invokevirtual 146, 3) := by decide +kernel
theorem dX5_told_132 : decode cX5_told 132 = .ok (.aload_n 0, 1) := by decide +kernel
theorem dX5_told_133 : decode cX5_told 133 = .ok (.getfield 21, 3) := by decide +kernel
theorem dX5_told_136 : decode cX5_told 136 = .ok (.invokevirtual 150, 3) := by decide +kernel
theorem dX5_told_139 : decode cX5_told 139 = .ok (.invokestatic 153, 3) := by decide +kernel
theorem dX5_told_142 : decode cX5_told 142 = .ok (.lreturn, 1) := by decide +kernel
theorem dX5_told_143 : decode cX5_told 143 = .ok (.aload_n 0, 1) := by decide +kernel
theorem dX5_told_144 : decode cX5_told 144 = .ok (.getfield 21, 3) := by decide +kernel
theorem dX5_told_147 : decode cX5_told 147 = .ok (.invokevirtual 146, 3) := by decide +kernel
theorem dX5_told_150 : decode cX5_told 150 = .ok (.aload_n 0, 1) := by decide +kernel
theorem dX5_told_151 : decode cX5_told 151 = .ok (.getfield 21, 3) := by decide +kernel
theorem dX5_told_154 : decode cX5_told 154 = .ok (.invokevirtual 150, 3) := by decide +kernel
theorem dX5_told_157 : decode cX5_told 157 = .ok (.invokestatic 157, 3) := by decide +kernel
theorem dX5_told_160 : decode cX5_told 160 = .ok (.lreturn, 1) := by decide +kernel
theorem dX5_told_161 : decode cX5_told 161 = .ok (.aload_n 0, 1) := by decide +kernel
theorem dX5_told_162 : decode cX5_told 162 = .ok (.getfield 21, 3) := by decide +kernel
theorem dX5_told_165 : decode cX5_told 165 = .ok (.invokevirtual 160, 3) := by decide +kernel
theorem dX5_told_168 : decode cX5_told 168 = .ok (.i2l, 1) := by decide +kernel
theorem dX5_told_169 : decode cX5_told 169 = .ok (.lreturn, 1) := by decide +kernel
theorem dX5_told_170 : decode cX5_told 170 = .ok (.aload_n 0, 1) := by decide +kernel
theorem dX5_told_171 : decode cX5_told 171 = .ok (.getfield 37, 3) := by decide +kernel
theorem dX5_told_174 : decode cX5_told 174 = .ok (.getfield 163, 3) := by decide +kernel
theorem dX5_told_177 : decode cX5_told 177 = .ok (.i2l, 1) := by decide +kernel
theorem dX5_told_178 : decode cX5_told 178 = .ok (.lreturn, 1) := by decide +kernel
theorem dX5_told_179 : decode cX5_told 179 = .ok (.aload_n 0, 1) := by decide +kernel
theorem dX5_told_180 : decode cX5_told 180 = .ok (.getfield 37, 3) := by decide +kernel
theorem dX5_told_183 : decode cX5_told 183 = .ok (.invokevirtual 164, 3) := by decide +kernel
theorem dX5_told_186 : decode cX5_told 186 = .ok (.aload_n 0, 1) := by decide +kernel
theorem dX5_told_187 : decode cX5_told 187 = .ok (.getfield 21, 3) := by decide +kernel
theorem dX5_told_190 : decode cX5_told 190 = .ok (.invokevirtual 167, 3) := by decide +kernel
theorem dX5_told_193 : decode cX5_told 193 = .ok (.invokestatic 153, 3) := by decide +kernel
theorem dX5_told_196 : decode cX5_told 196 = .ok (.lreturn, 1) := by decide +kernel
theorem dX5_told_197 : decode cX5_told 197 = .ok (.aload_n 0, 1) := by decide +kernel
theorem dX5_told_198 : decode cX5_told 198 = .ok (.getfield 37, 3) := by decide +kernel
theorem dX5_told_201 : decode cX5_told 201 = .ok (.invokevirtual 164, 3) := by decide +kernel
theorem dX5_told_204 : decode cX5_told 204 = .ok (.aload_n 0, 1) := by decide +kernel
theorem dX5_told_205 : decode cX5_told 205 = .ok (.getfield 21, 3) := by decide +kernel
theorem dX5_told_208 : decode cX5_told 208 = .ok (.invokevirtual 167, 3) := by decide +kernel
theorem dX5_told_211 : decode cX5_told 211 = .ok (.invokestatic 157, 3) := by decide +kernel
theorem dX5_told_214 : decode cX5_told 214 = .ok (.lreturn, 1) := by decide +kernel
theorem dX5_told_215 : decode cX5_told 215 = .ok (.aload_n 0, 1) := by decide +kernel
theorem dX5_told_216 : decode cX5_told 216 = .ok (.getfield 37, 3) := by decide +kernel
theorem dX5_told_219 : decode cX5_told 219 = .ok (.invokevirtual 170, 3) := by decide +kernel
theorem dX5_told_222 : decode cX5_told 222 = .ok (.i2l, 1) := by decide +kernel
theorem dX5_told_223 : decode cX5_told 223 = .ok (.lreturn, 1) := by decide +kernel
theorem dX5_told_224 : decode cX5_told 224 = .ok (.aload_n 0, 1) := by decide +kernel
theorem dX5_told_225 : decode cX5_told 225 = .ok (.getfield 37, 3) := by decide +kernel
theorem dX5_told_228 : decode cX5_told 228 = .ok (.invokevirtual 173, 3) := by decide +kernel
theorem dX5_told_231 : decode cX5_told 231 = .ok (.getfield 177, 3) := by decide +kernel
theorem dX5_told_234 : decode cX5_told 234 = .ok (.i2l, 1) := by decide +kernel
theorem dX5_told_235 : decode cX5_told 235 = .ok (.lreturn, 1) := by decide +kernel
theorem dX5_told_236 : decode cX5_told 236 = .ok (.aload_n 0, 1) := by decide +kernel
theorem dX5_told_237 : decode cX5_told 237 = .ok (.getfield 28, 3) := by decide +kernel
theorem dX5_told_240 : decode cX5_told 240 = .ok (.getfield 129, 3) := by decide +kernel
theorem dX5_told_243 : decode cX5_told 243 = .ok (.i2l, 1) := by decide +kernel
theorem dX5_told_244 : decode cX5_told 244 = .ok (.lreturn, 1) := by decide +kernel
theorem dX5_told_245 : decode cX5_told 245 = .ok (.ldc2_w 180, 3) := by decide +kernel
theorem dX5_told_248 : decode cX5_told 248 = .ok (.lreturn, 1) := by decide +kernel
set_option maxRecDepth 20000 in
theorem ggX5_letter_X1_hasLetter : GoodIn wsX5_letter wsX1_hasLetter := goodIn_r _ [9, 10, 11, 12, 13, 36, 37, 38, 39, 40, 41] (by decide +kernel) (by decide +kernel)
set_option maxRecDepth 20000 in
theorem gX5_letter_X1_hasLetter : GoodIn wsX5_letter (wsV RX5 68 RX1 yX1_hasLetter wsX1_hasLetter) := goodIn_app (goodIn_of _ (by decide +kernel)) ggX5_letter_X1_hasLetter
set_option maxRecDepth 20000 in
theorem ggX5_letter_X1_hasLikeSides : GoodIn wsX5_letter wsX1_hasLikeSides := goodIn_r _ [17, 18, 19, 20, 8, 21, 22, 23, 24, 25, 36, 37, 38, 39, 40, 41] (by decide +kernel) (by decide +kernel)
set_option maxRecDepth 20000 in
theorem gX5_letter_X1_hasLikeSides : GoodIn wsX5_letter (wsV RX5 109 RX1 yX1_hasLikeSides wsX1_hasLikeSides) := goodIn_app (goodIn_of _ (by decide +kernel)) ggX5_letter_X1_hasLikeSides
set_option maxRecDepth 20000 in
theorem ggX5_letter_X1_sumOfSide : GoodIn wsX5_letter wsX1_sumOfSide := goodIn_r _ [29, 18, 19, 20, 8, 21, 22, 23, 24, 25, 36, 37, 38, 39, 40, 41] (by decide +kernel) (by decide +kernel)
set_option maxRecDepth 20000 in
theorem gX5_letter_X1_sumOfSide : GoodIn wsX5_letter (wsV RX5 182 RX1 yX1_sumOfSide wsX1_sumOfSide) := goodIn_app (goodIn_of _ (by decide +kernel)) ggX5_letter_X1_sumOfSide
theorem dX5_letter_0 : decode cX5_letter 0 = .ok (.aload_n 0, 1) := by decide +kernel
theorem dX5_letter_1 : decode cX5_letter 1 = .ok (.getfield 12, 3) := by decide +kernel
theorem dX5_letter_4 : decode cX5_letter 4 = .ok (.iload_n 1, 1) := by decide +kernel
theorem dX5_letter_5 : decode cX5_letter 5 = .ok (.invokevirtual 68, 3) := by decide +kernel
theorem dX5_letter_8 : decode cX5_letter 8 = .ok (.ifCond .ne 6, 3) := by decide +kernel
theorem dX5_letter_11 : decode cX5_letter 11 = .ok (.ldc 75, 2) := by decide +kernel
theorem dX5_letter_13 : decode cX5_letter 13 = .ok (.ireturn, 1) := by decide +kernel
theorem dX5_letter_14 : decode cX5_letter 14 = .ok (.iload_n 2, 1) := by decide +kernel
theorem dX5_letter_15 : decode cX5_letter 15 = .ok (.tableswitch 76 0 3 #[29, 39, 56, 66], 29) := by decide +kernel
theorem dX5_letter_44 : decode cX5_letter 44 = .ok (.aload_n 0, 1) := by decide +kernel
theorem dX5_letter_45 : decode cX5_letter 45 = .ok (.getfield 12, 3) := by decide +kernel
theorem dX5_letter_48 : decode cX5_letter 48 = .ok (.getfield 87, 3) := by decide +kernel
theorem dX5_letter_51 : decode cX5_letter 51 = .ok (.iload_n 1, 1) := by decide +kernel
theorem dX5_letter_52 : decode cX5_letter 52 = .ok (.iaload, 1) := by decide +kernel
theorem dX5_letter_53 : decode cX5_letter 53 = .ok (.ireturn, 1) := by decide +kernel
theorem dX5_letter_54 : decode cX5_letter 54 = .ok (.aload_n 0, 1) := by decide +kernel
theorem dX5_letter_55 : decode cX5_letter 55 = .ok (.getfield 12, 3) := by decide +kernel
theorem dX5_letter_58 : decode cX5_letter 58 = .ok (.iload_n 1, 1) := by decide +kernel
theorem dX5_letter_59 : decode cX5_letter 59 = .ok (.invokevirtual 109, 3) := by decide +kernel
theorem dX5_letter_62 : decode cX5_letter 62 = .ok (.ifCond .eq 7, 3) := by decide +kernel
theorem dX5_letter_65 : decode cX5_letter 65 = .ok (.iconst 1, 1) := by decide +kernel
theorem dX5_letter_66 : decode cX5_letter 66 = .ok (.goto 4, 3) := by decide +kernel
theorem dX5_letter_69 : decode cX5_letter 69 = .ok (.iconst 0, 1) := by decide +kernel
theorem dX5_letter_70 : decode cX5_letter 70 = .ok (.ireturn, 1) := by decide +kernel
theorem dX5_letter_71 : decode cX5_letter 71 = .ok (.aload_n 0, 1) := by decide +kernel
theorem dX5_letter_72 : decode cX5_letter 72 = .ok (.getfield 12, 3) := by decide +kernel
theorem dX5_letter_75 : decode cX5_letter 75 = .ok (.iload_n 1, 1) := by decide +kernel
theorem dX5_letter_76 : decode cX5_letter 76 = .ok (.iconst 0, 1) := by decide +kernel
theorem dX5_letter_77 : decode cX5_letter 77 = .ok (.invokevirtual 182, 3) := by decide +kernel
theorem dX5_letter_80 : decode cX5_letter 80 = .ok (.ireturn, 1) := by decide +kernel
theorem dX5_letter_81 : decode cX5_letter 81 = .ok (.aload_n 0, 1) := by decide +kernel
theorem dX5_letter_82 : decode cX5_letter 82 = .ok (.getfield 12, 3) := by decide +kernel
theorem dX5_letter_85 : decode cX5_letter 85 = .ok (.iload_n 1, 1) := by decide +kernel
theorem dX5_letter_86 : decode cX5_letter 86 = .ok (.iconst 1, 1) := by decide +kernel
theorem dX5_letter_87 : decode cX5_letter 87 = .ok (.invokevirtual 182, 3) := by decide +kernel
theorem dX5_letter_90 : decode cX5_letter 90 = .ok (.ireturn, 1) := by decide +kernel
theorem dX5_letter_91 : decode cX5_letter 91 = .ok (.ldc 53, 2) := by decide +kernel
theorem dX5_letter_93 : decode cX5_letter 93 = .ok (.ireturn, 1) := by decide +kernel
set_option maxRecDepth 20000 in
theorem ggX5_back_X1_hasLetter : GoodIn wsX5_back wsX1_hasLetter := goodIn_r _ [8, 9, 10, 11, 12, 34, 35, 36, 37, 38, 39] (by decide +kernel) (by decide +kernel)
set_option maxRecDepth 20000 in
theorem gX5_back_X1_hasLetter : GoodIn wsX5_back (wsV RX5 68 RX1 yX1_hasLetter wsX1_hasLetter) := goodIn_app (goodIn_of _ (by decide +kernel)) ggX5_back_X1_hasLetter
set_option maxRecDepth 20000 in
theorem ggX5_back_X5_isHeight : GoodIn wsX5_back wsX5_isHeight := goodIn_r _ [15, 16, 10, 11, 12] (by decide +kernel) (by decide +kernel)
set_option maxRecDepth 20000 in
theorem gX5_back_X5_isHeight : GoodIn wsX5_back (va_wsS RX5 72 yX5_isHeight wsX5_isHeight) := goodIn_app (goodIn_of _ (by decide +kernel)) ggX5_back_X5_isHeight
set_option maxRecDepth 20000 in
theorem ggX5_back_X5_isSide : GoodIn wsX5_back wsX5_isSide := goodIn_r _ [19, 16, 10, 11, 12] (by decide +kernel) (by decide +kernel)
set_option maxRecDepth 20000 in
theorem gX5_back_X5_isSide : GoodIn wsX5_back (va_wsS RX5 76 yX5_isSide wsX5_isSide) := goodIn_app (goodIn_of _ (by decide +kernel)) ggX5_back_X5_isSide
set_option maxRecDepth 20000 in
theorem ggX5_back_X1_backOf : GoodIn wsX5_back wsX1_backOf := goodIn_r _ [23, 24, 25, 26, 7, 27, 34, 35, 36, 37, 38, 39] (by decide +kernel) (by decide +kernel)
set_option maxRecDepth 20000 in
theorem gX5_back_X1_backOf : GoodIn wsX5_back (wsV RX5 79 RX1 yX1_backOf wsX1_backOf) := goodIn_app (goodIn_of _ (by decide +kernel)) ggX5_back_X1_backOf
theorem dX5_back_0 : decode cX5_back 0 = .ok (.aload_n 0, 1) := by decide +kernel
theorem dX5_back_1 : decode cX5_back 1 = .ok (.getfield 12, 3) := by decide +kernel
theorem dX5_back_4 : decode cX5_back 4 = .ok (.iload_n 1, 1) := by decide +kernel
theorem dX5_back_5 : decode cX5_back 5 = .ok (.invokevirtual 68, 3) := by decide +kernel
theorem dX5_back_8 : decode cX5_back 8 = .ok (.ifCond .eq 10, 3) := by decide +kernel
theorem dX5_back_11 : decode cX5_back 11 = .ok (.iload_n 3, 1) := by decide +kernel
theorem dX5_back_12 : decode cX5_back 12 = .ok (.invokestatic 72, 3) := by decide +kernel
theorem dX5_back_15 : decode cX5_back 15 = .ok (.ifCond .ne 6, 3) := by decide +kernel
theorem dX5_back_18 : decode cX5_back 18 = .ok (.ldc 75, 2) := by decide +kernel
theorem dX5_back_20 : decode cX5_back 20 = .ok (.ireturn, 1) := by decide +kernel
theorem dX5_back_21 : decode cX5_back 21 = .ok (.iload_n 2, 1) := by decide +kernel
theorem dX5_back_22 : decode cX5_back 22 = .ok (.invokestatic 76, 3) := by decide +kernel
theorem dX5_back_25 : decode cX5_back 25 = .ok (.ifCond .ne 6, 3) := by decide +kernel
theorem dX5_back_28 : decode cX5_back 28 = .ok (.ldc 53, 2) := by decide +kernel
theorem dX5_back_30 : decode cX5_back 30 = .ok (.ireturn, 1) := by decide +kernel
theorem dX5_back_31 : decode cX5_back 31 = .ok (.aload_n 0, 1) := by decide +kernel
theorem dX5_back_32 : decode cX5_back 32 = .ok (.getfield 12, 3) := by decide +kernel
theorem dX5_back_35 : decode cX5_back 35 = .ok (.iload_n 1, 1) := by decide +kernel
theorem dX5_back_36 : decode cX5_back 36 = .ok (.iload_n 2, 1) := by decide +kernel
theorem dX5_back_37 : decode cX5_back 37 = .ok (.iload_n 3, 1) := by decide +kernel
theorem dX5_back_38 : decode cX5_back 38 = .ok (.invokevirtual 79, 3) := by decide +kernel
theorem dX5_back_41 : decode cX5_back 41 = .ok (.ireturn, 1) := by decide +kernel
set_option maxRecDepth 20000 in
theorem ggX5_space_X1_hasLetter : GoodIn wsX5_space wsX1_hasLetter := goodIn_r _ [9, 10, 11, 12, 13, 131, 132, 133, 134, 135, 136] (by decide +kernel) (by decide +kernel)
set_option maxRecDepth 20000 in
theorem gX5_space_X1_hasLetter : GoodIn wsX5_space (wsV RX5 68 RX1 yX1_hasLetter wsX1_hasLetter) := goodIn_app (goodIn_of _ (by decide +kernel)) ggX5_space_X1_hasLetter
set_option maxRecDepth 20000 in
theorem ggX5_space_X5_isSide : GoodIn wsX5_space wsX5_isSide := goodIn_r _ [16, 17, 11, 12, 13] (by decide +kernel) (by decide +kernel)
set_option maxRecDepth 20000 in
theorem gX5_space_X5_isSide : GoodIn wsX5_space (va_wsS RX5 76 yX5_isSide wsX5_isSide) := goodIn_app (goodIn_of _ (by decide +kernel)) ggX5_space_X5_isSide
set_option maxRecDepth 20000 in
theorem ggX5_space_X0_find : GoodIn wsX5_space wsX0_find := goodIn_r _ [22, 23, 24, 25, 26, 21, 27, 28, 29, 30, 31, 32, 33, 34, 35, 36, 37, 38, 8, 39, 40, 41, 42, 43, 44, 45, 46, 47, 48, 49, 50, 51, 52, 53, 54, 55, 56, 57, 58, 59, 60, 61, 62, 63, 64, 65, 66, 67, 68, 69, 70, 71, 72, 73, 74, 75, 76, 77, 78, 79, 80, 81, 82, 83, 84, 85, 86, 87, 88, 89, 90, 91, 92, 93, 94, 95, 137, 138, 139, 140, 141, 142, 143, 144, 131, 132, 133, 134, 135, 136] (by decide +kernel) (by decide +kernel)
set_option maxRecDepth 20000 in
theorem gX5_space_X0_find : GoodIn wsX5_space (wsV RX5 137 RX0 yX0_find wsX0_find) := goodIn_app (goodIn_of _ (by decide +kernel)) ggX5_space_X0_find
set_option maxRecDepth 20000 in
theorem ggX5_space_X0_spaceAbove : GoodIn wsX5_space wsX0_spaceAbove := goodIn_r _ [99, 64, 54, 55, 56, 21, 57, 29, 30, 137, 138, 139, 140, 141, 142, 143, 144, 131, 132, 133, 134, 135, 136] (by decide +kernel) (by decide +kernel)
set_option maxRecDepth 20000 in
theorem gX5_space_X0_spaceAbove : GoodIn wsX5_space (wsV RX5 187 RX0 yX0_spaceAbove wsX0_spaceAbove) := goodIn_app (goodIn_of _ (by decide +kernel)) ggX5_space_X0_spaceAbove
set_option maxRecDepth 20000 in
theorem ggX5_space_X0_spaceBelow : GoodIn wsX5_space wsX0_spaceBelow := goodIn_r _ [103, 80, 62, 137, 138, 139, 140, 141, 142, 143, 144] (by decide +kernel) (by decide +kernel)
set_option maxRecDepth 20000 in
theorem gX5_space_X0_spaceBelow : GoodIn wsX5_space (wsV RX5 167 RX0 yX0_spaceBelow wsX0_spaceBelow) := goodIn_app (goodIn_of _ (by decide +kernel)) ggX5_space_X0_spaceBelow
set_option maxRecDepth 20000 in
theorem ggX5_space_X5_aboveOf : GoodIn wsX5_space wsX5_aboveOf := goodIn_r _ [106, 107, 108, 12, 109, 110, 111, 49, 112, 113, 74, 75] (by decide +kernel) (by decide +kernel)
set_option maxRecDepth 20000 in
theorem gX5_space_X5_aboveOf : GoodIn wsX5_space (va_wsS RX5 153 yX5_aboveOf wsX5_aboveOf) := goodIn_app (goodIn_of _ (by decide +kernel)) ggX5_space_X5_aboveOf
set_option maxRecDepth 20000 in
theorem ggX5_space_X5_belowOf : GoodIn wsX5_space wsX5_belowOf := goodIn_r _ [116, 107, 108, 12, 109, 110, 111, 49, 112, 113, 74, 75] (by decide +kernel) (by decide +kernel)
set_option maxRecDepth 20000 in
theorem gX5_space_X5_belowOf : GoodIn wsX5_space (va_wsS RX5 157 yX5_belowOf wsX5_belowOf) := goodIn_app (goodIn_of _ (by decide +kernel)) ggX5_space_X5_belowOf
set_option maxRecDepth 20000 in
theorem ggX5_space_X0_isOpen : GoodIn wsX5_space wsX0_isOpen := goodIn_r _ [120, 63, 54, 55, 56, 21, 57, 29, 30, 137, 138, 139, 140, 141, 142, 143, 144, 131, 132, 133, 134, 135, 136] (by decide +kernel) (by decide +kernel)
set_option maxRecDepth 20000 in
theorem gX5_space_X0_isOpen : GoodIn wsX5_space (wsV RX5 191 RX0 yX0_isOpen wsX0_isOpen) := goodIn_app (goodIn_of _ (by decide +kernel)) ggX5_space_X0_isOpen
set_option maxRecDepth 20000 in
theorem ggX5_space_X0_wholeSpace : GoodIn wsX5_space wsX0_wholeSpace := goodIn_r _ [124, 81, 54, 55, 56, 21, 57, 29, 30, 137, 138, 139, 140, 141, 142, 143, 144, 131, 132, 133, 134, 135, 136] (by decide +kernel) (by decide +kernel)
set_option maxRecDepth 20000 in
theorem gX5_space_X0_wholeSpace : GoodIn wsX5_space (wsV RX5 194 RX0 yX0_wholeSpace wsX0_wholeSpace) := goodIn_app (goodIn_of _ (by decide +kernel)) ggX5_space_X0_wholeSpace
theorem dX5_space_0 : decode cX5_space 0 = .ok (.aload_n 0, 1) := by decide +kernel
theorem dX5_space_1 : decode cX5_space 1 = .ok (.getfield 12, 3) := by decide +kernel
theorem dX5_space_4 : decode cX5_space 4 = .ok (.iload_n 1, 1) := by decide +kernel
theorem dX5_space_5 : decode cX5_space 5 = .ok (.invokevirtual 68, 3) := by decide +kernel
theorem dX5_space_8 : decode cX5_space 8 = .ok (.ifCond .ne 7, 3) := by decide +kernel
theorem dX5_space_11 : decode cX5_space 11 = .ok (.ldc2_w 185, 3) := by decide +kernel
theorem dX5_space_14 : decode cX5_space 14 = .ok (.lreturn, 1) := by decide +kernel
theorem dX5_space_15 : decode cX5_space 15 = .ok (.iload_n 2, 1) := by decide +kernel
theorem dX5_space_16 : decode cX5_space 16 = .ok (.invokestatic 76, 3) := by decide +kernel
theorem dX5_space_19 : decode cX5_space 19 = .ok (.ifCond .ne 7, 3) := by decide +kernel
theorem dX5_space_22 : decode cX5_space 22 = .ok (.ldc2_w 180, 3) := by decide +kernel
theorem dX5_space_25 : decode cX5_space 25 = .ok (.lreturn, 1) := by decide +kernel
theorem dX5_space_26 : decode cX5_space 26 = .ok (.aload_n 0, 1) := by decide +kernel
theorem dX5_space_27 : decode cX5_space 27 = .ok (.getfield 21, 3) := by decide +kernel
theorem dX5_space_30 : decode cX5_space 30 = .ok (.invokevirtual 137, 3) := by decide +kernel
theorem dX5_space_33 : decode cX5_space 33 = .ok (.iload_n 3, 1) := by decide +kernel
theorem dX5_space_34 : decode cX5_space 34 = .ok (.tableswitch 98 0 3 #[30, 50, 70, 88], 30) := by decide +kernel
theorem dX5_space_64 : decode cX5_space 64 = .ok (.aload_n 0, 1) := by decide +kernel
theorem dX5_space_65 : decode cX5_space 65 = .ok (.getfield 21, 3) := by decide +kernel
theorem dX5_space_68 : decode cX5_space 68 = .ok (.iload_n 1, 1) := by decide +kernel
theorem dX5_space_69 : decode cX5_space 69 = .ok (.iload_n 2, 1) := by decide +kernel
theorem dX5_space_70 : decode cX5_space 70 = .ok (.invokevirtual 187, 3) := by decide +kernel
theorem dX5_space_73 : decode cX5_space 73 = .ok (.aload_n 0, 1) := by decide +kernel
theorem dX5_space_74 : decode cX5_space 74 = .ok (.getfield 21, 3) := by decide +kernel
theorem dX5_space_77 : decode cX5_space 77 = .ok (.invokevirtual 167, 3) := by decide +kernel
theorem dX5_space_80 : decode cX5_space 80 = .ok (.invokestatic 153, 3) := by decide +kernel
theorem dX5_space_83 : decode cX5_space 83 = .ok (.lreturn, 1) := by decide +kernel
theorem dX5_space_84 : decode cX5_space 84 = .ok (.aload_n 0, 1) := by decide +kernel
theorem dX5_space_85 : decode cX5_space 85 = .ok (.getfield 21, 3) := by decide +kernel
theorem dX5_space_88 : decode cX5_space 88 = .ok (.iload_n 1, 1) := by decide +kernel
theorem dX5_space_89 : decode cX5_space 89 = .ok (.iload_n 2, 1) := by decide +kernel
theorem dX5_space_90 : decode cX5_space 90 = .ok (.invokevirtual 187, 3) := by decide +kernel
theorem dX5_space_93 : decode cX5_space 93 = .ok (.aload_n 0, 1) := by decide +kernel
theorem dX5_space_94 : decode cX5_space 94 = .ok (.getfield 21, 3) := by decide +kernel
theorem dX5_space_97 : decode cX5_space 97 = .ok (.invokevirtual 167, 3) := by decide +kernel
theorem dX5_space_100 : decode cX5_space 100 = .ok (.invokestatic 157, 3) := by decide +kernel
theorem dX5_space_103 : decode cX5_space 103 = .ok (.lreturn, 1) := by decide +kernel
theorem dX5_space_104 : decode cX5_space 104 = .ok (.aload_n 0, 1) := by decide +kernel
theorem dX5_space_105 : decode cX5_space 105 = .ok (.getfield 21, 3) := by decide +kernel
theorem dX5_space_108 : decode cX5_space 108 = .ok (.iload_n 1, 1) := by decide +kernel
theorem dX5_space_109 : decode cX5_space 109 = .ok (.iload_n 2, 1) := by decide +kernel
theorem dX5_space_110 : decode cX5_space 110 = .ok (.invokevirtual 191, 3) := by decide +kernel
theorem dX5_space_113 : decode cX5_space 113 = .ok (.ifCond .eq 7, 3) := by decide +kernel
theorem dX5_space_116 : decode cX5_space 116 = .ok (.lconst 1, 1) := by decide +kernel
theorem dX5_space_117 : decode cX5_space 117 = .ok (.goto 4, 3) := by decide +kernel
theorem dX5_space_120 : decode cX5_space 120 = .ok (.lconst 0, 1) := by decide +kernel
theorem dX5_space_121 : decode cX5_space 121 = .ok (.lreturn, 1) := by decide +kernel
theorem dX5_space_122 : decode cX5_space 122 = .ok (.aload_n 0, 1) := by decide +kernel
theorem dX5_space_123 : decode cX5_space 123 = .ok (.getfield 21, 3) := by decide +kernel
theorem dX5_space_126 : decode cX5_space 126 = .ok (.iload_n 1, 1) := by decide +kernel
theorem dX5_space_127 : decode cX5_space 127 = .ok (.iload_n 2, 1) := by decide +kernel
theorem dX5_space_128 : decode cX5_space 128 = .ok (.invokevirtual 194, 3) := by decide +kernel
theorem dX5_space_131 : decode cX5_space 131 = .ok (.lreturn, 1) := by decide +kernel
theorem dX5_space_132 : decode cX5_space 132 = .ok (.ldc2_w 180, 3) := by decide +kernel
theorem dX5_space_135 : decode cX5_space 135 = .ok (.lreturn, 1) := by decide +kernel
set_option maxRecDepth 20000 in
theorem ggX5_pair_X1_hasPair : GoodIn wsX5_pair wsX1_hasPair := goodIn_r _ [9, 10, 11, 12, 8, 13, 14, 15, 16, 17, 134, 135, 136, 137, 138, 139] (by decide +kernel) (by decide +kernel)
set_option maxRecDepth 20000 in
theorem gX5_pair_X1_hasPair : GoodIn wsX5_pair (wsV RX5 97 RX1 yX1_hasPair wsX1_hasPair) := goodIn_app (goodIn_of _ (by decide +kernel)) ggX5_pair_X1_hasPair
set_option maxRecDepth 20000 in
theorem ggX5_pair_X0_find : GoodIn wsX5_pair wsX0_find := goodIn_r _ [22, 23, 24, 25, 26, 21, 27, 28, 29, 30, 31, 32, 33, 34, 35, 36, 37, 38, 8, 39, 40, 41, 42, 43, 44, 45, 46, 47, 48, 49, 50, 51, 52, 53, 54, 55, 56, 57, 58, 59, 60, 61, 62, 63, 64, 65, 66, 67, 68, 69, 70, 71, 72, 73, 74, 75, 76, 77, 78, 79, 80, 81, 82, 83, 84, 85, 86, 87, 88, 89, 90, 91, 92, 93, 94, 95, 140, 141, 142, 143, 144, 145, 146, 147, 134, 135, 136, 137, 138, 139] (by decide +kernel) (by decide +kernel)
set_option maxRecDepth 20000 in
theorem gX5_pair_X0_find : GoodIn wsX5_pair (wsV RX5 137 RX0 yX0_find wsX0_find) := goodIn_app (goodIn_of _ (by decide +kernel)) ggX5_pair_X0_find
set_option maxRecDepth 20000 in
theorem ggX5_pair_X1_weightOf : GoodIn wsX5_pair wsX1_weightOf := goodIn_r _ [39, 40, 134, 135, 136, 137, 138, 139] (by decide +kernel) (by decide +kernel)
set_option maxRecDepth 20000 in
theorem gX5_pair_X1_weightOf : GoodIn wsX5_pair (wsV RX5 101 RX1 yX1_weightOf wsX1_weightOf) := goodIn_app (goodIn_of _ (by decide +kernel)) ggX5_pair_X1_weightOf
set_option maxRecDepth 20000 in
theorem ggX5_pair_X1_bareOf : GoodIn wsX5_pair wsX1_bareOf := goodIn_r _ [44, 45, 46, 47, 48, 49, 50, 51, 52, 8, 53, 134, 135, 136, 137, 138, 139] (by decide +kernel) (by decide +kernel)
set_option maxRecDepth 20000 in
theorem gX5_pair_X1_bareOf : GoodIn wsX5_pair (wsV RX5 197 RX1 yX1_bareOf wsX1_bareOf) := goodIn_app (goodIn_of _ (by decide +kernel)) ggX5_pair_X1_bareOf
set_option maxRecDepth 20000 in
theorem ggX5_pair_X0_whiteAbove : GoodIn wsX5_pair wsX0_whiteAbove := goodIn_r _ [101, 29, 62, 102, 103, 104, 21, 105, 64, 54, 55, 56, 57, 30, 41, 42, 43, 8, 44, 45, 46, 47, 48, 49, 50, 51, 52, 53, 140, 141, 142, 143, 144, 145, 146, 147, 134, 135, 136, 137, 138, 139] (by decide +kernel) (by decide +kernel)
set_option maxRecDepth 20000 in
theorem gX5_pair_X0_whiteAbove : GoodIn wsX5_pair (wsV RX5 200 RX0 yX0_whiteAbove wsX0_whiteAbove) := goodIn_app (goodIn_of _ (by decide +kernel)) ggX5_pair_X0_whiteAbove
set_option maxRecDepth 20000 in
theorem ggX5_pair_X0_whiteBelow : GoodIn wsX5_pair wsX0_whiteBelow := goodIn_r _ [109, 62, 140, 141, 142, 143, 144, 145, 146, 147] (by decide +kernel) (by decide +kernel)
set_option maxRecDepth 20000 in
theorem gX5_pair_X0_whiteBelow : GoodIn wsX5_pair (wsV RX5 203 RX0 yX0_whiteBelow wsX0_whiteBelow) := goodIn_app (goodIn_of _ (by decide +kernel)) ggX5_pair_X0_whiteBelow
set_option maxRecDepth 20000 in
theorem ggX5_pair_X5_aboveOf : GoodIn wsX5_pair wsX5_aboveOf := goodIn_r _ [112, 113, 114, 16, 115, 116, 117, 49, 118, 119, 74, 75] (by decide +kernel) (by decide +kernel)
set_option maxRecDepth 20000 in
theorem gX5_pair_X5_aboveOf : GoodIn wsX5_pair (va_wsS RX5 153 yX5_aboveOf wsX5_aboveOf) := goodIn_app (goodIn_of _ (by decide +kernel)) ggX5_pair_X5_aboveOf
set_option maxRecDepth 20000 in
theorem ggX5_pair_X5_belowOf : GoodIn wsX5_pair wsX5_belowOf := goodIn_r _ [122, 113, 114, 16, 115, 116, 117, 49, 118, 119, 74, 75] (by decide +kernel) (by decide +kernel)
set_option maxRecDepth 20000 in
theorem gX5_pair_X5_belowOf : GoodIn wsX5_pair (va_wsS RX5 157 yX5_belowOf wsX5_belowOf) := goodIn_app (goodIn_of _ (by decide +kernel)) ggX5_pair_X5_belowOf
set_option maxRecDepth 20000 in
theorem ggX5_pair_X0_leftOverAbove : GoodIn wsX5_pair wsX0_leftOverAbove := goodIn_r _ [126, 29, 35, 62, 127, 99, 100, 21, 101, 102, 103, 104, 105, 64, 54, 55, 56, 57, 30, 41, 42, 43, 8, 44, 45, 46, 47, 48, 49, 50, 51, 52, 53, 140, 141, 142, 143, 144, 145, 146, 147, 134, 135, 136, 137, 138, 139] (by decide +kernel) (by decide +kernel)
set_option maxRecDepth 20000 in
theorem gX5_pair_X0_leftOverAbove : GoodIn wsX5_pair (wsV RX5 206 RX0 yX0_leftOverAbove wsX0_leftOverAbove) := goodIn_app (goodIn_of _ (by decide +kernel)) ggX5_pair_X0_leftOverAbove
theorem dX5_pair_0 : decode cX5_pair 0 = .ok (.aload_n 0, 1) := by decide +kernel
theorem dX5_pair_1 : decode cX5_pair 1 = .ok (.getfield 12, 3) := by decide +kernel
theorem dX5_pair_4 : decode cX5_pair 4 = .ok (.iload_n 1, 1) := by decide +kernel
theorem dX5_pair_5 : decode cX5_pair 5 = .ok (.iload_n 2, 1) := by decide +kernel
theorem dX5_pair_6 : decode cX5_pair 6 = .ok (.invokevirtual 97, 3) := by decide +kernel
theorem dX5_pair_9 : decode cX5_pair 9 = .ok (.ifCond .ne 7, 3) := by decide +kernel
theorem dX5_pair_12 : decode cX5_pair 12 = .ok (.ldc2_w 185, 3) := by decide +kernel
theorem dX5_pair_15 : decode cX5_pair 15 = .ok (.lreturn, 1) := by decide +kernel
theorem dX5_pair_16 : decode cX5_pair 16 = .ok (.aload_n 0, 1) := by decide +kernel
theorem dX5_pair_17 : decode cX5_pair 17 = .ok (.getfield 21, 3) := by decide +kernel
theorem dX5_pair_20 : decode cX5_pair 20 = .ok (.invokevirtual 137, 3) := by decide +kernel
theorem dX5_pair_23 : decode cX5_pair 23 = .ok (.iload_n 3, 1) := by decide +kernel
theorem dX5_pair_24 : decode cX5_pair 24 = .ok (.tableswitch 142 0 5 #[40, 51, 62, 82, 102, 122], 40) := by decide +kernel
theorem dX5_pair_64 : decode cX5_pair 64 = .ok (.aload_n 0, 1) := by decide +kernel
theorem dX5_pair_65 : decode cX5_pair 65 = .ok (.getfield 12, 3) := by decide +kernel
theorem dX5_pair_68 : decode cX5_pair 68 = .ok (.iload_n 1, 1) := by decide +kernel
theorem dX5_pair_69 : decode cX5_pair 69 = .ok (.iload_n 2, 1) := by decide +kernel
theorem dX5_pair_70 : decode cX5_pair 70 = .ok (.invokevirtual 101, 3) := by decide +kernel
theorem dX5_pair_73 : decode cX5_pair 73 = .ok (.i2l, 1) := by decide +kernel
theorem dX5_pair_74 : decode cX5_pair 74 = .ok (.lreturn, 1) := by decide +kernel
theorem dX5_pair_75 : decode cX5_pair 75 = .ok (.aload_n 0, 1) := by decide +kernel
theorem dX5_pair_76 : decode cX5_pair 76 = .ok (.getfield 12, 3) := by decide +kernel
theorem dX5_pair_79 : decode cX5_pair 79 = .ok (.iload_n 1, 1) := by decide +kernel
theorem dX5_pair_80 : decode cX5_pair 80 = .ok (.iload_n 2, 1) := by decide +kernel
theorem dX5_pair_81 : decode cX5_pair 81 = .ok (.invokevirtual 197, 3) := by decide +kernel
theorem dX5_pair_84 : decode cX5_pair 84 = .ok (.i2l, 1) := by decide +kernel
theorem dX5_pair_85 : decode cX5_pair 85 = .ok (.lreturn, 1) := by decide +kernel
theorem dX5_pair_86 : decode cX5_pair 86 = .ok (.aload_n 0, 1) := by decide +kernel
theorem dX5_pair_87 : decode cX5_pair 87 = .ok (.getfield 21, 3) := by decide +kernel
theorem dX5_pair_90 : decode cX5_pair 90 = .ok (.iload_n 1, 1) := by decide +kernel
theorem dX5_pair_91 : decode cX5_pair 91 = .ok (.iload_n 2, 1) := by decide +kernel
theorem dX5_pair_92 : decode cX5_pair 92 = .ok (.invokevirtual 200, 3) := by decide +kernel
theorem dX5_pair_95 : decode cX5_pair 95 = .ok (.aload_n 0, 1) := by decide +kernel
theorem dX5_pair_96 : decode cX5_pair 96 = .ok (.getfield 21, 3) := by decide +kernel
theorem dX5_pair_99 : decode cX5_pair 99 = .ok (.invokevirtual 203, 3) := by decide +kernel
theorem dX5_pair_102 : decode cX5_pair 102 = .ok (.invokestatic 153, 3) := by decide +kernel
theorem dX5_pair_105 : decode cX5_pair 105 = .ok (.lreturn, 1) := by decide +kernel
theorem dX5_pair_106 : decode cX5_pair 106 = .ok (.aload_n 0, 1) := by decide +kernel
theorem dX5_pair_107 : decode cX5_pair 107 = .ok (.getfield 21, 3) := by decide +kernel
theorem dX5_pair_110 : decode cX5_pair 110 = .ok (.iload_n 1, 1) := by decide +kernel
theorem dX5_pair_111 : decode cX5_pair 111 = .ok (.iload_n 2, 1) := by decide +kernel
theorem dX5_pair_112 : decode cX5_pair 112 = .ok (.invokevirtual 200, 3) := by decide +kernel
theorem dX5_pair_115 : decode cX5_pair 115 = .ok (.aload_n 0, 1) := by decide +kernel
theorem dX5_pair_116 : decode cX5_pair 116 = .ok (.getfield 21, 3) := by decide +kernel
theorem dX5_pair_119 : decode cX5_pair 119 = .ok (.invokevirtual 203, 3) := by decide +kernel
theorem dX5_pair_122 : decode cX5_pair 122 = .ok (.invokestatic 157, 3) := by decide +kernel
theorem dX5_pair_125 : decode cX5_pair 125 = .ok (.lreturn, 1) := by decide +kernel
theorem dX5_pair_126 : decode cX5_pair 126 = .ok (.aload_n 0, 1) := by decide +kernel
theorem dX5_pair_127 : decode cX5_pair 127 = .ok (.getfield 21, 3) := by decide +kernel
theorem dX5_pair_130 : decode cX5_pair 130 = .ok (.iload_n 1, 1) := by decide +kernel
theorem dX5_pair_131 : decode cX5_pair 131 = .ok (.iload_n 2, 1) := by decide +kernel
theorem dX5_pair_132 : decode cX5_pair 132 = .ok (.invokevirtual 206, 3) := by decide +kernel
theorem dX5_pair_135 : decode cX5_pair 135 = .ok (.aload_n 0, 1) := by decide +kernel
theorem dX5_pair_136 : decode cX5_pair 136 = .ok (.getfield 21, 3) := by decide +kernel
theorem dX5_pair_139 : decode cX5_pair 139 = .ok (.invokevirtual 203, 3) := by decide +kernel
theorem dX5_pair_142 : decode cX5_pair 142 = .ok (.invokestatic 153, 3) := by decide +kernel
theorem dX5_pair_145 : decode cX5_pair 145 = .ok (.lreturn, 1) := by decide +kernel
theorem dX5_pair_146 : decode cX5_pair 146 = .ok (.aload_n 0, 1) := by decide +kernel
theorem dX5_pair_147 : decode cX5_pair 147 = .ok (.getfield 21, 3) := by decide +kernel
theorem dX5_pair_150 : decode cX5_pair 150 = .ok (.iload_n 1, 1) := by decide +kernel
theorem dX5_pair_151 : decode cX5_pair 151 = .ok (.iload_n 2, 1) := by decide +kernel
theorem dX5_pair_152 : decode cX5_pair 152 = .ok (.invokevirtual 206, 3) := by decide +kernel
theorem dX5_pair_155 : decode cX5_pair 155 = .ok (.aload_n 0, 1) := by decide +kernel
theorem dX5_pair_156 : decode cX5_pair 156 = .ok (.getfield 21, 3) := by decide +kernel
theorem dX5_pair_159 : decode cX5_pair 159 = .ok (.invokevirtual 203, 3) := by decide +kernel
theorem dX5_pair_162 : decode cX5_pair 162 = .ok (.invokestatic 157, 3) := by decide +kernel
theorem dX5_pair_165 : decode cX5_pair 165 = .ok (.lreturn, 1) := by decide +kernel
theorem dX5_pair_166 : decode cX5_pair 166 = .ok (.ldc2_w 180, 3) := by decide +kernel
theorem dX5_pair_169 : decode cX5_pair 169 = .ok (.lreturn, 1) := by decide +kernel
set_option maxRecDepth 20000 in
theorem ggX5_white_X1_hasPair : GoodIn wsX5_white wsX1_hasPair := goodIn_r _ [9, 10, 11, 12, 8, 13, 14, 15, 16, 17, 107, 108, 109, 110, 111, 112] (by decide +kernel) (by decide +kernel)
set_option maxRecDepth 20000 in
theorem gX5_white_X1_hasPair : GoodIn wsX5_white (wsV RX5 97 RX1 yX1_hasPair wsX1_hasPair) := goodIn_app (goodIn_of _ (by decide +kernel)) ggX5_white_X1_hasPair
set_option maxRecDepth 20000 in
theorem ggX5_white_X0_find : GoodIn wsX5_white wsX0_find := goodIn_r _ [22, 23, 24, 25, 26, 21, 27, 28, 29, 30, 31, 32, 33, 34, 35, 36, 37, 38, 8, 39, 40, 41, 42, 43, 44, 45, 46, 47, 48, 49, 50, 51, 52, 53, 54, 55, 56, 57, 58, 59, 60, 61, 62, 63, 64, 65, 66, 67, 68, 69, 70, 71, 72, 73, 74, 75, 76, 77, 78, 79, 80, 81, 82, 83, 84, 85, 86, 87, 88, 89, 90, 91, 92, 93, 94, 95, 113, 114, 115, 116, 117, 118, 119, 120, 107, 108, 109, 110, 111, 112] (by decide +kernel) (by decide +kernel)
set_option maxRecDepth 20000 in
theorem gX5_white_X0_find : GoodIn wsX5_white (wsV RX5 137 RX0 yX0_find wsX0_find) := goodIn_app (goodIn_of _ (by decide +kernel)) ggX5_white_X0_find
set_option maxRecDepth 20000 in
theorem ggX5_white_X0_wholeSpace : GoodIn wsX5_white wsX0_wholeSpace := goodIn_r _ [99, 81, 54, 55, 56, 21, 57, 29, 30, 113, 114, 115, 116, 117, 118, 119, 120, 107, 108, 109, 110, 111, 112] (by decide +kernel) (by decide +kernel)
set_option maxRecDepth 20000 in
theorem gX5_white_X0_wholeSpace : GoodIn wsX5_white (wsV RX5 194 RX0 yX0_wholeSpace wsX0_wholeSpace) := goodIn_app (goodIn_of _ (by decide +kernel)) ggX5_white_X0_wholeSpace
set_option maxRecDepth 20000 in
theorem ggX5_white_X1_bareOf : GoodIn wsX5_white wsX1_bareOf := goodIn_r _ [44, 45, 46, 47, 48, 49, 50, 51, 52, 8, 53, 107, 108, 109, 110, 111, 112] (by decide +kernel) (by decide +kernel)
set_option maxRecDepth 20000 in
theorem gX5_white_X1_bareOf : GoodIn wsX5_white (wsV RX5 197 RX1 yX1_bareOf wsX1_bareOf) := goodIn_app (goodIn_of _ (by decide +kernel)) ggX5_white_X1_bareOf
theorem dX5_white_0 : decode cX5_white 0 = .ok (.aload_n 0, 1) := by decide +kernel
theorem dX5_white_1 : decode cX5_white 1 = .ok (.getfield 12, 3) := by decide +kernel
theorem dX5_white_4 : decode cX5_white 4 = .ok (.iload_n 1, 1) := by decide +kernel
theorem dX5_white_5 : decode cX5_white 5 = .ok (.iload_n 2, 1) := by decide +kernel
theorem dX5_white_6 : decode cX5_white 6 = .ok (.invokevirtual 97, 3) := by decide +kernel
theorem dX5_white_9 : decode cX5_white 9 = .ok (.ifCond .ne 6, 3) := by decide +kernel
theorem dX5_white_12 : decode cX5_white 12 = .ok (.ldc 75, 2) := by decide +kernel
theorem dX5_white_14 : decode cX5_white 14 = .ok (.ireturn, 1) := by decide +kernel
theorem dX5_white_15 : decode cX5_white 15 = .ok (.aload_n 0, 1) := by decide +kernel
theorem dX5_white_16 : decode cX5_white 16 = .ok (.getfield 21, 3) := by decide +kernel
theorem dX5_white_19 : decode cX5_white 19 = .ok (.invokevirtual 137, 3) := by decide +kernel
theorem dX5_white_22 : decode cX5_white 22 = .ok (.aload_n 0, 1) := by decide +kernel
theorem dX5_white_23 : decode cX5_white 23 = .ok (.getfield 21, 3) := by decide +kernel
theorem dX5_white_26 : decode cX5_white 26 = .ok (.iload_n 1, 1) := by decide +kernel
theorem dX5_white_27 : decode cX5_white 27 = .ok (.iconst 1, 1) := by decide +kernel
theorem dX5_white_28 : decode cX5_white 28 = .ok (.invokevirtual 194, 3) := by decide +kernel
theorem dX5_white_31 : decode cX5_white 31 = .ok (.aload_n 0, 1) := by decide +kernel
theorem dX5_white_32 : decode cX5_white 32 = .ok (.getfield 21, 3) := by decide +kernel
theorem dX5_white_35 : decode cX5_white 35 = .ok (.iload_n 2, 1) := by decide +kernel
theorem dX5_white_36 : decode cX5_white 36 = .ok (.iconst 0, 1) := by decide +kernel
theorem dX5_white_37 : decode cX5_white 37 = .ok (.invokevirtual 194, 3) := by decide +kernel
theorem dX5_white_40 : decode cX5_white 40 = .ok (.ladd, 1) := by decide +kernel
theorem dX5_white_41 : decode cX5_white 41 = .ok (.lstore_n 3, 1) := by decide +kernel
theorem dX5_white_42 : decode cX5_white 42 = .ok (.aload_n 0, 1) := by decide +kernel
theorem dX5_white_43 : decode cX5_white 43 = .ok (.getfield 12, 3) := by decide +kernel
theorem dX5_white_46 : decode cX5_white 46 = .ok (.iload_n 1, 1) := by decide +kernel
theorem dX5_white_47 : decode cX5_white 47 = .ok (.iload_n 2, 1) := by decide +kernel
theorem dX5_white_48 : decode cX5_white 48 = .ok (.invokevirtual 197, 3) := by decide +kernel
theorem dX5_white_51 : decode cX5_white 51 = .ok (.i2l, 1) := by decide +kernel
theorem dX5_white_52 : decode cX5_white 52 = .ok (.ldc2_w 209, 3) := by decide +kernel
theorem dX5_white_55 : decode cX5_white 55 = .ok (.lload_n 3, 1) := by decide +kernel
theorem dX5_white_56 : decode cX5_white 56 = .ok (.lmul, 1) := by decide +kernel
theorem dX5_white_57 : decode cX5_white 57 = .ok (.ladd, 1) := by decide +kernel
theorem dX5_white_58 : decode cX5_white 58 = .ok (.l2i, 1) := by decide +kernel
theorem dX5_white_59 : decode cX5_white 59 = .ok (.ireturn, 1) := by decide +kernel
set_option maxRecDepth 20000 in
theorem ggX5_set_X1_hasLetter : GoodIn wsX5_set wsX1_hasLetter := goodIn_r _ [10, 11, 12, 13, 14, 33, 34, 35, 36, 37, 38] (by decide +kernel) (by decide +kernel)
set_option maxRecDepth 20000 in
theorem gX5_set_X1_hasLetter : GoodIn wsX5_set (wsV RX5 68 RX1 yX1_hasLetter wsX1_hasLetter) := goodIn_app (goodIn_of _ (by decide +kernel)) ggX5_set_X1_hasLetter
set_option maxRecDepth 20000 in
theorem ggX5_set_X2_add : GoodIn wsX5_set wsX2_add := goodIn_r _ [19, 20, 21, 28, 29, 30, 31, 32] (by decide +kernel) (by decide +kernel)
set_option maxRecDepth 20000 in
theorem gX5_set_X2_add : GoodIn wsX5_set (wsV RX5 212 RX2 yX2_add wsX2_add) := goodIn_app (goodIn_of _ (by decide +kernel)) ggX5_set_X2_add
theorem dX5_set_0 : decode cX5_set 0 = .ok (.aload_n 0, 1) := by decide +kernel
theorem dX5_set_1 : decode cX5_set 1 = .ok (.getfield 12, 3) := by decide +kernel
theorem dX5_set_4 : decode cX5_set 4 = .ok (.iload_n 1, 1) := by decide +kernel
theorem dX5_set_5 : decode cX5_set 5 = .ok (.invokevirtual 68, 3) := by decide +kernel
theorem dX5_set_8 : decode cX5_set 8 = .ok (.ifCond .ne 6, 3) := by decide +kernel
theorem dX5_set_11 : decode cX5_set 11 = .ok (.ldc 75, 2) := by decide +kernel
theorem dX5_set_13 : decode cX5_set 13 = .ok (.ireturn, 1) := by decide +kernel
theorem dX5_set_14 : decode cX5_set 14 = .ok (.aload_n 0, 1) := by decide +kernel
theorem dX5_set_15 : decode cX5_set 15 = .ok (.getfield 37, 3) := by decide +kernel
theorem dX5_set_18 : decode cX5_set 18 = .ok (.getfield 163, 3) := by decide +kernel
theorem dX5_set_21 : decode cX5_set 21 = .ok (.bipush 16, 2) := by decide +kernel
theorem dX5_set_23 : decode cX5_set 23 = .ok (.if_icmp .lt 6, 3) := by decide +kernel
theorem dX5_set_26 : decode cX5_set 26 = .ok (.ldc 211, 2) := by decide +kernel
theorem dX5_set_28 : decode cX5_set 28 = .ok (.ireturn, 1) := by decide +kernel
theorem dX5_set_29 : decode cX5_set 29 = .ok (.aload_n 0, 1) := by decide +kernel
theorem dX5_set_30 : decode cX5_set 30 = .ok (.getfield 37, 3) := by decide +kernel
theorem dX5_set_33 : decode cX5_set 33 = .ok (.iload_n 1, 1) := by decide +kernel
theorem dX5_set_34 : decode cX5_set 34 = .ok (.invokevirtual 212, 3) := by decide +kernel
theorem dX5_set_37 : decode cX5_set 37 = .ok (.aload_n 0, 1) := by decide +kernel
theorem dX5_set_38 : decode cX5_set 38 = .ok (.getfield 37, 3) := by decide +kernel
theorem dX5_set_41 : decode cX5_set 41 = .ok (.getfield 163, 3) := by decide +kernel
end
section
theorem dX5_set_44 : decode cX5_set 44 = .ok (.ireturn, 1) := by decide +kernel
set_option maxRecDepth 20000 in
theorem ggX5_wipe_X2_makeEmpty : GoodIn wsX5_wipe wsX2_makeEmpty := goodIn_r _ [7, 8, 15, 16, 17, 18, 19] (by decide +kernel) (by decide +kernel)
set_option maxRecDepth 20000 in
theorem gX5_wipe_X2_makeEmpty : GoodIn wsX5_wipe (wsV RX5 65 RX2 yX2_makeEmpty wsX2_makeEmpty) := goodIn_app (goodIn_of _ (by decide +kernel)) ggX5_wipe_X2_makeEmpty
theorem dX5_wipe_0 : decode cX5_wipe 0 = .ok (.aload_n 0, 1) := by decide +kernel
theorem dX5_wipe_1 : decode cX5_wipe 1 = .ok (.getfield 37, 3) := by decide +kernel
theorem dX5_wipe_4 : decode cX5_wipe 4 = .ok (.getfield 163, 3) := by decide +kernel
theorem dX5_wipe_7 : decode cX5_wipe 7 = .ok (.istore_n 1, 1) := by decide +kernel
theorem dX5_wipe_8 : decode cX5_wipe 8 = .ok (.aload_n 0, 1) := by decide +kernel
theorem dX5_wipe_9 : decode cX5_wipe 9 = .ok (.getfield 37, 3) := by decide +kernel
theorem dX5_wipe_12 : decode cX5_wipe 12 = .ok (.invokevirtual 65, 3) := by decide +kernel
theorem dX5_wipe_15 : decode cX5_wipe 15 = .ok (.iload_n 1, 1) := by decide +kernel
theorem dX5_wipe_16 : decode cX5_wipe 16 = .ok (.ireturn, 1) := by decide +kernel
set_option maxRecDepth 20000 in
theorem ggX5_place_X2_letterAt : GoodIn wsX5_place wsX2_letterAt := goodIn_r _ [7, 8, 9, 10, 11, 12, 19, 20, 21, 22, 23] (by decide +kernel) (by decide +kernel)
set_option maxRecDepth 20000 in
theorem gX5_place_X2_letterAt : GoodIn wsX5_place (wsV RX5 215 RX2 yX2_letterAt wsX2_letterAt) := goodIn_app (goodIn_of _ (by decide +kernel)) ggX5_place_X2_letterAt
theorem dX5_place_0 : decode cX5_place 0 = .ok (.iload_n 1, 1) := by decide +kernel
theorem dX5_place_1 : decode cX5_place 1 = .ok (.ifCond .ge 8, 3) := by decide +kernel
theorem dX5_place_4 : decode cX5_place 4 = .ok (.ldc 53, 2) := by decide +kernel
theorem dX5_place_6 : decode cX5_place 6 = .ok (.goto 11, 3) := by decide +kernel
theorem dX5_place_9 : decode cX5_place 9 = .ok (.aload_n 0, 1) := by decide +kernel
theorem dX5_place_10 : decode cX5_place 10 = .ok (.getfield 37, 3) := by decide +kernel
theorem dX5_place_13 : decode cX5_place 13 = .ok (.iload_n 1, 1) := by decide +kernel
theorem dX5_place_14 : decode cX5_place 14 = .ok (.invokevirtual 215, 3) := by decide +kernel
theorem dX5_place_17 : decode cX5_place 17 = .ok (.ireturn, 1) := by decide +kernel
set_option maxRecDepth 20000 in
theorem ggX5_sign_X0_find : GoodIn wsX5_sign wsX0_find := goodIn_r _ [8, 9, 10, 11, 12, 7, 13, 14, 15, 16, 17, 18, 19, 20, 21, 22, 23, 24, 25, 26, 27, 28, 29, 30, 31, 32, 33, 34, 35, 36, 37, 38, 39, 40, 41, 42, 43, 44, 45, 46, 47, 48, 49, 50, 51, 52, 53, 54, 55, 56, 57, 58, 59, 60, 61, 62, 63, 64, 65, 66, 67, 68, 69, 70, 71, 72, 73, 74, 75, 76, 77, 78, 79, 80, 81, 82, 161, 162, 163, 164, 165, 166, 167, 168, 169, 170, 171, 172, 173, 174] (by decide +kernel) (by decide +kernel)
set_option maxRecDepth 20000 in
theorem gX5_sign_X0_find : GoodIn wsX5_sign (wsV RX5 137 RX0 yX0_find wsX0_find) := goodIn_app (goodIn_of _ (by decide +kernel)) ggX5_sign_X0_find
set_option maxRecDepth 20000 in
theorem ggX5_sign_X2_written : GoodIn wsX5_sign wsX2_written := goodIn_r _ [87, 88, 89, 90, 91, 92, 93, 94, 95, 96, 97, 98, 99, 100, 86, 101, 102, 103, 104, 7, 105, 15, 21, 49, 106, 107, 108, 109, 110, 111, 112, 113, 51, 41, 42, 43, 44, 16, 28, 29, 30, 25, 31, 32, 33, 34, 35, 36, 37, 38, 39, 40, 114, 115, 116, 117, 118, 119, 120, 121, 122, 123, 124, 125, 126, 127, 128, 67, 129, 130, 131, 132, 133, 134, 135, 136, 137, 138, 139, 61, 62, 140, 141, 142, 143, 144, 145, 146, 147, 148, 175, 176, 177, 178, 179, 180, 181, 161, 162, 163, 164, 165, 166, 167, 168, 169, 170, 171, 172, 173, 174] (by decide +kernel) (by decide +kernel)
set_option maxRecDepth 20000 in
theorem gX5_sign_X2_written : GoodIn wsX5_sign (wsV RX5 173 RX2 yX2_written wsX2_written) := goodIn_app (goodIn_of _ (by decide +kernel)) ggX5_sign_X2_written
set_option maxRecDepth 20000 in
theorem ggX5_sign_X4_signAt : GoodIn wsX5_sign wsX4_signAt := goodIn_r _ [152, 97, 118, 153, 131, 154, 180, 181] (by decide +kernel) (by decide +kernel)
set_option maxRecDepth 20000 in
theorem gX5_sign_X4_signAt : GoodIn wsX5_sign (wsV RX5 219 RX4 yX4_signAt wsX4_signAt) := goodIn_app (goodIn_of _ (by decide +kernel)) ggX5_sign_X4_signAt
theorem dX5_sign_0 : decode cX5_sign 0 = .ok (.iload_n 1, 1) := by decide +kernel
theorem dX5_sign_1 : decode cX5_sign 1 = .ok (.ifCond .ge 6, 3) := by decide +kernel
theorem dX5_sign_4 : decode cX5_sign 4 = .ok (.ldc 53, 2) := by decide +kernel
theorem dX5_sign_6 : decode cX5_sign 6 = .ok (.ireturn, 1) := by decide +kernel
theorem dX5_sign_7 : decode cX5_sign 7 = .ok (.aload_n 0, 1) := by decide +kernel
theorem dX5_sign_8 : decode cX5_sign 8 = .ok (.getfield 21, 3) := by decide +kernel
theorem dX5_sign_11 : decode cX5_sign 11 = .ok (.invokevirtual 137, 3) := by decide +kernel
theorem dX5_sign_14 : decode cX5_sign 14 = .ok (.aload_n 0, 1) := by decide +kernel
theorem dX5_sign_15 : decode cX5_sign 15 = .ok (.getfield 37, 3) := by decide +kernel
theorem dX5_sign_18 : decode cX5_sign 18 = .ok (.invokevirtual 173, 3) := by decide +kernel
theorem dX5_sign_21 : decode cX5_sign 21 = .ok (.iload_n 1, 1) := by decide +kernel
theorem dX5_sign_22 : decode cX5_sign 22 = .ok (.invokevirtual 219, 3) := by decide +kernel
theorem dX5_sign_25 : decode cX5_sign 25 = .ok (.ireturn, 1) := by decide +kernel
set_option maxRecDepth 20000 in
theorem ggX5_keep_X5_isImage : GoodIn wsX5_keep wsX5_isImage := goodIn_r _ [10, 11, 12, 9, 13] (by decide +kernel) (by decide +kernel)
set_option maxRecDepth 20000 in
theorem gX5_keep_X5_isImage : GoodIn wsX5_keep (va_wsS RX5 222 yX5_isImage wsX5_isImage) := goodIn_app (goodIn_of _ (by decide +kernel)) ggX5_keep_X5_isImage
set_option maxRecDepth 20000 in
theorem ggX5_keep_X1_takeAll : GoodIn wsX5_keep wsX1_takeAll := goodIn_r _ [18, 19, 20, 21, 22, 23, 24, 25, 26, 27, 28, 41, 42, 43, 44, 45, 46] (by decide +kernel) (by decide +kernel)
set_option maxRecDepth 20000 in
theorem gX5_keep_X1_takeAll : GoodIn wsX5_keep (wsV RX5 225 RX1 yX1_takeAll wsX1_takeAll) := goodIn_app (goodIn_of _ (by decide +kernel)) ggX5_keep_X1_takeAll
set_option maxRecDepth 20000 in
theorem ggX5_keep_X3_forget : GoodIn wsX5_keep wsX3_forget := goodIn_r _ [33, 34, 47, 48, 49] (by decide +kernel) (by decide +kernel)
set_option maxRecDepth 20000 in
theorem gX5_keep_X3_forget : GoodIn wsX5_keep (wsV RX5 228 RX3 yX3_forget wsX3_forget) := goodIn_app (goodIn_of _ (by decide +kernel)) ggX5_keep_X3_forget
theorem dX5_keep_0 : decode cX5_keep 0 = .ok (.iload_n 1, 1) := by decide +kernel
theorem dX5_keep_1 : decode cX5_keep 1 = .ok (.invokestatic 222, 3) := by decide +kernel
theorem dX5_keep_4 : decode cX5_keep 4 = .ok (.ifCond .ne 6, 3) := by decide +kernel
theorem dX5_keep_7 : decode cX5_keep 7 = .ok (.ldc 75, 2) := by decide +kernel
theorem dX5_keep_9 : decode cX5_keep 9 = .ok (.ireturn, 1) := by decide +kernel
theorem dX5_keep_10 : decode cX5_keep 10 = .ok (.aload_n 0, 1) := by decide +kernel
theorem dX5_keep_11 : decode cX5_keep 11 = .ok (.getfield 41, 3) := by decide +kernel
theorem dX5_keep_14 : decode cX5_keep 14 = .ok (.iload_n 1, 1) := by decide +kernel
theorem dX5_keep_15 : decode cX5_keep 15 = .ok (.aaload, 1) := by decide +kernel
theorem dX5_keep_16 : decode cX5_keep 16 = .ok (.aload_n 0, 1) := by decide +kernel
theorem dX5_keep_17 : decode cX5_keep 17 = .ok (.getfield 12, 3) := by decide +kernel
theorem dX5_keep_20 : decode cX5_keep 20 = .ok (.invokevirtual 225, 3) := by decide +kernel
theorem dX5_keep_23 : decode cX5_keep 23 = .ok (.aload_n 0, 1) := by decide +kernel
theorem dX5_keep_24 : decode cX5_keep 24 = .ok (.getfield 45, 3) := by decide +kernel
theorem dX5_keep_27 : decode cX5_keep 27 = .ok (.iload_n 1, 1) := by decide +kernel
theorem dX5_keep_28 : decode cX5_keep 28 = .ok (.iconst 1, 1) := by decide +kernel
theorem dX5_keep_29 : decode cX5_keep 29 = .ok (.bastore, 1) := by decide +kernel
theorem dX5_keep_30 : decode cX5_keep 30 = .ok (.aload_n 0, 1) := by decide +kernel
theorem dX5_keep_31 : decode cX5_keep 31 = .ok (.getfield 28, 3) := by decide +kernel
theorem dX5_keep_34 : decode cX5_keep 34 = .ok (.invokevirtual 228, 3) := by decide +kernel
theorem dX5_keep_37 : decode cX5_keep 37 = .ok (.aload_n 0, 1) := by decide +kernel
theorem dX5_keep_38 : decode cX5_keep 38 = .ok (.getfield 12, 3) := by decide +kernel
theorem dX5_keep_41 : decode cX5_keep 41 = .ok (.getfield 57, 3) := by decide +kernel
theorem dX5_keep_44 : decode cX5_keep 44 = .ok (.ireturn, 1) := by decide +kernel
set_option maxRecDepth 20000 in
theorem ggX5_goBack_X5_isImage : GoodIn wsX5_goBack wsX5_isImage := goodIn_r _ [13, 14, 15, 12, 16] (by decide +kernel) (by decide +kernel)
set_option maxRecDepth 20000 in
theorem gX5_goBack_X5_isImage : GoodIn wsX5_goBack (va_wsS RX5 222 yX5_isImage wsX5_isImage) := goodIn_app (goodIn_of _ (by decide +kernel)) ggX5_goBack_X5_isImage
set_option maxRecDepth 20000 in
theorem ggX5_goBack_X1_takeAll : GoodIn wsX5_goBack wsX1_takeAll := goodIn_r _ [21, 22, 23, 24, 25, 26, 27, 28, 29, 30, 31, 56, 57, 58, 59, 60, 61] (by decide +kernel) (by decide +kernel)
set_option maxRecDepth 20000 in
theorem gX5_goBack_X1_takeAll : GoodIn wsX5_goBack (wsV RX5 225 RX1 yX1_takeAll wsX1_takeAll) := goodIn_app (goodIn_of _ (by decide +kernel)) ggX5_goBack_X1_takeAll
set_option maxRecDepth 20000 in
theorem ggX5_goBack_X0_forget : GoodIn wsX5_goBack wsX0_forget := goodIn_r _ [36, 37, 62, 63, 64, 65, 66, 67, 68, 69] (by decide +kernel) (by decide +kernel)
set_option maxRecDepth 20000 in
theorem gX5_goBack_X0_forget : GoodIn wsX5_goBack (wsV RX5 134 RX0 yX0_forget wsX0_forget) := goodIn_app (goodIn_of _ (by decide +kernel)) ggX5_goBack_X0_forget
set_option maxRecDepth 20000 in
theorem ggX5_goBack_X3_forget : GoodIn wsX5_goBack wsX3_forget := goodIn_r _ [42, 43, 70, 71, 72] (by decide +kernel) (by decide +kernel)
set_option maxRecDepth 20000 in
theorem gX5_goBack_X3_forget : GoodIn wsX5_goBack (wsV RX5 228 RX3 yX3_forget wsX3_forget) := goodIn_app (goodIn_of _ (by decide +kernel)) ggX5_goBack_X3_forget
set_option maxRecDepth 20000 in
theorem ggX5_goBack_X2_makeEmpty : GoodIn wsX5_goBack wsX2_makeEmpty := goodIn_r _ [48, 49, 73, 74, 75, 76, 77] (by decide +kernel) (by decide +kernel)
set_option maxRecDepth 20000 in
theorem gX5_goBack_X2_makeEmpty : GoodIn wsX5_goBack (wsV RX5 65 RX2 yX2_makeEmpty wsX2_makeEmpty) := goodIn_app (goodIn_of _ (by decide +kernel)) ggX5_goBack_X2_makeEmpty
theorem dX5_goBack_0 : decode cX5_goBack 0 = .ok (.iload_n 1, 1) := by decide +kernel
theorem dX5_goBack_1 : decode cX5_goBack 1 = .ok (.invokestatic 222, 3) := by decide +kernel
theorem dX5_goBack_4 : decode cX5_goBack 4 = .ok (.ifCond .ne 6, 3) := by decide +kernel
theorem dX5_goBack_7 : decode cX5_goBack 7 = .ok (.ldc 75, 2) := by decide +kernel
theorem dX5_goBack_9 : decode cX5_goBack 9 = .ok (.ireturn, 1) := by decide +kernel
theorem dX5_goBack_10 : decode cX5_goBack 10 = .ok (.aload_n 0, 1) := by decide +kernel
theorem dX5_goBack_11 : decode cX5_goBack 11 = .ok (.getfield 45, 3) := by decide +kernel
theorem dX5_goBack_14 : decode cX5_goBack 14 = .ok (.iload_n 1, 1) := by decide +kernel
theorem dX5_goBack_15 : decode cX5_goBack 15 = .ok (.baload, 1) := by decide +kernel
theorem dX5_goBack_16 : decode cX5_goBack 16 = .ok (.ifCond .ne 6, 3) := by decide +kernel
theorem dX5_goBack_19 : decode cX5_goBack 19 = .ok (.ldc 130, 2) := by decide +kernel
theorem dX5_goBack_21 : decode cX5_goBack 21 = .ok (.ireturn, 1) := by decide +kernel
theorem dX5_goBack_22 : decode cX5_goBack 22 = .ok (.aload_n 0, 1) := by decide +kernel
theorem dX5_goBack_23 : decode cX5_goBack 23 = .ok (.getfield 12, 3) := by decide +kernel
theorem dX5_goBack_26 : decode cX5_goBack 26 = .ok (.aload_n 0, 1) := by decide +kernel
theorem dX5_goBack_27 : decode cX5_goBack 27 = .ok (.getfield 41, 3) := by decide +kernel
theorem dX5_goBack_30 : decode cX5_goBack 30 = .ok (.iload_n 1, 1) := by decide +kernel
theorem dX5_goBack_31 : decode cX5_goBack 31 = .ok (.aaload, 1) := by decide +kernel
theorem dX5_goBack_32 : decode cX5_goBack 32 = .ok (.invokevirtual 225, 3) := by decide +kernel
theorem dX5_goBack_35 : decode cX5_goBack 35 = .ok (.aload_n 0, 1) := by decide +kernel
theorem dX5_goBack_36 : decode cX5_goBack 36 = .ok (.getfield 21, 3) := by decide +kernel
theorem dX5_goBack_39 : decode cX5_goBack 39 = .ok (.invokevirtual 134, 3) := by decide +kernel
theorem dX5_goBack_42 : decode cX5_goBack 42 = .ok (.aload_n 0, 1) := by decide +kernel
theorem dX5_goBack_43 : decode cX5_goBack 43 = .ok (.getfield 28, 3) := by decide +kernel
theorem dX5_goBack_46 : decode cX5_goBack 46 = .ok (.invokevirtual 228, 3) := by decide +kernel
theorem dX5_goBack_49 : decode cX5_goBack 49 = .ok (.aload_n 0, 1) := by decide +kernel
theorem dX5_goBack_50 : decode cX5_goBack 50 = .ok (.getfield 37, 3) := by decide +kernel
theorem dX5_goBack_53 : decode cX5_goBack 53 = .ok (.invokevirtual 65, 3) := by decide +kernel
theorem dX5_goBack_56 : decode cX5_goBack 56 = .ok (.aload_n 0, 1) := by decide +kernel
theorem dX5_goBack_57 : decode cX5_goBack 57 = .ok (.getfield 12, 3) := by decide +kernel
theorem dX5_goBack_60 : decode cX5_goBack 60 = .ok (.getfield 57, 3) := by decide +kernel
theorem dX5_goBack_63 : decode cX5_goBack 63 = .ok (.ireturn, 1) := by decide +kernel
set_option maxRecDepth 20000 in
theorem ggX5_beginChange_X3_remember : GoodIn wsX5_beginChange wsX3_remember := goodIn_r _ [8, 9, 10, 11, 12, 13, 14, 15, 16, 17, 18, 19, 20, 21, 22, 23, 24, 25, 26, 27, 28, 29, 30, 43, 44, 45, 46, 47, 48, 49, 50, 51] (by decide +kernel) (by decide +kernel)
set_option maxRecDepth 20000 in
theorem gX5_beginChange_X3_remember : GoodIn wsX5_beginChange (wsV RX5 229 RX3 yX3_remember wsX3_remember) := goodIn_app (goodIn_of _ (by decide +kernel)) ggX5_beginChange_X3_remember
set_option maxRecDepth 20000 in
theorem ggX5_beginChange_X0_forget : GoodIn wsX5_beginChange wsX0_forget := goodIn_r _ [35, 36, 52, 53, 54, 55, 56, 57, 58, 59] (by decide +kernel) (by decide +kernel)
set_option maxRecDepth 20000 in
theorem gX5_beginChange_X0_forget : GoodIn wsX5_beginChange (wsV RX5 134 RX0 yX0_forget wsX0_forget) := goodIn_app (goodIn_of _ (by decide +kernel)) ggX5_beginChange_X0_forget
theorem dX5_beginChange_0 : decode cX5_beginChange 0 = .ok (.aload_n 0, 1) := by decide +kernel
theorem dX5_beginChange_1 : decode cX5_beginChange 1 = .ok (.getfield 28, 3) := by decide +kernel
theorem dX5_beginChange_4 : decode cX5_beginChange 4 = .ok (.aload_n 0, 1) := by decide +kernel
theorem dX5_beginChange_5 : decode cX5_beginChange 5 = .ok (.getfield 12, 3) := by decide +kernel
theorem dX5_beginChange_8 : decode cX5_beginChange 8 = .ok (.invokevirtual 229, 3) := by decide +kernel
theorem dX5_beginChange_11 : decode cX5_beginChange 11 = .ok (.aload_n 0, 1) := by decide +kernel
theorem dX5_beginChange_12 : decode cX5_beginChange 12 = .ok (.getfield 21, 3) := by decide +kernel
theorem dX5_beginChange_15 : decode cX5_beginChange 15 = .ok (.invokevirtual 134, 3) := by decide +kernel
theorem dX5_beginChange_18 : decode cX5_beginChange 18 = .ok (.return_, 1) := by decide +kernel
theorem dX5_within_0 : decode cX5_within 0 = .ok (.iload_n 0, 1) := by decide +kernel
theorem dX5_within_1 : decode cX5_within 1 = .ok (.iload_n 1, 1) := by decide +kernel
theorem dX5_within_2 : decode cX5_within 2 = .ok (.if_icmp .lt 12, 3) := by decide +kernel
theorem dX5_within_5 : decode cX5_within 5 = .ok (.iload_n 0, 1) := by decide +kernel
theorem dX5_within_6 : decode cX5_within 6 = .ok (.iload_n 2, 1) := by decide +kernel
theorem dX5_within_7 : decode cX5_within 7 = .ok (.if_icmp .gt 7, 3) := by decide +kernel
theorem dX5_within_10 : decode cX5_within 10 = .ok (.iconst 1, 1) := by decide +kernel
theorem dX5_within_11 : decode cX5_within 11 = .ok (.goto 4, 3) := by decide +kernel
theorem dX5_within_14 : decode cX5_within 14 = .ok (.iconst 0, 1) := by decide +kernel
theorem dX5_within_15 : decode cX5_within 15 = .ok (.ireturn, 1) := by decide +kernel
set_option maxRecDepth 20000 in
theorem ggX5_isSide_X5_within : GoodIn wsX5_isSide wsX5_within := goodIn_r _ [4] (by decide +kernel) (by decide +kernel)
set_option maxRecDepth 20000 in
theorem gX5_isSide_X5_within : GoodIn wsX5_isSide (va_wsS RX5 49 yX5_within wsX5_within) := goodIn_app (goodIn_of _ (by decide +kernel)) ggX5_isSide_X5_within
theorem dX5_isSide_0 : decode cX5_isSide 0 = .ok (.iload_n 0, 1) := by decide +kernel
theorem dX5_isSide_1 : decode cX5_isSide 1 = .ok (.iconst 0, 1) := by decide +kernel
theorem dX5_isSide_2 : decode cX5_isSide 2 = .ok (.iconst 1, 1) := by decide +kernel
theorem dX5_isSide_3 : decode cX5_isSide 3 = .ok (.invokestatic 49, 3) := by decide +kernel
theorem dX5_isSide_6 : decode cX5_isSide 6 = .ok (.ireturn, 1) := by decide +kernel
set_option maxRecDepth 20000 in
theorem ggX5_isHeight_X5_within : GoodIn wsX5_isHeight wsX5_within := goodIn_r _ [4] (by decide +kernel) (by decide +kernel)
set_option maxRecDepth 20000 in
theorem gX5_isHeight_X5_within : GoodIn wsX5_isHeight (va_wsS RX5 49 yX5_within wsX5_within) := goodIn_app (goodIn_of _ (by decide +kernel)) ggX5_isHeight_X5_within
theorem dX5_isHeight_0 : decode cX5_isHeight 0 = .ok (.iload_n 0, 1) := by decide +kernel
theorem dX5_isHeight_1 : decode cX5_isHeight 1 = .ok (.iconst 0, 1) := by decide +kernel
theorem dX5_isHeight_2 : decode cX5_isHeight 2 = .ok (.bipush 7, 2) := by decide +kernel
theorem dX5_isHeight_4 : decode cX5_isHeight 4 = .ok (.invokestatic 49, 3) := by decide +kernel
theorem dX5_isHeight_7 : decode cX5_isHeight 7 = .ok (.ireturn, 1) := by decide +kernel
set_option maxRecDepth 20000 in
theorem ggX5_isImage_X5_within : GoodIn wsX5_isImage wsX5_within := goodIn_r _ [4] (by decide +kernel) (by decide +kernel)
set_option maxRecDepth 20000 in
theorem gX5_isImage_X5_within : GoodIn wsX5_isImage (va_wsS RX5 49 yX5_within wsX5_within) := goodIn_app (goodIn_of _ (by decide +kernel)) ggX5_isImage_X5_within
theorem dX5_isImage_0 : decode cX5_isImage 0 = .ok (.iload_n 0, 1) := by decide +kernel
theorem dX5_isImage_1 : decode cX5_isImage 1 = .ok (.iconst 0, 1) := by decide +kernel
theorem dX5_isImage_2 : decode cX5_isImage 2 = .ok (.iconst 1, 1) := by decide +kernel
theorem dX5_isImage_3 : decode cX5_isImage 3 = .ok (.invokestatic 49, 3) := by decide +kernel
theorem dX5_isImage_6 : decode cX5_isImage 6 = .ok (.ireturn, 1) := by decide +kernel
set_option maxRecDepth 20000 in
theorem ggX5_aboveOf_X5_commonDivisor : GoodIn wsX5_aboveOf wsX5_commonDivisor := goodIn_r _ [4, 5, 6, 7, 8, 9, 10, 11] (by decide +kernel) (by decide +kernel)
set_option maxRecDepth 20000 in
theorem gX5_aboveOf_X5_commonDivisor : GoodIn wsX5_aboveOf (va_wsS RX5 232 yX5_commonDivisor wsX5_commonDivisor) := goodIn_app (goodIn_of _ (by decide +kernel)) ggX5_aboveOf_X5_commonDivisor
theorem dX5_aboveOf_0 : decode cX5_aboveOf 0 = .ok (.lload_n 0, 1) := by decide +kernel
theorem dX5_aboveOf_1 : decode cX5_aboveOf 1 = .ok (.lload_n 0, 1) := by decide +kernel
theorem dX5_aboveOf_2 : decode cX5_aboveOf 2 = .ok (.lload_n 2, 1) := by decide +kernel
theorem dX5_aboveOf_3 : decode cX5_aboveOf 3 = .ok (.invokestatic 232, 3) := by decide +kernel
theorem dX5_aboveOf_6 : decode cX5_aboveOf 6 = .ok (.ldiv, 1) := by decide +kernel
theorem dX5_aboveOf_7 : decode cX5_aboveOf 7 = .ok (.lreturn, 1) := by decide +kernel
set_option maxRecDepth 20000 in
theorem ggX5_belowOf_X5_commonDivisor : GoodIn wsX5_belowOf wsX5_commonDivisor := goodIn_r _ [4, 5, 6, 7, 8, 9, 10, 11] (by decide +kernel) (by decide +kernel)
set_option maxRecDepth 20000 in
theorem gX5_belowOf_X5_commonDivisor : GoodIn wsX5_belowOf (va_wsS RX5 232 yX5_commonDivisor wsX5_commonDivisor) := goodIn_app (goodIn_of _ (by decide +kernel)) ggX5_belowOf_X5_commonDivisor
theorem dX5_belowOf_0 : decode cX5_belowOf 0 = .ok (.lload_n 2, 1) := by decide +kernel
theorem dX5_belowOf_1 : decode cX5_belowOf 1 = .ok (.lload_n 0, 1) := by decide +kernel
theorem dX5_belowOf_2 : decode cX5_belowOf 2 = .ok (.lload_n 2, 1) := by decide +kernel
theorem dX5_belowOf_3 : decode cX5_belowOf 3 = .ok (.invokestatic 232, 3) := by decide +kernel
theorem dX5_belowOf_6 : decode cX5_belowOf 6 = .ok (.ldiv, 1) := by decide +kernel
theorem dX5_belowOf_7 : decode cX5_belowOf 7 = .ok (.lreturn, 1) := by decide +kernel
theorem dX5_commonDivisor_0 : decode cX5_commonDivisor 0 = .ok (.lload_n 0, 1) := by decide +kernel
theorem dX5_commonDivisor_1 : decode cX5_commonDivisor 1 = .ok (.invokestatic 235, 3) := by decide +kernel
theorem dX5_commonDivisor_4 : decode cX5_commonDivisor 4 = .ok (.lstore 4, 2) := by decide +kernel
theorem dX5_commonDivisor_6 : decode cX5_commonDivisor 6 = .ok (.lload_n 2, 1) := by decide +kernel
theorem dX5_commonDivisor_7 : decode cX5_commonDivisor 7 = .ok (.invokestatic 235, 3) := by decide +kernel
theorem dX5_commonDivisor_10 : decode cX5_commonDivisor 10 = .ok (.lstore 6, 2) := by decide +kernel
theorem dX5_commonDivisor_12 : decode cX5_commonDivisor 12 = .ok (.iconst 0, 1) := by decide +kernel
theorem dX5_commonDivisor_13 : decode cX5_commonDivisor 13 = .ok (.istore 8, 2) := by decide +kernel
theorem dX5_commonDivisor_15 : decode cX5_commonDivisor 15 = .ok (.iload 8, 2) := by decide +kernel
theorem dX5_commonDivisor_17 : decode cX5_commonDivisor 17 = .ok (.bipush 100, 2) := by decide +kernel
theorem dX5_commonDivisor_19 : decode cX5_commonDivisor 19 = .ok (.if_icmp .ge 31, 3) := by decide +kernel
theorem dX5_commonDivisor_22 : decode cX5_commonDivisor 22 = .ok (.lload 6, 2) := by decide +kernel
theorem dX5_commonDivisor_24 : decode cX5_commonDivisor 24 = .ok (.lconst 0, 1) := by decide +kernel
theorem dX5_commonDivisor_25 : decode cX5_commonDivisor 25 = .ok (.lcmp, 1) := by decide +kernel
theorem dX5_commonDivisor_26 : decode cX5_commonDivisor 26 = .ok (.ifCond .le 24, 3) := by decide +kernel
theorem dX5_commonDivisor_29 : decode cX5_commonDivisor 29 = .ok (.lload 4, 2) := by decide +kernel
theorem dX5_commonDivisor_31 : decode cX5_commonDivisor 31 = .ok (.lload 6, 2) := by decide +kernel
theorem dX5_commonDivisor_33 : decode cX5_commonDivisor 33 = .ok (.lrem, 1) := by decide +kernel
theorem dX5_commonDivisor_34 : decode cX5_commonDivisor 34 = .ok (.lstore 9, 2) := by decide +kernel
theorem dX5_commonDivisor_36 : decode cX5_commonDivisor 36 = .ok (.lload 6, 2) := by decide +kernel
theorem dX5_commonDivisor_38 : decode cX5_commonDivisor 38 = .ok (.lstore 4, 2) := by decide +kernel
theorem dX5_commonDivisor_40 : decode cX5_commonDivisor 40 = .ok (.lload 9, 2) := by decide +kernel
theorem dX5_commonDivisor_42 : decode cX5_commonDivisor 42 = .ok (.lstore 6, 2) := by decide +kernel
theorem dX5_commonDivisor_44 : decode cX5_commonDivisor 44 = .ok (.iinc 8 1, 3) := by decide +kernel
theorem dX5_commonDivisor_47 : decode cX5_commonDivisor 47 = .ok (.goto (-32), 3) := by decide +kernel
theorem dX5_commonDivisor_50 : decode cX5_commonDivisor 50 = .ok (.lconst 1, 1) := by decide +kernel
theorem dX5_commonDivisor_51 : decode cX5_commonDivisor 51 = .ok (.lload 4, 2) := by decide +kernel
theorem dX5_commonDivisor_53 : decode cX5_commonDivisor 53 = .ok (.invokestatic 241, 3) := by decide +kernel
theorem dX5_commonDivisor_56 : decode cX5_commonDivisor 56 = .ok (.lreturn, 1) := by decide +kernel
set_option maxRecDepth 20000 in
theorem ggX6_init_X6_beginLetters : GoodIn wsX6_init wsX6_beginLetters := goodIn_r _ [25, 5, 26, 27, 28, 29, 24, 30, 31, 32, 33, 34, 35, 36, 37, 38, 39, 40, 41, 42, 43, 44, 45, 46, 47] (by decide +kernel) (by decide +kernel)
set_option maxRecDepth 20000 in
theorem gX6_init_X6_beginLetters : GoodIn wsX6_init (wsV RX6 55 RX6 yX6_beginLetters wsX6_beginLetters) := goodIn_app (goodIn_of _ (by decide +kernel)) ggX6_init_X6_beginLetters
theorem dX6_init_0 : decode cX6_init 0 = .ok (.aload_n 0, 1) := by decide +kernel
theorem dX6_init_1 : decode cX6_init 1 = .ok (.invokespecial 1, 3) := by decide +kernel
theorem dX6_init_4 : decode cX6_init 4 = .ok (.aload_n 0, 1) := by decide +kernel
theorem dX6_init_5 : decode cX6_init 5 = .ok (.bipush 63, 2) := by decide +kernel
theorem dX6_init_7 : decode cX6_init 7 = .ok (.newarray .int, 2) := by decide +kernel
theorem dX6_init_9 : decode cX6_init 9 = .ok (.putfield 7, 3) := by decide +kernel
theorem dX6_init_12 : decode cX6_init 12 = .ok (.aload_n 0, 1) := by decide +kernel
theorem dX6_init_13 : decode cX6_init 13 = .ok (.bipush 16, 2) := by decide +kernel
theorem dX6_init_15 : decode cX6_init 15 = .ok (.newarray .int, 2) := by decide +kernel
theorem dX6_init_17 : decode cX6_init 17 = .ok (.putfield 13, 3) := by decide +kernel
theorem dX6_init_20 : decode cX6_init 20 = .ok (.aload_n 0, 1) := by decide +kernel
theorem dX6_init_21 : decode cX6_init 21 = .ok (.bipush 6, 2) := by decide +kernel
theorem dX6_init_23 : decode cX6_init 23 = .ok (.newarray .boolean, 2) := by decide +kernel
theorem dX6_init_25 : decode cX6_init 25 = .ok (.putfield 16, 3) := by decide +kernel
theorem dX6_init_28 : decode cX6_init 28 = .ok (.aload_n 0, 1) := by decide +kernel
theorem dX6_init_29 : decode cX6_init 29 = .ok (.bipush 6, 2) := by decide +kernel
theorem dX6_init_31 : decode cX6_init 31 = .ok (.newarray .long, 2) := by decide +kernel
theorem dX6_init_33 : decode cX6_init 33 = .ok (.putfield 20, 3) := by decide +kernel
theorem dX6_init_36 : decode cX6_init 36 = .ok (.aload_n 0, 1) := by decide +kernel
theorem dX6_init_37 : decode cX6_init 37 = .ok (.bipush 6, 2) := by decide +kernel
theorem dX6_init_39 : decode cX6_init 39 = .ok (.newarray .int, 2) := by decide +kernel
theorem dX6_init_41 : decode cX6_init 41 = .ok (.putfield 24, 3) := by decide +kernel
theorem dX6_init_44 : decode cX6_init 44 = .ok (.aload_n 0, 1) := by decide +kernel
theorem dX6_init_45 : decode cX6_init 45 = .ok (.bipush 42, 2) := by decide +kernel
theorem dX6_init_47 : decode cX6_init 47 = .ok (.newarray .long, 2) := by decide +kernel
theorem dX6_init_49 : decode cX6_init 49 = .ok (.putfield 27, 3) := by decide +kernel
theorem dX6_init_52 : decode cX6_init 52 = .ok (.aload_n 0, 1) := by decide +kernel
theorem dX6_init_53 : decode cX6_init 53 = .ok (.bipush 6, 2) := by decide +kernel
theorem dX6_init_55 : decode cX6_init 55 = .ok (.newarray .int, 2) := by decide +kernel
theorem dX6_init_57 : decode cX6_init 57 = .ok (.putfield 30, 3) := by decide +kernel
theorem dX6_init_60 : decode cX6_init 60 = .ok (.aload_n 0, 1) := by decide +kernel
theorem dX6_init_61 : decode cX6_init 61 = .ok (.bipush 6, 2) := by decide +kernel
theorem dX6_init_63 : decode cX6_init 63 = .ok (.newarray .long, 2) := by decide +kernel
theorem dX6_init_65 : decode cX6_init 65 = .ok (.putfield 33, 3) := by decide +kernel
theorem dX6_init_68 : decode cX6_init 68 = .ok (.aload_n 0, 1) := by decide +kernel
theorem dX6_init_69 : decode cX6_init 69 = .ok (.bipush 6, 2) := by decide +kernel
theorem dX6_init_71 : decode cX6_init 71 = .ok (.newarray .boolean, 2) := by decide +kernel
theorem dX6_init_73 : decode cX6_init 73 = .ok (.putfield 36, 3) := by decide +kernel
theorem dX6_init_76 : decode cX6_init 76 = .ok (.aload_n 0, 1) := by decide +kernel
theorem dX6_init_77 : decode cX6_init 77 = .ok (.bipush 80, 2) := by decide +kernel
theorem dX6_init_79 : decode cX6_init 79 = .ok (.newarray .int, 2) := by decide +kernel
theorem dX6_init_81 : decode cX6_init 81 = .ok (.putfield 39, 3) := by decide +kernel
theorem dX6_init_84 : decode cX6_init 84 = .ok (.aload_n 0, 1) := by decide +kernel
theorem dX6_init_85 : decode cX6_init 85 = .ok (.sipush 504, 3) := by decide +kernel
theorem dX6_init_88 : decode cX6_init 88 = .ok (.newarray .int, 2) := by decide +kernel
theorem dX6_init_90 : decode cX6_init 90 = .ok (.putfield 42, 3) := by decide +kernel
theorem dX6_init_93 : decode cX6_init 93 = .ok (.aload_n 0, 1) := by decide +kernel
theorem dX6_init_94 : decode cX6_init 94 = .ok (.bipush 126, 2) := by decide +kernel
theorem dX6_init_96 : decode cX6_init 96 = .ok (.newarray .int, 2) := by decide +kernel
theorem dX6_init_98 : decode cX6_init 98 = .ok (.putfield 45, 3) := by decide +kernel
theorem dX6_init_101 : decode cX6_init 101 = .ok (.aload_n 0, 1) := by decide +kernel
theorem dX6_init_102 : decode cX6_init 102 = .ok (.iconst 2, 1) := by decide +kernel
theorem dX6_init_103 : decode cX6_init 103 = .ok (.newarray .boolean, 2) := by decide +kernel
theorem dX6_init_105 : decode cX6_init 105 = .ok (.putfield 48, 3) := by decide +kernel
theorem dX6_init_108 : decode cX6_init 108 = .ok (.aload_n 0, 1) := by decide +kernel
theorem dX6_init_109 : decode cX6_init 109 = .ok (.iconst 0, 1) := by decide +kernel
theorem dX6_init_110 : decode cX6_init 110 = .ok (.putfield 51, 3) := by decide +kernel
theorem dX6_init_113 : decode cX6_init 113 = .ok (.aload_n 0, 1) := by decide +kernel
theorem dX6_init_114 : decode cX6_init 114 = .ok (.iconst 2, 1) := by decide +kernel
theorem dX6_init_115 : decode cX6_init 115 = .ok (.invokevirtual 55, 3) := by decide +kernel
theorem dX6_init_118 : decode cX6_init 118 = .ok (.aload_n 0, 1) := by decide +kernel
theorem dX6_init_119 : decode cX6_init 119 = .ok (.getfield 7, 3) := by decide +kernel
theorem dX6_init_122 : decode cX6_init 122 = .ok (.bipush 61, 2) := by decide +kernel
theorem dX6_init_124 : decode cX6_init 124 = .ok (.bipush 20, 2) := by decide +kernel
theorem dX6_init_126 : decode cX6_init 126 = .ok (.iastore, 1) := by decide +kernel
theorem dX6_init_127 : decode cX6_init 127 = .ok (.aload_n 0, 1) := by decide +kernel
theorem dX6_init_128 : decode cX6_init 128 = .ok (.getfield 7, 3) := by decide +kernel
theorem dX6_init_131 : decode cX6_init 131 = .ok (.bipush 62, 2) := by decide +kernel
theorem dX6_init_133 : decode cX6_init 133 = .ok (.bipush 100, 2) := by decide +kernel
theorem dX6_init_135 : decode cX6_init 135 = .ok (.iastore, 1) := by decide +kernel
theorem dX6_init_136 : decode cX6_init 136 = .ok (.return_, 1) := by decide +kernel
theorem dX6_in_0 : decode cX6_in 0 = .ok (.lload_n 0, 1) := by decide +kernel
theorem dX6_in_1 : decode cX6_in 1 = .ok (.lload_n 2, 1) := by decide +kernel
theorem dX6_in_2 : decode cX6_in 2 = .ok (.lcmp, 1) := by decide +kernel
theorem dX6_in_3 : decode cX6_in 3 = .ok (.ifCond .lt 14, 3) := by decide +kernel
theorem dX6_in_6 : decode cX6_in 6 = .ok (.lload_n 0, 1) := by decide +kernel
theorem dX6_in_7 : decode cX6_in 7 = .ok (.lload 4, 2) := by decide +kernel
theorem dX6_in_9 : decode cX6_in 9 = .ok (.lcmp, 1) := by decide +kernel
theorem dX6_in_10 : decode cX6_in 10 = .ok (.ifCond .gt 7, 3) := by decide +kernel
theorem dX6_in_13 : decode cX6_in 13 = .ok (.iconst 1, 1) := by decide +kernel
theorem dX6_in_14 : decode cX6_in 14 = .ok (.goto 4, 3) := by decide +kernel
theorem dX6_in_17 : decode cX6_in 17 = .ok (.iconst 0, 1) := by decide +kernel
theorem dX6_in_18 : decode cX6_in 18 = .ok (.ireturn, 1) := by decide +kernel
set_option maxRecDepth 20000 in
theorem ggX6_beginLetters_X6_in : GoodIn wsX6_beginLetters wsX6_in := goodIn_r _ [7] (by decide +kernel) (by decide +kernel)
set_option maxRecDepth 20000 in
theorem gX6_beginLetters_X6_in : GoodIn wsX6_beginLetters (va_wsS RX6 63 yX6_in wsX6_in) := goodIn_app (goodIn_of _ (by decide +kernel)) ggX6_beginLetters_X6_in
theorem dX6_beginLetters_0 : decode cX6_beginLetters 0 = .ok (.iconst 0, 1) := by decide +kernel
theorem dX6_beginLetters_1 : decode cX6_beginLetters 1 = .ok (.istore_n 2, 1) := by decide +kernel
theorem dX6_beginLetters_2 : decode cX6_beginLetters 2 = .ok (.iload_n 2, 1) := by decide +kernel
theorem dX6_beginLetters_3 : decode cX6_beginLetters 3 = .ok (.bipush 60, 2) := by decide +kernel
theorem dX6_beginLetters_5 : decode cX6_beginLetters 5 = .ok (.if_icmp .ge 35, 3) := by decide +kernel
theorem dX6_beginLetters_8 : decode cX6_beginLetters 8 = .ok (.aload_n 0, 1) := by decide +kernel
theorem dX6_beginLetters_9 : decode cX6_beginLetters 9 = .ok (.getfield 7, 3) := by decide +kernel
theorem dX6_beginLetters_12 : decode cX6_beginLetters 12 = .ok (.iload_n 2, 1) := by decide +kernel
theorem dX6_beginLetters_13 : decode cX6_beginLetters 13 = .ok (.iload_n 2, 1) := by decide +kernel
theorem dX6_beginLetters_14 : decode cX6_beginLetters 14 = .ok (.i2l, 1) := by decide +kernel
theorem dX6_beginLetters_15 : decode cX6_beginLetters 15 = .ok (.ldc2_w 59, 3) := by decide +kernel
theorem dX6_beginLetters_18 : decode cX6_beginLetters 18 = .ok (.ldc2_w 61, 3) := by decide +kernel
theorem dX6_beginLetters_21 : decode cX6_beginLetters 21 = .ok (.invokestatic 63, 3) := by decide +kernel
theorem dX6_beginLetters_24 : decode cX6_beginLetters 24 = .ok (.ifCond .eq 8, 3) := by decide +kernel
theorem dX6_beginLetters_27 : decode cX6_beginLetters 27 = .ok (.bipush 10, 2) := by decide +kernel
theorem dX6_beginLetters_29 : decode cX6_beginLetters 29 = .ok (.goto 4, 3) := by decide +kernel
theorem dX6_beginLetters_32 : decode cX6_beginLetters 32 = .ok (.iconst 0, 1) := by decide +kernel
theorem dX6_beginLetters_33 : decode cX6_beginLetters 33 = .ok (.iastore, 1) := by decide +kernel
theorem dX6_beginLetters_34 : decode cX6_beginLetters 34 = .ok (.iinc 2 1, 3) := by decide +kernel
theorem dX6_beginLetters_37 : decode cX6_beginLetters 37 = .ok (.goto (-35), 3) := by decide +kernel
theorem dX6_beginLetters_40 : decode cX6_beginLetters 40 = .ok (.aload_n 0, 1) := by decide +kernel
theorem dX6_beginLetters_41 : decode cX6_beginLetters 41 = .ok (.getfield 7, 3) := by decide +kernel
theorem dX6_beginLetters_44 : decode cX6_beginLetters 44 = .ok (.bipush 60, 2) := by decide +kernel
theorem dX6_beginLetters_46 : decode cX6_beginLetters 46 = .ok (.iload_n 1, 1) := by decide +kernel
theorem dX6_beginLetters_47 : decode cX6_beginLetters 47 = .ok (.iastore, 1) := by decide +kernel
theorem dX6_beginLetters_48 : decode cX6_beginLetters 48 = .ok (.return_, 1) := by decide +kernel
set_option maxRecDepth 20000 in
theorem ggX6_isLetter_X6_in : GoodIn wsX6_isLetter wsX6_in := goodIn_r _ [5] (by decide +kernel) (by decide +kernel)
set_option maxRecDepth 20000 in
theorem gX6_isLetter_X6_in : GoodIn wsX6_isLetter (va_wsS RX6 63 yX6_in wsX6_in) := goodIn_app (goodIn_of _ (by decide +kernel)) ggX6_isLetter_X6_in
theorem dX6_isLetter_0 : decode cX6_isLetter 0 = .ok (.iload_n 1, 1) := by decide +kernel
theorem dX6_isLetter_1 : decode cX6_isLetter 1 = .ok (.i2l, 1) := by decide +kernel
theorem dX6_isLetter_2 : decode cX6_isLetter 2 = .ok (.lconst 0, 1) := by decide +kernel
theorem dX6_isLetter_3 : decode cX6_isLetter 3 = .ok (.aload_n 0, 1) := by decide +kernel
theorem dX6_isLetter_4 : decode cX6_isLetter 4 = .ok (.getfield 7, 3) := by decide +kernel
theorem dX6_isLetter_7 : decode cX6_isLetter 7 = .ok (.bipush 60, 2) := by decide +kernel
theorem dX6_isLetter_9 : decode cX6_isLetter 9 = .ok (.iaload, 1) := by decide +kernel
theorem dX6_isLetter_10 : decode cX6_isLetter 10 = .ok (.iconst 1, 1) := by decide +kernel
theorem dX6_isLetter_11 : decode cX6_isLetter 11 = .ok (.isub, 1) := by decide +kernel
theorem dX6_isLetter_12 : decode cX6_isLetter 12 = .ok (.i2l, 1) := by decide +kernel
theorem dX6_isLetter_13 : decode cX6_isLetter 13 = .ok (.invokestatic 63, 3) := by decide +kernel
theorem dX6_isLetter_16 : decode cX6_isLetter 16 = .ok (.ireturn, 1) := by decide +kernel
set_option maxRecDepth 20000 in
theorem ggX6_isHeight_X6_in : GoodIn wsX6_isHeight wsX6_in := goodIn_r _ [5] (by decide +kernel) (by decide +kernel)
set_option maxRecDepth 20000 in
theorem gX6_isHeight_X6_in : GoodIn wsX6_isHeight (va_wsS RX6 63 yX6_in wsX6_in) := goodIn_app (goodIn_of _ (by decide +kernel)) ggX6_isHeight_X6_in
theorem dX6_isHeight_0 : decode cX6_isHeight 0 = .ok (.iload_n 0, 1) := by decide +kernel
theorem dX6_isHeight_1 : decode cX6_isHeight 1 = .ok (.i2l, 1) := by decide +kernel
theorem dX6_isHeight_2 : decode cX6_isHeight 2 = .ok (.lconst 0, 1) := by decide +kernel
theorem dX6_isHeight_3 : decode cX6_isHeight 3 = .ok (.ldc2_w 67, 3) := by decide +kernel
theorem dX6_isHeight_6 : decode cX6_isHeight 6 = .ok (.invokestatic 63, 3) := by decide +kernel
theorem dX6_isHeight_9 : decode cX6_isHeight 9 = .ok (.ireturn, 1) := by decide +kernel
set_option maxRecDepth 20000 in
theorem ggX6_isSide_X6_in : GoodIn wsX6_isSide wsX6_in := goodIn_r _ [4] (by decide +kernel) (by decide +kernel)
set_option maxRecDepth 20000 in
theorem gX6_isSide_X6_in : GoodIn wsX6_isSide (va_wsS RX6 63 yX6_in wsX6_in) := goodIn_app (goodIn_of _ (by decide +kernel)) ggX6_isSide_X6_in
theorem dX6_isSide_0 : decode cX6_isSide 0 = .ok (.iload_n 0, 1) := by decide +kernel
theorem dX6_isSide_1 : decode cX6_isSide 1 = .ok (.i2l, 1) := by decide +kernel
theorem dX6_isSide_2 : decode cX6_isSide 2 = .ok (.lconst 0, 1) := by decide +kernel
theorem dX6_isSide_3 : decode cX6_isSide 3 = .ok (.lconst 1, 1) := by decide +kernel
theorem dX6_isSide_4 : decode cX6_isSide 4 = .ok (.invokestatic 63, 3) := by decide +kernel
theorem dX6_isSide_7 : decode cX6_isSide 7 = .ok (.ireturn, 1) := by decide +kernel
theorem dX6_at_0 : decode cX6_at 0 = .ok (.bipush 16, 2) := by decide +kernel
theorem dX6_at_2 : decode cX6_at 2 = .ok (.iload_n 0, 1) := by decide +kernel
theorem dX6_at_3 : decode cX6_at 3 = .ok (.imul, 1) := by decide +kernel
theorem dX6_at_4 : decode cX6_at 4 = .ok (.bipush 8, 2) := by decide +kernel
theorem dX6_at_6 : decode cX6_at 6 = .ok (.iload_n 1, 1) := by decide +kernel
theorem dX6_at_7 : decode cX6_at 7 = .ok (.imul, 1) := by decide +kernel
theorem dX6_at_8 : decode cX6_at 8 = .ok (.iadd, 1) := by decide +kernel
theorem dX6_at_9 : decode cX6_at 9 = .ok (.iload_n 2, 1) := by decide +kernel
theorem dX6_at_10 : decode cX6_at 10 = .ok (.iadd, 1) := by decide +kernel
theorem dX6_at_11 : decode cX6_at 11 = .ok (.ireturn, 1) := by decide +kernel
theorem dX6_weightOf_0 : decode cX6_weightOf 0 = .ok (.aload_n 0, 1) := by decide +kernel
theorem dX6_weightOf_1 : decode cX6_weightOf 1 = .ok (.getfield 7, 3) := by decide +kernel
theorem dX6_weightOf_4 : decode cX6_weightOf 4 = .ok (.bipush 51, 2) := by decide +kernel
theorem dX6_weightOf_6 : decode cX6_weightOf 6 = .ok (.iconst 3, 1) := by decide +kernel
theorem dX6_weightOf_7 : decode cX6_weightOf 7 = .ok (.iload_n 1, 1) := by decide +kernel
theorem dX6_weightOf_8 : decode cX6_weightOf 8 = .ok (.imul, 1) := by decide +kernel
theorem dX6_weightOf_9 : decode cX6_weightOf 9 = .ok (.iadd, 1) := by decide +kernel
theorem dX6_weightOf_10 : decode cX6_weightOf 10 = .ok (.iload_n 2, 1) := by decide +kernel
theorem dX6_weightOf_11 : decode cX6_weightOf 11 = .ok (.iadd, 1) := by decide +kernel
theorem dX6_weightOf_12 : decode cX6_weightOf 12 = .ok (.iaload, 1) := by decide +kernel
theorem dX6_weightOf_13 : decode cX6_weightOf 13 = .ok (.ireturn, 1) := by decide +kernel
set_option maxRecDepth 20000 in
theorem ggX6_bare_X6_at : GoodIn wsX6_bare wsX6_at := goodIn_r _ [5] (by decide +kernel) (by decide +kernel)
set_option maxRecDepth 20000 in
theorem gX6_bare_X6_at : GoodIn wsX6_bare (va_wsS RX6 69 yX6_at wsX6_at) := goodIn_app (goodIn_of _ (by decide +kernel)) ggX6_bare_X6_at
theorem dX6_bare_0 : decode cX6_bare 0 = .ok (.iconst 0, 1) := by decide +kernel
theorem dX6_bare_1 : decode cX6_bare 1 = .ok (.istore_n 3, 1) := by decide +kernel
theorem dX6_bare_2 : decode cX6_bare 2 = .ok (.iconst 0, 1) := by decide +kernel
theorem dX6_bare_3 : decode cX6_bare 3 = .ok (.istore 4, 2) := by decide +kernel
theorem dX6_bare_5 : decode cX6_bare 5 = .ok (.iload 4, 2) := by decide +kernel
theorem dX6_bare_7 : decode cX6_bare 7 = .ok (.bipush 8, 2) := by decide +kernel
theorem dX6_bare_9 : decode cX6_bare 9 = .ok (.if_icmp .ge 63, 3) := by decide +kernel
theorem dX6_bare_12 : decode cX6_bare 12 = .ok (.aload_n 0, 1) := by decide +kernel
theorem dX6_bare_13 : decode cX6_bare 13 = .ok (.getfield 7, 3) := by decide +kernel
theorem dX6_bare_16 : decode cX6_bare 16 = .ok (.iload_n 1, 1) := by decide +kernel
theorem dX6_bare_17 : decode cX6_bare 17 = .ok (.iconst 1, 1) := by decide +kernel
theorem dX6_bare_18 : decode cX6_bare 18 = .ok (.iload 4, 2) := by decide +kernel
theorem dX6_bare_20 : decode cX6_bare 20 = .ok (.invokestatic 69, 3) := by decide +kernel
theorem dX6_bare_23 : decode cX6_bare 23 = .ok (.iaload, 1) := by decide +kernel
theorem dX6_bare_24 : decode cX6_bare 24 = .ok (.aload_n 0, 1) := by decide +kernel
theorem dX6_bare_25 : decode cX6_bare 25 = .ok (.getfield 7, 3) := by decide +kernel
theorem dX6_bare_28 : decode cX6_bare 28 = .ok (.iload_n 2, 1) := by decide +kernel
theorem dX6_bare_29 : decode cX6_bare 29 = .ok (.iconst 0, 1) := by decide +kernel
theorem dX6_bare_30 : decode cX6_bare 30 = .ok (.iload 4, 2) := by decide +kernel
theorem dX6_bare_32 : decode cX6_bare 32 = .ok (.invokestatic 69, 3) := by decide +kernel
theorem dX6_bare_35 : decode cX6_bare 35 = .ok (.iaload, 1) := by decide +kernel
theorem dX6_bare_36 : decode cX6_bare 36 = .ok (.iadd, 1) := by decide +kernel
theorem dX6_bare_37 : decode cX6_bare 37 = .ok (.istore 5, 2) := by decide +kernel
theorem dX6_bare_39 : decode cX6_bare 39 = .ok (.iload_n 3, 1) := by decide +kernel
theorem dX6_bare_40 : decode cX6_bare 40 = .ok (.iload 5, 2) := by decide +kernel
theorem dX6_bare_42 : decode cX6_bare 42 = .ok (.aload_n 0, 1) := by decide +kernel
theorem dX6_bare_43 : decode cX6_bare 43 = .ok (.getfield 7, 3) := by decide +kernel
theorem dX6_bare_46 : decode cX6_bare 46 = .ok (.bipush 61, 2) := by decide +kernel
theorem dX6_bare_48 : decode cX6_bare 48 = .ok (.iaload, 1) := by decide +kernel
theorem dX6_bare_49 : decode cX6_bare 49 = .ok (.if_icmp .ge 8, 3) := by decide +kernel
theorem dX6_bare_52 : decode cX6_bare 52 = .ok (.iload 5, 2) := by decide +kernel
theorem dX6_bare_54 : decode cX6_bare 54 = .ok (.goto 10, 3) := by decide +kernel
theorem dX6_bare_57 : decode cX6_bare 57 = .ok (.aload_n 0, 1) := by decide +kernel
theorem dX6_bare_58 : decode cX6_bare 58 = .ok (.getfield 7, 3) := by decide +kernel
theorem dX6_bare_61 : decode cX6_bare 61 = .ok (.bipush 61, 2) := by decide +kernel
theorem dX6_bare_63 : decode cX6_bare 63 = .ok (.iaload, 1) := by decide +kernel
theorem dX6_bare_64 : decode cX6_bare 64 = .ok (.iadd, 1) := by decide +kernel
theorem dX6_bare_65 : decode cX6_bare 65 = .ok (.istore_n 3, 1) := by decide +kernel
theorem dX6_bare_66 : decode cX6_bare 66 = .ok (.iinc 4 1, 3) := by decide +kernel
theorem dX6_bare_69 : decode cX6_bare 69 = .ok (.goto (-64), 3) := by decide +kernel
theorem dX6_bare_72 : decode cX6_bare 72 = .ok (.iload_n 3, 1) := by decide +kernel
theorem dX6_bare_73 : decode cX6_bare 73 = .ok (.ireturn, 1) := by decide +kernel
theorem dX6_divisor_0 : decode cX6_divisor 0 = .ok (.lload_n 0, 1) := by decide +kernel
theorem dX6_divisor_1 : decode cX6_divisor 1 = .ok (.lconst 0, 1) := by decide +kernel
theorem dX6_divisor_2 : decode cX6_divisor 2 = .ok (.lcmp, 1) := by decide +kernel
theorem dX6_divisor_3 : decode cX6_divisor 3 = .ok (.ifCond .ge 8, 3) := by decide +kernel
theorem dX6_divisor_6 : decode cX6_divisor 6 = .ok (.lload_n 0, 1) := by decide +kernel
theorem dX6_divisor_7 : decode cX6_divisor 7 = .ok (.lneg, 1) := by decide +kernel
theorem dX6_divisor_8 : decode cX6_divisor 8 = .ok (.goto 4, 3) := by decide +kernel
theorem dX6_divisor_11 : decode cX6_divisor 11 = .ok (.lload_n 0, 1) := by decide +kernel
theorem dX6_divisor_12 : decode cX6_divisor 12 = .ok (.lstore 4, 2) := by decide +kernel
theorem dX6_divisor_14 : decode cX6_divisor 14 = .ok (.lload_n 2, 1) := by decide +kernel
theorem dX6_divisor_15 : decode cX6_divisor 15 = .ok (.lstore 6, 2) := by decide +kernel
theorem dX6_divisor_17 : decode cX6_divisor 17 = .ok (.lload 6, 2) := by decide +kernel
theorem dX6_divisor_19 : decode cX6_divisor 19 = .ok (.lconst 0, 1) := by decide +kernel
theorem dX6_divisor_20 : decode cX6_divisor 20 = .ok (.lcmp, 1) := by decide +kernel
theorem dX6_divisor_21 : decode cX6_divisor 21 = .ok (.ifCond .eq 21, 3) := by decide +kernel
theorem dX6_divisor_24 : decode cX6_divisor 24 = .ok (.lload 4, 2) := by decide +kernel
theorem dX6_divisor_26 : decode cX6_divisor 26 = .ok (.lload 6, 2) := by decide +kernel
theorem dX6_divisor_28 : decode cX6_divisor 28 = .ok (.lrem, 1) := by decide +kernel
theorem dX6_divisor_29 : decode cX6_divisor 29 = .ok (.lstore 8, 2) := by decide +kernel
theorem dX6_divisor_31 : decode cX6_divisor 31 = .ok (.lload 6, 2) := by decide +kernel
theorem dX6_divisor_33 : decode cX6_divisor 33 = .ok (.lstore 4, 2) := by decide +kernel
theorem dX6_divisor_35 : decode cX6_divisor 35 = .ok (.lload 8, 2) := by decide +kernel
theorem dX6_divisor_37 : decode cX6_divisor 37 = .ok (.lstore 6, 2) := by decide +kernel
theorem dX6_divisor_39 : decode cX6_divisor 39 = .ok (.goto (-22), 3) := by decide +kernel
theorem dX6_divisor_42 : decode cX6_divisor 42 = .ok (.lload 4, 2) := by decide +kernel
theorem dX6_divisor_44 : decode cX6_divisor 44 = .ok (.lreturn, 1) := by decide +kernel
set_option maxRecDepth 20000 in
theorem ggX6_above_X6_divisor : GoodIn wsX6_above wsX6_divisor := goodIn_r _ [4] (by decide +kernel) (by decide +kernel)
set_option maxRecDepth 20000 in
theorem gX6_above_X6_divisor : GoodIn wsX6_above (va_wsS RX6 73 yX6_divisor wsX6_divisor) := goodIn_app (goodIn_of _ (by decide +kernel)) ggX6_above_X6_divisor
theorem dX6_above_0 : decode cX6_above 0 = .ok (.lload_n 0, 1) := by decide +kernel
theorem dX6_above_1 : decode cX6_above 1 = .ok (.lload_n 0, 1) := by decide +kernel
theorem dX6_above_2 : decode cX6_above 2 = .ok (.lload_n 2, 1) := by decide +kernel
theorem dX6_above_3 : decode cX6_above 3 = .ok (.invokestatic 73, 3) := by decide +kernel
theorem dX6_above_6 : decode cX6_above 6 = .ok (.ldiv, 1) := by decide +kernel
theorem dX6_above_7 : decode cX6_above 7 = .ok (.lreturn, 1) := by decide +kernel
set_option maxRecDepth 20000 in
theorem ggX6_below_X6_divisor : GoodIn wsX6_below wsX6_divisor := goodIn_r _ [4] (by decide +kernel) (by decide +kernel)
set_option maxRecDepth 20000 in
theorem gX6_below_X6_divisor : GoodIn wsX6_below (va_wsS RX6 73 yX6_divisor wsX6_divisor) := goodIn_app (goodIn_of _ (by decide +kernel)) ggX6_below_X6_divisor
theorem dX6_below_0 : decode cX6_below 0 = .ok (.lload_n 2, 1) := by decide +kernel
theorem dX6_below_1 : decode cX6_below 1 = .ok (.lload_n 0, 1) := by decide +kernel
theorem dX6_below_2 : decode cX6_below 2 = .ok (.lload_n 2, 1) := by decide +kernel
theorem dX6_below_3 : decode cX6_below 3 = .ok (.invokestatic 73, 3) := by decide +kernel
theorem dX6_below_6 : decode cX6_below 6 = .ok (.ldiv, 1) := by decide +kernel
theorem dX6_below_7 : decode cX6_below 7 = .ok (.lreturn, 1) := by decide +kernel
theorem dX6_floor_0 : decode cX6_floor 0 = .ok (.lload_n 0, 1) := by decide +kernel
theorem dX6_floor_1 : decode cX6_floor 1 = .ok (.lload_n 2, 1) := by decide +kernel
theorem dX6_floor_2 : decode cX6_floor 2 = .ok (.ldiv, 1) := by decide +kernel
theorem dX6_floor_3 : decode cX6_floor 3 = .ok (.lstore 4, 2) := by decide +kernel
theorem dX6_floor_5 : decode cX6_floor 5 = .ok (.lload 4, 2) := by decide +kernel
theorem dX6_floor_7 : decode cX6_floor 7 = .ok (.lload_n 2, 1) := by decide +kernel
theorem dX6_floor_8 : decode cX6_floor 8 = .ok (.lmul, 1) := by decide +kernel
theorem dX6_floor_9 : decode cX6_floor 9 = .ok (.lload_n 0, 1) := by decide +kernel
theorem dX6_floor_10 : decode cX6_floor 10 = .ok (.lcmp, 1) := by decide +kernel
theorem dX6_floor_11 : decode cX6_floor 11 = .ok (.ifCond .le 10, 3) := by decide +kernel
theorem dX6_floor_14 : decode cX6_floor 14 = .ok (.lload 4, 2) := by decide +kernel
theorem dX6_floor_16 : decode cX6_floor 16 = .ok (.lconst 1, 1) := by decide +kernel
theorem dX6_floor_17 : decode cX6_floor 17 = .ok (.lsub, 1) := by decide +kernel
theorem dX6_floor_18 : decode cX6_floor 18 = .ok (.goto 5, 3) := by decide +kernel
theorem dX6_floor_21 : decode cX6_floor 21 = .ok (.lload 4, 2) := by decide +kernel
theorem dX6_floor_23 : decode cX6_floor 23 = .ok (.lreturn, 1) := by decide +kernel
theorem dX6_isThere_0 : decode cX6_isThere 0 = .ok (.iload_n 1, 1) := by decide +kernel
theorem dX6_isThere_1 : decode cX6_isThere 1 = .ok (.iconst 3, 1) := by decide +kernel
theorem dX6_isThere_2 : decode cX6_isThere 2 = .ok (.irem, 1) := by decide +kernel
theorem dX6_isThere_3 : decode cX6_isThere 3 = .ok (.aload_n 0, 1) := by decide +kernel
theorem dX6_isThere_4 : decode cX6_isThere 4 = .ok (.getfield 7, 3) := by decide +kernel
theorem dX6_isThere_7 : decode cX6_isThere 7 = .ok (.bipush 60, 2) := by decide +kernel
theorem dX6_isThere_9 : decode cX6_isThere 9 = .ok (.iaload, 1) := by decide +kernel
theorem dX6_isThere_10 : decode cX6_isThere 10 = .ok (.if_icmp .ge 7, 3) := by decide +kernel
theorem dX6_isThere_13 : decode cX6_isThere 13 = .ok (.iconst 1, 1) := by decide +kernel
theorem dX6_isThere_14 : decode cX6_isThere 14 = .ok (.goto 4, 3) := by decide +kernel
theorem dX6_isThere_17 : decode cX6_isThere 17 = .ok (.iconst 0, 1) := by decide +kernel
theorem dX6_isThere_18 : decode cX6_isThere 18 = .ok (.ireturn, 1) := by decide +kernel
set_option maxRecDepth 20000 in
theorem ggX6_joins_X6_isThere : GoodIn wsX6_joins wsX6_isThere := goodIn_r _ [5, 6, 11, 12, 13, 14, 15, 16, 17, 18, 19, 20, 21, 22, 23, 24, 25, 26, 27] (by decide +kernel) (by decide +kernel)
set_option maxRecDepth 20000 in
theorem gX6_joins_X6_isThere : GoodIn wsX6_joins (wsV RX6 77 RX6 yX6_isThere wsX6_isThere) := goodIn_app (goodIn_of _ (by decide +kernel)) ggX6_joins_X6_isThere
set_option maxRecDepth 20000 in
theorem ggX6_joins_X6_weightOf : GoodIn wsX6_joins wsX6_weightOf := goodIn_r _ [10, 6, 11, 12, 13, 14, 15, 16, 17, 18, 19, 20, 21, 22, 23, 24, 25, 26, 27] (by decide +kernel) (by decide +kernel)
set_option maxRecDepth 20000 in
theorem gX6_joins_X6_weightOf : GoodIn wsX6_joins (wsV RX6 81 RX6 yX6_weightOf wsX6_weightOf) := goodIn_app (goodIn_of _ (by decide +kernel)) ggX6_joins_X6_weightOf
theorem dX6_joins_0 : decode cX6_joins 0 = .ok (.aload_n 0, 1) := by decide +kernel
theorem dX6_joins_1 : decode cX6_joins 1 = .ok (.iload_n 1, 1) := by decide +kernel
theorem dX6_joins_2 : decode cX6_joins 2 = .ok (.invokevirtual 77, 3) := by decide +kernel
theorem dX6_joins_5 : decode cX6_joins 5 = .ok (.ifCond .eq 22, 3) := by decide +kernel
theorem dX6_joins_8 : decode cX6_joins 8 = .ok (.aload_n 0, 1) := by decide +kernel
theorem dX6_joins_9 : decode cX6_joins 9 = .ok (.iload_n 2, 1) := by decide +kernel
theorem dX6_joins_10 : decode cX6_joins 10 = .ok (.invokevirtual 77, 3) := by decide +kernel
theorem dX6_joins_13 : decode cX6_joins 13 = .ok (.ifCond .eq 14, 3) := by decide +kernel
theorem dX6_joins_16 : decode cX6_joins 16 = .ok (.aload_n 0, 1) := by decide +kernel
theorem dX6_joins_17 : decode cX6_joins 17 = .ok (.iload_n 1, 1) := by decide +kernel
theorem dX6_joins_18 : decode cX6_joins 18 = .ok (.iload_n 2, 1) := by decide +kernel
theorem dX6_joins_19 : decode cX6_joins 19 = .ok (.iconst 3, 1) := by decide +kernel
theorem dX6_joins_20 : decode cX6_joins 20 = .ok (.isub, 1) := by decide +kernel
theorem dX6_joins_21 : decode cX6_joins 21 = .ok (.invokevirtual 81, 3) := by decide +kernel
theorem dX6_joins_24 : decode cX6_joins 24 = .ok (.goto 4, 3) := by decide +kernel
theorem dX6_joins_27 : decode cX6_joins 27 = .ok (.iconst 0, 1) := by decide +kernel
theorem dX6_joins_28 : decode cX6_joins 28 = .ok (.ireturn, 1) := by decide +kernel
set_option maxRecDepth 20000 in
theorem ggX6_isJoined_X6_joins : GoodIn wsX6_isJoined wsX6_joins := goodIn_r _ [5, 6, 7, 8, 4, 9, 10, 11, 12, 13, 14, 15, 16, 17, 18, 19, 20, 21, 22, 23, 24, 25, 26, 27, 28, 29, 30, 31] (by decide +kernel) (by decide +kernel)
set_option maxRecDepth 20000 in
theorem gX6_isJoined_X6_joins : GoodIn wsX6_isJoined (wsV RX6 85 RX6 yX6_joins wsX6_joins) := goodIn_app (goodIn_of _ (by decide +kernel)) ggX6_isJoined_X6_joins
theorem dX6_isJoined_0 : decode cX6_isJoined 0 = .ok (.iconst 0, 1) := by decide +kernel
theorem dX6_isJoined_1 : decode cX6_isJoined 1 = .ok (.istore_n 2, 1) := by decide +kernel
theorem dX6_isJoined_2 : decode cX6_isJoined 2 = .ok (.iconst 0, 1) := by decide +kernel
theorem dX6_isJoined_3 : decode cX6_isJoined 3 = .ok (.istore_n 3, 1) := by decide +kernel
theorem dX6_isJoined_4 : decode cX6_isJoined 4 = .ok (.iload_n 3, 1) := by decide +kernel
theorem dX6_isJoined_5 : decode cX6_isJoined 5 = .ok (.iconst 3, 1) := by decide +kernel
theorem dX6_isJoined_6 : decode cX6_isJoined 6 = .ok (.if_icmp .ge 44, 3) := by decide +kernel
theorem dX6_isJoined_9 : decode cX6_isJoined 9 = .ok (.iload_n 2, 1) := by decide +kernel
theorem dX6_isJoined_10 : decode cX6_isJoined 10 = .ok (.ifCond .ne 28, 3) := by decide +kernel
theorem dX6_isJoined_13 : decode cX6_isJoined 13 = .ok (.iload_n 1, 1) := by decide +kernel
theorem dX6_isJoined_14 : decode cX6_isJoined 14 = .ok (.iconst 3, 1) := by decide +kernel
theorem dX6_isJoined_15 : decode cX6_isJoined 15 = .ok (.if_icmp .ge 14, 3) := by decide +kernel
theorem dX6_isJoined_18 : decode cX6_isJoined 18 = .ok (.aload_n 0, 1) := by decide +kernel
theorem dX6_isJoined_19 : decode cX6_isJoined 19 = .ok (.iload_n 1, 1) := by decide +kernel
theorem dX6_isJoined_20 : decode cX6_isJoined 20 = .ok (.iconst 3, 1) := by decide +kernel
theorem dX6_isJoined_21 : decode cX6_isJoined 21 = .ok (.iload_n 3, 1) := by decide +kernel
theorem dX6_isJoined_22 : decode cX6_isJoined 22 = .ok (.iadd, 1) := by decide +kernel
theorem dX6_isJoined_23 : decode cX6_isJoined 23 = .ok (.invokevirtual 85, 3) := by decide +kernel
theorem dX6_isJoined_26 : decode cX6_isJoined 26 = .ok (.goto 9, 3) := by decide +kernel
theorem dX6_isJoined_29 : decode cX6_isJoined 29 = .ok (.aload_n 0, 1) := by decide +kernel
theorem dX6_isJoined_30 : decode cX6_isJoined 30 = .ok (.iload_n 3, 1) := by decide +kernel
theorem dX6_isJoined_31 : decode cX6_isJoined 31 = .ok (.iload_n 1, 1) := by decide +kernel
theorem dX6_isJoined_32 : decode cX6_isJoined 32 = .ok (.invokevirtual 85, 3) := by decide +kernel
theorem dX6_isJoined_35 : decode cX6_isJoined 35 = .ok (.ifCond .le 7, 3) := by decide +kernel
theorem dX6_isJoined_38 : decode cX6_isJoined 38 = .ok (.iconst 1, 1) := by decide +kernel
theorem dX6_isJoined_39 : decode cX6_isJoined 39 = .ok (.goto 4, 3) := by decide +kernel
theorem dX6_isJoined_42 : decode cX6_isJoined 42 = .ok (.iconst 0, 1) := by decide +kernel
theorem dX6_isJoined_43 : decode cX6_isJoined 43 = .ok (.istore_n 2, 1) := by decide +kernel
theorem dX6_isJoined_44 : decode cX6_isJoined 44 = .ok (.iinc 3 1, 3) := by decide +kernel
theorem dX6_isJoined_47 : decode cX6_isJoined 47 = .ok (.goto (-43), 3) := by decide +kernel
theorem dX6_isJoined_50 : decode cX6_isJoined 50 = .ok (.iload_n 2, 1) := by decide +kernel
theorem dX6_isJoined_51 : decode cX6_isJoined 51 = .ok (.ireturn, 1) := by decide +kernel
set_option maxRecDepth 20000 in
theorem ggX6_layGroups_X6_joins : GoodIn wsX6_layGroups wsX6_joins := goodIn_r _ [6, 7, 8, 9, 5, 10, 11, 12, 13, 14, 15, 16, 17, 18, 19, 20, 21, 22, 23, 24, 25, 26, 27, 28, 29, 30, 31, 32] (by decide +kernel) (by decide +kernel)
set_option maxRecDepth 20000 in
theorem gX6_layGroups_X6_joins : GoodIn wsX6_layGroups (wsV RX6 85 RX6 yX6_joins wsX6_joins) := goodIn_app (goodIn_of _ (by decide +kernel)) ggX6_layGroups_X6_joins
theorem dX6_layGroups_0 : decode cX6_layGroups 0 = .ok (.iconst 0, 1) := by decide +kernel
theorem dX6_layGroups_1 : decode cX6_layGroups 1 = .ok (.istore_n 1, 1) := by decide +kernel
theorem dX6_layGroups_2 : decode cX6_layGroups 2 = .ok (.iload_n 1, 1) := by decide +kernel
theorem dX6_layGroups_3 : decode cX6_layGroups 3 = .ok (.bipush 6, 2) := by decide +kernel
theorem dX6_layGroups_5 : decode cX6_layGroups 5 = .ok (.if_icmp .ge 16, 3) := by decide +kernel
theorem dX6_layGroups_8 : decode cX6_layGroups 8 = .ok (.aload_n 0, 1) := by decide +kernel
theorem dX6_layGroups_9 : decode cX6_layGroups 9 = .ok (.getfield 24, 3) := by decide +kernel
theorem dX6_layGroups_12 : decode cX6_layGroups 12 = .ok (.iload_n 1, 1) := by decide +kernel
theorem dX6_layGroups_13 : decode cX6_layGroups 13 = .ok (.iload_n 1, 1) := by decide +kernel
theorem dX6_layGroups_14 : decode cX6_layGroups 14 = .ok (.iastore, 1) := by decide +kernel
theorem dX6_layGroups_15 : decode cX6_layGroups 15 = .ok (.iinc 1 1, 3) := by decide +kernel
theorem dX6_layGroups_18 : decode cX6_layGroups 18 = .ok (.goto (-16), 3) := by decide +kernel
theorem dX6_layGroups_21 : decode cX6_layGroups 21 = .ok (.iconst 0, 1) := by decide +kernel
theorem dX6_layGroups_22 : decode cX6_layGroups 22 = .ok (.istore_n 1, 1) := by decide +kernel
theorem dX6_layGroups_23 : decode cX6_layGroups 23 = .ok (.iload_n 1, 1) := by decide +kernel
theorem dX6_layGroups_24 : decode cX6_layGroups 24 = .ok (.bipush 6, 2) := by decide +kernel
theorem dX6_layGroups_26 : decode cX6_layGroups 26 = .ok (.if_icmp .ge 131, 3) := by decide +kernel
theorem dX6_layGroups_29 : decode cX6_layGroups 29 = .ok (.iconst 0, 1) := by decide +kernel
theorem dX6_layGroups_30 : decode cX6_layGroups 30 = .ok (.istore_n 2, 1) := by decide +kernel
theorem dX6_layGroups_31 : decode cX6_layGroups 31 = .ok (.iload_n 2, 1) := by decide +kernel
theorem dX6_layGroups_32 : decode cX6_layGroups 32 = .ok (.bipush 9, 2) := by decide +kernel
theorem dX6_layGroups_34 : decode cX6_layGroups 34 = .ok (.if_icmp .ge 117, 3) := by decide +kernel
theorem dX6_layGroups_37 : decode cX6_layGroups 37 = .ok (.iload_n 2, 1) := by decide +kernel
theorem dX6_layGroups_38 : decode cX6_layGroups 38 = .ok (.iconst 3, 1) := by decide +kernel
theorem dX6_layGroups_39 : decode cX6_layGroups 39 = .ok (.idiv, 1) := by decide +kernel
theorem dX6_layGroups_40 : decode cX6_layGroups 40 = .ok (.istore_n 3, 1) := by decide +kernel
theorem dX6_layGroups_41 : decode cX6_layGroups 41 = .ok (.iconst 3, 1) := by decide +kernel
theorem dX6_layGroups_42 : decode cX6_layGroups 42 = .ok (.iload_n 2, 1) := by decide +kernel
theorem dX6_layGroups_43 : decode cX6_layGroups 43 = .ok (.iconst 3, 1) := by decide +kernel
theorem dX6_layGroups_44 : decode cX6_layGroups 44 = .ok (.irem, 1) := by decide +kernel
theorem dX6_layGroups_45 : decode cX6_layGroups 45 = .ok (.iadd, 1) := by decide +kernel
theorem dX6_layGroups_46 : decode cX6_layGroups 46 = .ok (.istore 4, 2) := by decide +kernel
theorem dX6_layGroups_48 : decode cX6_layGroups 48 = .ok (.aload_n 0, 1) := by decide +kernel
theorem dX6_layGroups_49 : decode cX6_layGroups 49 = .ok (.getfield 24, 3) := by decide +kernel
theorem dX6_layGroups_52 : decode cX6_layGroups 52 = .ok (.iload_n 3, 1) := by decide +kernel
theorem dX6_layGroups_53 : decode cX6_layGroups 53 = .ok (.iaload, 1) := by decide +kernel
theorem dX6_layGroups_54 : decode cX6_layGroups 54 = .ok (.aload_n 0, 1) := by decide +kernel
theorem dX6_layGroups_55 : decode cX6_layGroups 55 = .ok (.getfield 24, 3) := by decide +kernel
theorem dX6_layGroups_58 : decode cX6_layGroups 58 = .ok (.iload 4, 2) := by decide +kernel
theorem dX6_layGroups_60 : decode cX6_layGroups 60 = .ok (.iaload, 1) := by decide +kernel
theorem dX6_layGroups_61 : decode cX6_layGroups 61 = .ok (.if_icmp .ge 12, 3) := by decide +kernel
theorem dX6_layGroups_64 : decode cX6_layGroups 64 = .ok (.aload_n 0, 1) := by decide +kernel
theorem dX6_layGroups_65 : decode cX6_layGroups 65 = .ok (.getfield 24, 3) := by decide +kernel
theorem dX6_layGroups_68 : decode cX6_layGroups 68 = .ok (.iload_n 3, 1) := by decide +kernel
theorem dX6_layGroups_69 : decode cX6_layGroups 69 = .ok (.iaload, 1) := by decide +kernel
theorem dX6_layGroups_70 : decode cX6_layGroups 70 = .ok (.goto 10, 3) := by decide +kernel
theorem dX6_layGroups_73 : decode cX6_layGroups 73 = .ok (.aload_n 0, 1) := by decide +kernel
theorem dX6_layGroups_74 : decode cX6_layGroups 74 = .ok (.getfield 24, 3) := by decide +kernel
theorem dX6_layGroups_77 : decode cX6_layGroups 77 = .ok (.iload 4, 2) := by decide +kernel
theorem dX6_layGroups_79 : decode cX6_layGroups 79 = .ok (.iaload, 1) := by decide +kernel
theorem dX6_layGroups_80 : decode cX6_layGroups 80 = .ok (.istore 5, 2) := by decide +kernel
theorem dX6_layGroups_82 : decode cX6_layGroups 82 = .ok (.aload_n 0, 1) := by decide +kernel
theorem dX6_layGroups_83 : decode cX6_layGroups 83 = .ok (.iload_n 3, 1) := by decide +kernel
theorem dX6_layGroups_84 : decode cX6_layGroups 84 = .ok (.iload 4, 2) := by decide +kernel
theorem dX6_layGroups_86 : decode cX6_layGroups 86 = .ok (.invokevirtual 85, 3) := by decide +kernel
theorem dX6_layGroups_89 : decode cX6_layGroups 89 = .ok (.ifCond .le 7, 3) := by decide +kernel
theorem dX6_layGroups_92 : decode cX6_layGroups 92 = .ok (.iconst 1, 1) := by decide +kernel
theorem dX6_layGroups_93 : decode cX6_layGroups 93 = .ok (.goto 4, 3) := by decide +kernel
theorem dX6_layGroups_96 : decode cX6_layGroups 96 = .ok (.iconst 0, 1) := by decide +kernel
theorem dX6_layGroups_97 : decode cX6_layGroups 97 = .ok (.istore 6, 2) := by decide +kernel
theorem dX6_layGroups_99 : decode cX6_layGroups 99 = .ok (.aload_n 0, 1) := by decide +kernel
theorem dX6_layGroups_100 : decode cX6_layGroups 100 = .ok (.getfield 24, 3) := by decide +kernel
theorem dX6_layGroups_103 : decode cX6_layGroups 103 = .ok (.iload_n 3, 1) := by decide +kernel
theorem dX6_layGroups_104 : decode cX6_layGroups 104 = .ok (.iload 6, 2) := by decide +kernel
theorem dX6_layGroups_106 : decode cX6_layGroups 106 = .ok (.ifCond .eq 8, 3) := by decide +kernel
theorem dX6_layGroups_109 : decode cX6_layGroups 109 = .ok (.iload 5, 2) := by decide +kernel
theorem dX6_layGroups_111 : decode cX6_layGroups 111 = .ok (.goto 9, 3) := by decide +kernel
theorem dX6_layGroups_114 : decode cX6_layGroups 114 = .ok (.aload_n 0, 1) := by decide +kernel
theorem dX6_layGroups_115 : decode cX6_layGroups 115 = .ok (.getfield 24, 3) := by decide +kernel
theorem dX6_layGroups_118 : decode cX6_layGroups 118 = .ok (.iload_n 3, 1) := by decide +kernel
theorem dX6_layGroups_119 : decode cX6_layGroups 119 = .ok (.iaload, 1) := by decide +kernel
theorem dX6_layGroups_120 : decode cX6_layGroups 120 = .ok (.iastore, 1) := by decide +kernel
theorem dX6_layGroups_121 : decode cX6_layGroups 121 = .ok (.aload_n 0, 1) := by decide +kernel
theorem dX6_layGroups_122 : decode cX6_layGroups 122 = .ok (.getfield 24, 3) := by decide +kernel
theorem dX6_layGroups_125 : decode cX6_layGroups 125 = .ok (.iload 4, 2) := by decide +kernel
theorem dX6_layGroups_127 : decode cX6_layGroups 127 = .ok (.iload 6, 2) := by decide +kernel
theorem dX6_layGroups_129 : decode cX6_layGroups 129 = .ok (.ifCond .eq 8, 3) := by decide +kernel
theorem dX6_layGroups_132 : decode cX6_layGroups 132 = .ok (.iload 5, 2) := by decide +kernel
theorem dX6_layGroups_134 : decode cX6_layGroups 134 = .ok (.goto 10, 3) := by decide +kernel
theorem dX6_layGroups_137 : decode cX6_layGroups 137 = .ok (.aload_n 0, 1) := by decide +kernel
theorem dX6_layGroups_138 : decode cX6_layGroups 138 = .ok (.getfield 24, 3) := by decide +kernel
theorem dX6_layGroups_141 : decode cX6_layGroups 141 = .ok (.iload 4, 2) := by decide +kernel
theorem dX6_layGroups_143 : decode cX6_layGroups 143 = .ok (.iaload, 1) := by decide +kernel
theorem dX6_layGroups_144 : decode cX6_layGroups 144 = .ok (.iastore, 1) := by decide +kernel
theorem dX6_layGroups_145 : decode cX6_layGroups 145 = .ok (.iinc 2 1, 3) := by decide +kernel
theorem dX6_layGroups_148 : decode cX6_layGroups 148 = .ok (.goto (-117), 3) := by decide +kernel
theorem dX6_layGroups_151 : decode cX6_layGroups 151 = .ok (.iinc 1 1, 3) := by decide +kernel
theorem dX6_layGroups_154 : decode cX6_layGroups 154 = .ok (.goto (-131), 3) := by decide +kernel
theorem dX6_layGroups_157 : decode cX6_layGroups 157 = .ok (.return_, 1) := by decide +kernel
set_option maxRecDepth 20000 in
theorem ggX6_layOpen_X6_layGroups : GoodIn wsX6_layOpen wsX6_layGroups := goodIn_r _ [7, 1, 8, 9, 10, 6, 11, 12, 13, 14, 15, 16, 17, 18, 19, 20, 25, 26, 27, 28, 29, 30, 31, 32, 33, 34, 35, 36, 37, 38, 39, 40, 41] (by decide +kernel) (by decide +kernel)
set_option maxRecDepth 20000 in
theorem gX6_layOpen_X6_layGroups : GoodIn wsX6_layOpen (wsV RX6 88 RX6 yX6_layGroups wsX6_layGroups) := goodIn_app (goodIn_of _ (by decide +kernel)) ggX6_layOpen_X6_layGroups
set_option maxRecDepth 20000 in
theorem ggX6_layOpen_X6_isJoined : GoodIn wsX6_layOpen wsX6_isJoined := goodIn_r _ [24, 8, 9, 10, 6, 11, 12, 13, 14, 15, 16, 17, 18, 19, 20, 25, 26, 27, 28, 29, 30, 31, 32, 33, 34, 35, 36, 37, 38, 39, 40, 41] (by decide +kernel) (by decide +kernel)
set_option maxRecDepth 20000 in
theorem gX6_layOpen_X6_isJoined : GoodIn wsX6_layOpen (wsV RX6 91 RX6 yX6_isJoined wsX6_isJoined) := goodIn_app (goodIn_of _ (by decide +kernel)) ggX6_layOpen_X6_isJoined
theorem dX6_layOpen_0 : decode cX6_layOpen 0 = .ok (.aload_n 0, 1) := by decide +kernel
theorem dX6_layOpen_1 : decode cX6_layOpen 1 = .ok (.invokevirtual 88, 3) := by decide +kernel
theorem dX6_layOpen_4 : decode cX6_layOpen 4 = .ok (.iconst 0, 1) := by decide +kernel
theorem dX6_layOpen_5 : decode cX6_layOpen 5 = .ok (.istore_n 1, 1) := by decide +kernel
theorem dX6_layOpen_6 : decode cX6_layOpen 6 = .ok (.iload_n 1, 1) := by decide +kernel
theorem dX6_layOpen_7 : decode cX6_layOpen 7 = .ok (.bipush 6, 2) := by decide +kernel
theorem dX6_layOpen_9 : decode cX6_layOpen 9 = .ok (.if_icmp .ge 84, 3) := by decide +kernel
theorem dX6_layOpen_12 : decode cX6_layOpen 12 = .ok (.iload_n 1, 1) := by decide +kernel
theorem dX6_layOpen_13 : decode cX6_layOpen 13 = .ok (.iconst 2, 1) := by decide +kernel
theorem dX6_layOpen_14 : decode cX6_layOpen 14 = .ok (.if_icmp .le 7, 3) := by decide +kernel
theorem dX6_layOpen_17 : decode cX6_layOpen 17 = .ok (.iconst 1, 1) := by decide +kernel
theorem dX6_layOpen_18 : decode cX6_layOpen 18 = .ok (.goto 4, 3) := by decide +kernel
theorem dX6_layOpen_21 : decode cX6_layOpen 21 = .ok (.iconst 0, 1) := by decide +kernel
theorem dX6_layOpen_22 : decode cX6_layOpen 22 = .ok (.istore_n 2, 1) := by decide +kernel
theorem dX6_layOpen_23 : decode cX6_layOpen 23 = .ok (.iload_n 1, 1) := by decide +kernel
theorem dX6_layOpen_24 : decode cX6_layOpen 24 = .ok (.iconst 1, 1) := by decide +kernel
theorem dX6_layOpen_25 : decode cX6_layOpen 25 = .ok (.iadd, 1) := by decide +kernel
theorem dX6_layOpen_26 : decode cX6_layOpen 26 = .ok (.istore_n 3, 1) := by decide +kernel
theorem dX6_layOpen_27 : decode cX6_layOpen 27 = .ok (.iload_n 3, 1) := by decide +kernel
theorem dX6_layOpen_28 : decode cX6_layOpen 28 = .ok (.bipush 6, 2) := by decide +kernel
theorem dX6_layOpen_30 : decode cX6_layOpen 30 = .ok (.if_icmp .ge 34, 3) := by decide +kernel
theorem dX6_layOpen_33 : decode cX6_layOpen 33 = .ok (.iload_n 2, 1) := by decide +kernel
theorem dX6_layOpen_34 : decode cX6_layOpen 34 = .ok (.ifCond .eq 22, 3) := by decide +kernel
theorem dX6_layOpen_37 : decode cX6_layOpen 37 = .ok (.aload_n 0, 1) := by decide +kernel
theorem dX6_layOpen_38 : decode cX6_layOpen 38 = .ok (.getfield 24, 3) := by decide +kernel
theorem dX6_layOpen_41 : decode cX6_layOpen 41 = .ok (.iload_n 3, 1) := by decide +kernel
theorem dX6_layOpen_42 : decode cX6_layOpen 42 = .ok (.iaload, 1) := by decide +kernel
theorem dX6_layOpen_43 : decode cX6_layOpen 43 = .ok (.aload_n 0, 1) := by decide +kernel
theorem dX6_layOpen_44 : decode cX6_layOpen 44 = .ok (.getfield 24, 3) := by decide +kernel
theorem dX6_layOpen_47 : decode cX6_layOpen 47 = .ok (.iload_n 1, 1) := by decide +kernel
theorem dX6_layOpen_48 : decode cX6_layOpen 48 = .ok (.iaload, 1) := by decide +kernel
theorem dX6_layOpen_49 : decode cX6_layOpen 49 = .ok (.if_icmp .eq 7, 3) := by decide +kernel
theorem dX6_layOpen_52 : decode cX6_layOpen 52 = .ok (.iconst 1, 1) := by decide +kernel
theorem dX6_layOpen_53 : decode cX6_layOpen 53 = .ok (.goto 4, 3) := by decide +kernel
theorem dX6_layOpen_56 : decode cX6_layOpen 56 = .ok (.iconst 0, 1) := by decide +kernel
theorem dX6_layOpen_57 : decode cX6_layOpen 57 = .ok (.istore_n 2, 1) := by decide +kernel
theorem dX6_layOpen_58 : decode cX6_layOpen 58 = .ok (.iinc 3 1, 3) := by decide +kernel
theorem dX6_layOpen_61 : decode cX6_layOpen 61 = .ok (.goto (-34), 3) := by decide +kernel
theorem dX6_layOpen_64 : decode cX6_layOpen 64 = .ok (.aload_n 0, 1) := by decide +kernel
theorem dX6_layOpen_65 : decode cX6_layOpen 65 = .ok (.getfield 16, 3) := by decide +kernel
theorem dX6_layOpen_68 : decode cX6_layOpen 68 = .ok (.iload_n 1, 1) := by decide +kernel
theorem dX6_layOpen_69 : decode cX6_layOpen 69 = .ok (.aload_n 0, 1) := by decide +kernel
theorem dX6_layOpen_70 : decode cX6_layOpen 70 = .ok (.iload_n 1, 1) := by decide +kernel
theorem dX6_layOpen_71 : decode cX6_layOpen 71 = .ok (.invokevirtual 91, 3) := by decide +kernel
theorem dX6_layOpen_74 : decode cX6_layOpen 74 = .ok (.ifCond .eq 7, 3) := by decide +kernel
theorem dX6_layOpen_77 : decode cX6_layOpen 77 = .ok (.iload_n 2, 1) := by decide +kernel
theorem dX6_layOpen_78 : decode cX6_layOpen 78 = .ok (.ifCond .eq 7, 3) := by decide +kernel
theorem dX6_layOpen_81 : decode cX6_layOpen 81 = .ok (.iconst 1, 1) := by decide +kernel
theorem dX6_layOpen_82 : decode cX6_layOpen 82 = .ok (.goto 4, 3) := by decide +kernel
theorem dX6_layOpen_85 : decode cX6_layOpen 85 = .ok (.iconst 0, 1) := by decide +kernel
theorem dX6_layOpen_86 : decode cX6_layOpen 86 = .ok (.bastore, 1) := by decide +kernel
theorem dX6_layOpen_87 : decode cX6_layOpen 87 = .ok (.iinc 1 1, 3) := by decide +kernel
theorem dX6_layOpen_90 : decode cX6_layOpen 90 = .ok (.goto (-84), 3) := by decide +kernel
theorem dX6_layOpen_93 : decode cX6_layOpen 93 = .ok (.return_, 1) := by decide +kernel
set_option maxRecDepth 20000 in
theorem ggX6_layEquations_X6_sumOfWeights : GoodIn wsX6_layEquations wsX6_sumOfWeights := goodIn_r _ [8, 9, 10, 11, 7, 12, 13, 14, 15, 16, 17, 18, 19, 20, 21, 33, 34, 35, 36, 37, 38, 39, 40, 41, 42, 43, 44, 45, 46, 47, 48, 49] (by decide +kernel) (by decide +kernel)
set_option maxRecDepth 20000 in
theorem gX6_layEquations_X6_sumOfWeights : GoodIn wsX6_layEquations (wsV RX6 94 RX6 yX6_sumOfWeights wsX6_sumOfWeights) := goodIn_app (goodIn_of _ (by decide +kernel)) ggX6_layEquations_X6_sumOfWeights
set_option maxRecDepth 20000 in
theorem ggX6_layEquations_X6_joins : GoodIn wsX6_layEquations wsX6_joins := goodIn_r _ [12, 13, 14, 15, 7, 16, 17, 18, 19, 20, 21, 33, 34, 35, 36, 37, 38, 39, 40, 41, 42, 43, 44, 45, 46, 47, 48, 49] (by decide +kernel) (by decide +kernel)
set_option maxRecDepth 20000 in
theorem gX6_layEquations_X6_joins : GoodIn wsX6_layEquations (wsV RX6 85 RX6 yX6_joins wsX6_joins) := goodIn_app (goodIn_of _ (by decide +kernel)) ggX6_layEquations_X6_joins
set_option maxRecDepth 20000 in
theorem ggX6_layEquations_X6_wantedOf : GoodIn wsX6_layEquations wsX6_wantedOf := goodIn_r _ [25, 17, 9, 10, 11, 7, 12, 13, 14, 15, 16, 18, 19, 20, 21, 26, 27, 28, 29, 30, 31, 32, 33, 34, 35, 36, 37, 38, 39, 40, 41, 42, 43, 44, 45, 46, 47, 48, 49] (by decide +kernel) (by decide +kernel)
set_option maxRecDepth 20000 in
theorem gX6_layEquations_X6_wantedOf : GoodIn wsX6_layEquations (wsV RX6 98 RX6 yX6_wantedOf wsX6_wantedOf) := goodIn_app (goodIn_of _ (by decide +kernel)) ggX6_layEquations_X6_wantedOf
theorem dX6_layEquations_0 : decode cX6_layEquations 0 = .ok (.iconst 0, 1) := by decide +kernel
theorem dX6_layEquations_1 : decode cX6_layEquations 1 = .ok (.istore_n 1, 1) := by decide +kernel
theorem dX6_layEquations_2 : decode cX6_layEquations 2 = .ok (.iconst 0, 1) := by decide +kernel
theorem dX6_layEquations_3 : decode cX6_layEquations 3 = .ok (.istore_n 2, 1) := by decide +kernel
theorem dX6_layEquations_4 : decode cX6_layEquations 4 = .ok (.iload_n 2, 1) := by decide +kernel
theorem dX6_layEquations_5 : decode cX6_layEquations 5 = .ok (.bipush 6, 2) := by decide +kernel
theorem dX6_layEquations_7 : decode cX6_layEquations 7 = .ok (.if_icmp .ge 28, 3) := by decide +kernel
theorem dX6_layEquations_10 : decode cX6_layEquations 10 = .ok (.aload_n 0, 1) := by decide +kernel
theorem dX6_layEquations_11 : decode cX6_layEquations 11 = .ok (.getfield 16, 3) := by decide +kernel
theorem dX6_layEquations_14 : decode cX6_layEquations 14 = .ok (.iload_n 2, 1) := by decide +kernel
theorem dX6_layEquations_15 : decode cX6_layEquations 15 = .ok (.baload, 1) := by decide +kernel
theorem dX6_layEquations_16 : decode cX6_layEquations 16 = .ok (.ifCond .ne 13, 3) := by decide +kernel
theorem dX6_layEquations_19 : decode cX6_layEquations 19 = .ok (.aload_n 0, 1) := by decide +kernel
theorem dX6_layEquations_20 : decode cX6_layEquations 20 = .ok (.getfield 30, 3) := by decide +kernel
theorem dX6_layEquations_23 : decode cX6_layEquations 23 = .ok (.iload_n 1, 1) := by decide +kernel
theorem dX6_layEquations_24 : decode cX6_layEquations 24 = .ok (.iload_n 2, 1) := by decide +kernel
theorem dX6_layEquations_25 : decode cX6_layEquations 25 = .ok (.iastore, 1) := by decide +kernel
theorem dX6_layEquations_26 : decode cX6_layEquations 26 = .ok (.iinc 1 1, 3) := by decide +kernel
theorem dX6_layEquations_29 : decode cX6_layEquations 29 = .ok (.iinc 2 1, 3) := by decide +kernel
theorem dX6_layEquations_32 : decode cX6_layEquations 32 = .ok (.goto (-28), 3) := by decide +kernel
theorem dX6_layEquations_35 : decode cX6_layEquations 35 = .ok (.iconst 0, 1) := by decide +kernel
theorem dX6_layEquations_36 : decode cX6_layEquations 36 = .ok (.istore_n 2, 1) := by decide +kernel
theorem dX6_layEquations_37 : decode cX6_layEquations 37 = .ok (.iload_n 2, 1) := by decide +kernel
theorem dX6_layEquations_38 : decode cX6_layEquations 38 = .ok (.iload_n 1, 1) := by decide +kernel
theorem dX6_layEquations_39 : decode cX6_layEquations 39 = .ok (.if_icmp .ge 137, 3) := by decide +kernel
theorem dX6_layEquations_42 : decode cX6_layEquations 42 = .ok (.iconst 0, 1) := by decide +kernel
theorem dX6_layEquations_43 : decode cX6_layEquations 43 = .ok (.istore_n 3, 1) := by decide +kernel
theorem dX6_layEquations_44 : decode cX6_layEquations 44 = .ok (.iload_n 3, 1) := by decide +kernel
theorem dX6_layEquations_45 : decode cX6_layEquations 45 = .ok (.iload_n 1, 1) := by decide +kernel
theorem dX6_layEquations_46 : decode cX6_layEquations 46 = .ok (.if_icmp .ge 102, 3) := by decide +kernel
theorem dX6_layEquations_49 : decode cX6_layEquations 49 = .ok (.aload_n 0, 1) := by decide +kernel
theorem dX6_layEquations_50 : decode cX6_layEquations 50 = .ok (.getfield 30, 3) := by decide +kernel
theorem dX6_layEquations_53 : decode cX6_layEquations 53 = .ok (.iload_n 2, 1) := by decide +kernel
theorem dX6_layEquations_54 : decode cX6_layEquations 54 = .ok (.iaload, 1) := by decide +kernel
theorem dX6_layEquations_55 : decode cX6_layEquations 55 = .ok (.istore 4, 2) := by decide +kernel
theorem dX6_layEquations_57 : decode cX6_layEquations 57 = .ok (.aload_n 0, 1) := by decide +kernel
theorem dX6_layEquations_58 : decode cX6_layEquations 58 = .ok (.getfield 30, 3) := by decide +kernel
theorem dX6_layEquations_61 : decode cX6_layEquations 61 = .ok (.iload_n 3, 1) := by decide +kernel
theorem dX6_layEquations_62 : decode cX6_layEquations 62 = .ok (.iaload, 1) := by decide +kernel
theorem dX6_layEquations_63 : decode cX6_layEquations 63 = .ok (.istore 5, 2) := by decide +kernel
theorem dX6_layEquations_65 : decode cX6_layEquations 65 = .ok (.aload_n 0, 1) := by decide +kernel
theorem dX6_layEquations_66 : decode cX6_layEquations 66 = .ok (.getfield 27, 3) := by decide +kernel
theorem dX6_layEquations_69 : decode cX6_layEquations 69 = .ok (.bipush 7, 2) := by decide +kernel
theorem dX6_layEquations_71 : decode cX6_layEquations 71 = .ok (.iload_n 2, 1) := by decide +kernel
theorem dX6_layEquations_72 : decode cX6_layEquations 72 = .ok (.imul, 1) := by decide +kernel
theorem dX6_layEquations_73 : decode cX6_layEquations 73 = .ok (.iload_n 3, 1) := by decide +kernel
theorem dX6_layEquations_74 : decode cX6_layEquations 74 = .ok (.iadd, 1) := by decide +kernel
theorem dX6_layEquations_75 : decode cX6_layEquations 75 = .ok (.iload 4, 2) := by decide +kernel
theorem dX6_layEquations_77 : decode cX6_layEquations 77 = .ok (.iload 5, 2) := by decide +kernel
theorem dX6_layEquations_79 : decode cX6_layEquations 79 = .ok (.if_icmp .ne 13, 3) := by decide +kernel
theorem dX6_layEquations_82 : decode cX6_layEquations 82 = .ok (.aload_n 0, 1) := by decide +kernel
theorem dX6_layEquations_83 : decode cX6_layEquations 83 = .ok (.iload 4, 2) := by decide +kernel
theorem dX6_layEquations_85 : decode cX6_layEquations 85 = .ok (.invokevirtual 94, 3) := by decide +kernel
theorem dX6_layEquations_88 : decode cX6_layEquations 88 = .ok (.i2l, 1) := by decide +kernel
theorem dX6_layEquations_89 : decode cX6_layEquations 89 = .ok (.goto 52, 3) := by decide +kernel
theorem dX6_layEquations_92 : decode cX6_layEquations 92 = .ok (.iload 4, 2) := by decide +kernel
theorem dX6_layEquations_94 : decode cX6_layEquations 94 = .ok (.iconst 3, 1) := by decide +kernel
theorem dX6_layEquations_95 : decode cX6_layEquations 95 = .ok (.if_icmp .ge 21, 3) := by decide +kernel
theorem dX6_layEquations_98 : decode cX6_layEquations 98 = .ok (.iload 5, 2) := by decide +kernel
theorem dX6_layEquations_100 : decode cX6_layEquations 100 = .ok (.iconst 2, 1) := by decide +kernel
theorem dX6_layEquations_101 : decode cX6_layEquations 101 = .ok (.if_icmp .le 15, 3) := by decide +kernel
theorem dX6_layEquations_104 : decode cX6_layEquations 104 = .ok (.aload_n 0, 1) := by decide +kernel
theorem dX6_layEquations_105 : decode cX6_layEquations 105 = .ok (.iload 4, 2) := by decide +kernel
theorem dX6_layEquations_107 : decode cX6_layEquations 107 = .ok (.iload 5, 2) := by decide +kernel
theorem dX6_layEquations_109 : decode cX6_layEquations 109 = .ok (.invokevirtual 85, 3) := by decide +kernel
theorem dX6_layEquations_112 : decode cX6_layEquations 112 = .ok (.i2l, 1) := by decide +kernel
theorem dX6_layEquations_113 : decode cX6_layEquations 113 = .ok (.goto 28, 3) := by decide +kernel
theorem dX6_layEquations_116 : decode cX6_layEquations 116 = .ok (.iload 4, 2) := by decide +kernel
theorem dX6_layEquations_118 : decode cX6_layEquations 118 = .ok (.iconst 2, 1) := by decide +kernel
theorem dX6_layEquations_119 : decode cX6_layEquations 119 = .ok (.if_icmp .le 21, 3) := by decide +kernel
theorem dX6_layEquations_122 : decode cX6_layEquations 122 = .ok (.iload 5, 2) := by decide +kernel
theorem dX6_layEquations_124 : decode cX6_layEquations 124 = .ok (.iconst 3, 1) := by decide +kernel
theorem dX6_layEquations_125 : decode cX6_layEquations 125 = .ok (.if_icmp .ge 15, 3) := by decide +kernel
theorem dX6_layEquations_128 : decode cX6_layEquations 128 = .ok (.aload_n 0, 1) := by decide +kernel
theorem dX6_layEquations_129 : decode cX6_layEquations 129 = .ok (.iload 5, 2) := by decide +kernel
theorem dX6_layEquations_131 : decode cX6_layEquations 131 = .ok (.iload 4, 2) := by decide +kernel
theorem dX6_layEquations_133 : decode cX6_layEquations 133 = .ok (.invokevirtual 85, 3) := by decide +kernel
theorem dX6_layEquations_136 : decode cX6_layEquations 136 = .ok (.i2l, 1) := by decide +kernel
theorem dX6_layEquations_137 : decode cX6_layEquations 137 = .ok (.goto 4, 3) := by decide +kernel
theorem dX6_layEquations_140 : decode cX6_layEquations 140 = .ok (.lconst 0, 1) := by decide +kernel
theorem dX6_layEquations_141 : decode cX6_layEquations 141 = .ok (.lastore, 1) := by decide +kernel
theorem dX6_layEquations_142 : decode cX6_layEquations 142 = .ok (.iinc 3 1, 3) := by decide +kernel
theorem dX6_layEquations_145 : decode cX6_layEquations 145 = .ok (.goto (-101), 3) := by decide +kernel
theorem dX6_layEquations_148 : decode cX6_layEquations 148 = .ok (.aload_n 0, 1) := by decide +kernel
theorem dX6_layEquations_149 : decode cX6_layEquations 149 = .ok (.getfield 27, 3) := by decide +kernel
theorem dX6_layEquations_152 : decode cX6_layEquations 152 = .ok (.bipush 7, 2) := by decide +kernel
theorem dX6_layEquations_154 : decode cX6_layEquations 154 = .ok (.iload_n 2, 1) := by decide +kernel
theorem dX6_layEquations_155 : decode cX6_layEquations 155 = .ok (.imul, 1) := by decide +kernel
theorem dX6_layEquations_156 : decode cX6_layEquations 156 = .ok (.bipush 6, 2) := by decide +kernel
theorem dX6_layEquations_158 : decode cX6_layEquations 158 = .ok (.iadd, 1) := by decide +kernel
theorem dX6_layEquations_159 : decode cX6_layEquations 159 = .ok (.aload_n 0, 1) := by decide +kernel
theorem dX6_layEquations_160 : decode cX6_layEquations 160 = .ok (.aload_n 0, 1) := by decide +kernel
theorem dX6_layEquations_161 : decode cX6_layEquations 161 = .ok (.getfield 30, 3) := by decide +kernel
theorem dX6_layEquations_164 : decode cX6_layEquations 164 = .ok (.iload_n 2, 1) := by decide +kernel
theorem dX6_layEquations_165 : decode cX6_layEquations 165 = .ok (.iaload, 1) := by decide +kernel
theorem dX6_layEquations_166 : decode cX6_layEquations 166 = .ok (.invokevirtual 98, 3) := by decide +kernel
theorem dX6_layEquations_169 : decode cX6_layEquations 169 = .ok (.lastore, 1) := by decide +kernel
theorem dX6_layEquations_170 : decode cX6_layEquations 170 = .ok (.iinc 2 1, 3) := by decide +kernel
theorem dX6_layEquations_173 : decode cX6_layEquations 173 = .ok (.goto (-136), 3) := by decide +kernel
theorem dX6_layEquations_176 : decode cX6_layEquations 176 = .ok (.iload_n 1, 1) := by decide +kernel
theorem dX6_layEquations_177 : decode cX6_layEquations 177 = .ok (.ireturn, 1) := by decide +kernel
set_option maxRecDepth 20000 in
theorem ggX6_sumOfWeights_X6_joins : GoodIn wsX6_sumOfWeights wsX6_joins := goodIn_r _ [5, 6, 7, 8, 4, 9, 10, 11, 12, 13, 14, 15, 16, 17, 18, 19, 20, 21, 22, 23, 24, 25, 26, 27, 28, 29, 30, 31] (by decide +kernel) (by decide +kernel)
set_option maxRecDepth 20000 in
theorem gX6_sumOfWeights_X6_joins : GoodIn wsX6_sumOfWeights (wsV RX6 85 RX6 yX6_joins wsX6_joins) := goodIn_app (goodIn_of _ (by decide +kernel)) ggX6_sumOfWeights_X6_joins
theorem dX6_sumOfWeights_0 : decode cX6_sumOfWeights 0 = .ok (.iconst 0, 1) := by decide +kernel
theorem dX6_sumOfWeights_1 : decode cX6_sumOfWeights 1 = .ok (.istore_n 2, 1) := by decide +kernel
theorem dX6_sumOfWeights_2 : decode cX6_sumOfWeights 2 = .ok (.iconst 0, 1) := by decide +kernel
theorem dX6_sumOfWeights_3 : decode cX6_sumOfWeights 3 = .ok (.istore_n 3, 1) := by decide +kernel
theorem dX6_sumOfWeights_4 : decode cX6_sumOfWeights 4 = .ok (.iload_n 3, 1) := by decide +kernel
theorem dX6_sumOfWeights_5 : decode cX6_sumOfWeights 5 = .ok (.iconst 3, 1) := by decide +kernel
theorem dX6_sumOfWeights_6 : decode cX6_sumOfWeights 6 = .ok (.if_icmp .ge 34, 3) := by decide +kernel
theorem dX6_sumOfWeights_9 : decode cX6_sumOfWeights 9 = .ok (.iload_n 2, 1) := by decide +kernel
theorem dX6_sumOfWeights_10 : decode cX6_sumOfWeights 10 = .ok (.iload_n 1, 1) := by decide +kernel
theorem dX6_sumOfWeights_11 : decode cX6_sumOfWeights 11 = .ok (.iconst 3, 1) := by decide +kernel
theorem dX6_sumOfWeights_12 : decode cX6_sumOfWeights 12 = .ok (.if_icmp .ge 14, 3) := by decide +kernel
theorem dX6_sumOfWeights_15 : decode cX6_sumOfWeights 15 = .ok (.aload_n 0, 1) := by decide +kernel
theorem dX6_sumOfWeights_16 : decode cX6_sumOfWeights 16 = .ok (.iload_n 1, 1) := by decide +kernel
theorem dX6_sumOfWeights_17 : decode cX6_sumOfWeights 17 = .ok (.iconst 3, 1) := by decide +kernel
theorem dX6_sumOfWeights_18 : decode cX6_sumOfWeights 18 = .ok (.iload_n 3, 1) := by decide +kernel
theorem dX6_sumOfWeights_19 : decode cX6_sumOfWeights 19 = .ok (.iadd, 1) := by decide +kernel
theorem dX6_sumOfWeights_20 : decode cX6_sumOfWeights 20 = .ok (.invokevirtual 85, 3) := by decide +kernel
theorem dX6_sumOfWeights_23 : decode cX6_sumOfWeights 23 = .ok (.goto 9, 3) := by decide +kernel
theorem dX6_sumOfWeights_26 : decode cX6_sumOfWeights 26 = .ok (.aload_n 0, 1) := by decide +kernel
theorem dX6_sumOfWeights_27 : decode cX6_sumOfWeights 27 = .ok (.iload_n 3, 1) := by decide +kernel
theorem dX6_sumOfWeights_28 : decode cX6_sumOfWeights 28 = .ok (.iload_n 1, 1) := by decide +kernel
theorem dX6_sumOfWeights_29 : decode cX6_sumOfWeights 29 = .ok (.invokevirtual 85, 3) := by decide +kernel
theorem dX6_sumOfWeights_32 : decode cX6_sumOfWeights 32 = .ok (.iadd, 1) := by decide +kernel
theorem dX6_sumOfWeights_33 : decode cX6_sumOfWeights 33 = .ok (.istore_n 2, 1) := by decide +kernel
theorem dX6_sumOfWeights_34 : decode cX6_sumOfWeights 34 = .ok (.iinc 3 1, 3) := by decide +kernel
theorem dX6_sumOfWeights_37 : decode cX6_sumOfWeights 37 = .ok (.goto (-33), 3) := by decide +kernel
theorem dX6_sumOfWeights_40 : decode cX6_sumOfWeights 40 = .ok (.iload_n 2, 1) := by decide +kernel
theorem dX6_sumOfWeights_41 : decode cX6_sumOfWeights 41 = .ok (.ireturn, 1) := by decide +kernel
set_option maxRecDepth 20000 in
theorem ggX6_wantedOf_X6_joins : GoodIn wsX6_wantedOf wsX6_joins := goodIn_r _ [6, 7, 8, 9, 5, 10, 1, 11, 12, 13, 14, 22, 23, 24, 25, 26, 27, 28, 29, 30, 31, 32, 33, 34, 35, 36, 37, 38] (by decide +kernel) (by decide +kernel)
set_option maxRecDepth 20000 in
theorem gX6_wantedOf_X6_joins : GoodIn wsX6_wantedOf (wsV RX6 85 RX6 yX6_joins wsX6_joins) := goodIn_app (goodIn_of _ (by decide +kernel)) ggX6_wantedOf_X6_joins
set_option maxRecDepth 20000 in
theorem ggX6_wantedOf_X6_bare : GoodIn wsX6_wantedOf wsX6_bare := goodIn_r _ [18, 1, 19, 20, 5, 21, 22, 23, 24, 25, 26, 27, 28, 29, 30, 31, 32, 33, 34, 35, 36, 37, 38] (by decide +kernel) (by decide +kernel)
set_option maxRecDepth 20000 in
theorem gX6_wantedOf_X6_bare : GoodIn wsX6_wantedOf (wsV RX6 102 RX6 yX6_bare wsX6_bare) := goodIn_app (goodIn_of _ (by decide +kernel)) ggX6_wantedOf_X6_bare
theorem dX6_wantedOf_0 : decode cX6_wantedOf 0 = .ok (.lconst 0, 1) := by decide +kernel
theorem dX6_wantedOf_1 : decode cX6_wantedOf 1 = .ok (.lstore_n 2, 1) := by decide +kernel
theorem dX6_wantedOf_2 : decode cX6_wantedOf 2 = .ok (.iconst 0, 1) := by decide +kernel
theorem dX6_wantedOf_3 : decode cX6_wantedOf 3 = .ok (.istore 4, 2) := by decide +kernel
theorem dX6_wantedOf_5 : decode cX6_wantedOf 5 = .ok (.iload 4, 2) := by decide +kernel
theorem dX6_wantedOf_7 : decode cX6_wantedOf 7 = .ok (.iconst 3, 1) := by decide +kernel
theorem dX6_wantedOf_8 : decode cX6_wantedOf 8 = .ok (.if_icmp .ge 81, 3) := by decide +kernel
theorem dX6_wantedOf_11 : decode cX6_wantedOf 11 = .ok (.iload_n 1, 1) := by decide +kernel
theorem dX6_wantedOf_12 : decode cX6_wantedOf 12 = .ok (.iconst 3, 1) := by decide +kernel
theorem dX6_wantedOf_13 : decode cX6_wantedOf 13 = .ok (.if_icmp .ge 7, 3) := by decide +kernel
theorem dX6_wantedOf_16 : decode cX6_wantedOf 16 = .ok (.iload_n 1, 1) := by decide +kernel
theorem dX6_wantedOf_17 : decode cX6_wantedOf 17 = .ok (.goto 5, 3) := by decide +kernel
theorem dX6_wantedOf_20 : decode cX6_wantedOf 20 = .ok (.iload 4, 2) := by decide +kernel
theorem dX6_wantedOf_22 : decode cX6_wantedOf 22 = .ok (.istore 5, 2) := by decide +kernel
theorem dX6_wantedOf_24 : decode cX6_wantedOf 24 = .ok (.iload_n 1, 1) := by decide +kernel
theorem dX6_wantedOf_25 : decode cX6_wantedOf 25 = .ok (.iconst 3, 1) := by decide +kernel
theorem dX6_wantedOf_26 : decode cX6_wantedOf 26 = .ok (.if_icmp .ge 10, 3) := by decide +kernel
theorem dX6_wantedOf_29 : decode cX6_wantedOf 29 = .ok (.iconst 3, 1) := by decide +kernel
theorem dX6_wantedOf_30 : decode cX6_wantedOf 30 = .ok (.iload 4, 2) := by decide +kernel
theorem dX6_wantedOf_32 : decode cX6_wantedOf 32 = .ok (.iadd, 1) := by decide +kernel
theorem dX6_wantedOf_33 : decode cX6_wantedOf 33 = .ok (.goto 4, 3) := by decide +kernel
theorem dX6_wantedOf_36 : decode cX6_wantedOf 36 = .ok (.iload_n 1, 1) := by decide +kernel
theorem dX6_wantedOf_37 : decode cX6_wantedOf 37 = .ok (.istore 6, 2) := by decide +kernel
theorem dX6_wantedOf_39 : decode cX6_wantedOf 39 = .ok (.aload_n 0, 1) := by decide +kernel
theorem dX6_wantedOf_40 : decode cX6_wantedOf 40 = .ok (.iload 5, 2) := by decide +kernel
theorem dX6_wantedOf_42 : decode cX6_wantedOf 42 = .ok (.iload 6, 2) := by decide +kernel
theorem dX6_wantedOf_44 : decode cX6_wantedOf 44 = .ok (.invokevirtual 85, 3) := by decide +kernel
theorem dX6_wantedOf_47 : decode cX6_wantedOf 47 = .ok (.istore 7, 2) := by decide +kernel
theorem dX6_wantedOf_49 : decode cX6_wantedOf 49 = .ok (.lload_n 2, 1) := by decide +kernel
theorem dX6_wantedOf_50 : decode cX6_wantedOf 50 = .ok (.iload 7, 2) := by decide +kernel
theorem dX6_wantedOf_52 : decode cX6_wantedOf 52 = .ok (.ifCond .le 28, 3) := by decide +kernel
theorem dX6_wantedOf_55 : decode cX6_wantedOf 55 = .ok (.iload 7, 2) := by decide +kernel
theorem dX6_wantedOf_57 : decode cX6_wantedOf 57 = .ok (.aload_n 0, 1) := by decide +kernel
theorem dX6_wantedOf_58 : decode cX6_wantedOf 58 = .ok (.getfield 7, 3) := by decide +kernel
theorem dX6_wantedOf_61 : decode cX6_wantedOf 61 = .ok (.bipush 62, 2) := by decide +kernel
theorem dX6_wantedOf_63 : decode cX6_wantedOf 63 = .ok (.iaload, 1) := by decide +kernel
theorem dX6_wantedOf_64 : decode cX6_wantedOf 64 = .ok (.aload_n 0, 1) := by decide +kernel
theorem dX6_wantedOf_65 : decode cX6_wantedOf 65 = .ok (.iload 5, 2) := by decide +kernel
theorem dX6_wantedOf_67 : decode cX6_wantedOf 67 = .ok (.iload 6, 2) := by decide +kernel
theorem dX6_wantedOf_69 : decode cX6_wantedOf 69 = .ok (.iconst 3, 1) := by decide +kernel
theorem dX6_wantedOf_70 : decode cX6_wantedOf 70 = .ok (.isub, 1) := by decide +kernel
theorem dX6_wantedOf_71 : decode cX6_wantedOf 71 = .ok (.invokevirtual 102, 3) := by decide +kernel
theorem dX6_wantedOf_74 : decode cX6_wantedOf 74 = .ok (.isub, 1) := by decide +kernel
theorem dX6_wantedOf_75 : decode cX6_wantedOf 75 = .ok (.imul, 1) := by decide +kernel
theorem dX6_wantedOf_76 : decode cX6_wantedOf 76 = .ok (.i2l, 1) := by decide +kernel
theorem dX6_wantedOf_77 : decode cX6_wantedOf 77 = .ok (.goto 4, 3) := by decide +kernel
theorem dX6_wantedOf_80 : decode cX6_wantedOf 80 = .ok (.lconst 0, 1) := by decide +kernel
theorem dX6_wantedOf_81 : decode cX6_wantedOf 81 = .ok (.ladd, 1) := by decide +kernel
theorem dX6_wantedOf_82 : decode cX6_wantedOf 82 = .ok (.lstore_n 2, 1) := by decide +kernel
theorem dX6_wantedOf_83 : decode cX6_wantedOf 83 = .ok (.iinc 4 1, 3) := by decide +kernel
theorem dX6_wantedOf_86 : decode cX6_wantedOf 86 = .ok (.goto (-81), 3) := by decide +kernel
theorem dX6_wantedOf_89 : decode cX6_wantedOf 89 = .ok (.lload_n 2, 1) := by decide +kernel
theorem dX6_wantedOf_90 : decode cX6_wantedOf 90 = .ok (.lreturn, 1) := by decide +kernel
set_option maxRecDepth 20000 in
theorem ggX6_solve_X6_layOpen : GoodIn wsX6_solve wsX6_layOpen := goodIn_r _ [9, 10, 11, 12, 13, 14, 8, 15, 16, 17, 18, 19, 20, 21, 22, 23, 24, 25, 26, 27, 28, 29, 30, 31, 32, 52, 53, 54, 55, 56, 57, 58, 59, 60, 61, 62, 63, 64, 65, 66, 67, 68] (by decide +kernel) (by decide +kernel)
set_option maxRecDepth 20000 in
theorem gX6_solve_X6_layOpen : GoodIn wsX6_solve (wsV RX6 105 RX6 yX6_layOpen wsX6_layOpen) := goodIn_app (goodIn_of _ (by decide +kernel)) ggX6_solve_X6_layOpen
set_option maxRecDepth 20000 in
theorem ggX6_solve_X6_layEquations : GoodIn wsX6_solve wsX6_layEquations := goodIn_r _ [36, 11, 4, 1, 37, 38, 39, 8, 40, 16, 17, 18, 19, 20, 21, 22, 23, 24, 25, 26, 27, 28, 41, 42, 43, 44, 45, 46, 47, 48, 49, 50, 51, 52, 53, 54, 55, 56, 57, 58, 59, 60, 61, 62, 63, 64, 65, 66, 67, 68] (by decide +kernel) (by decide +kernel)
set_option maxRecDepth 20000 in
theorem gX6_solve_X6_layEquations : GoodIn wsX6_solve (wsV RX6 108 RX6 yX6_layEquations wsX6_layEquations) := goodIn_app (goodIn_of _ (by decide +kernel)) ggX6_solve_X6_layEquations
theorem dX6_solve_0 : decode cX6_solve 0 = .ok (.aload_n 0, 1) := by decide +kernel
theorem dX6_solve_1 : decode cX6_solve 1 = .ok (.invokevirtual 105, 3) := by decide +kernel
theorem dX6_solve_4 : decode cX6_solve 4 = .ok (.aload_n 0, 1) := by decide +kernel
theorem dX6_solve_5 : decode cX6_solve 5 = .ok (.invokevirtual 108, 3) := by decide +kernel
theorem dX6_solve_8 : decode cX6_solve 8 = .ok (.istore_n 1, 1) := by decide +kernel
theorem dX6_solve_9 : decode cX6_solve 9 = .ok (.lconst 1, 1) := by decide +kernel
theorem dX6_solve_10 : decode cX6_solve 10 = .ok (.lstore_n 2, 1) := by decide +kernel
theorem dX6_solve_11 : decode cX6_solve 11 = .ok (.iconst 0, 1) := by decide +kernel
theorem dX6_solve_12 : decode cX6_solve 12 = .ok (.istore 4, 2) := by decide +kernel
theorem dX6_solve_14 : decode cX6_solve 14 = .ok (.iload 4, 2) := by decide +kernel
theorem dX6_solve_16 : decode cX6_solve 16 = .ok (.iload_n 1, 1) := by decide +kernel
theorem dX6_solve_17 : decode cX6_solve 17 = .ok (.if_icmp .ge 125, 3) := by decide +kernel
theorem dX6_solve_20 : decode cX6_solve 20 = .ok (.aload_n 0, 1) := by decide +kernel
theorem dX6_solve_21 : decode cX6_solve 21 = .ok (.getfield 27, 3) := by decide +kernel
theorem dX6_solve_24 : decode cX6_solve 24 = .ok (.bipush 8, 2) := by decide +kernel
theorem dX6_solve_26 : decode cX6_solve 26 = .ok (.iload 4, 2) := by decide +kernel
theorem dX6_solve_28 : decode cX6_solve 28 = .ok (.imul, 1) := by decide +kernel
theorem dX6_solve_29 : decode cX6_solve 29 = .ok (.laload, 1) := by decide +kernel
theorem dX6_solve_30 : decode cX6_solve 30 = .ok (.lstore 5, 2) := by decide +kernel
theorem dX6_solve_32 : decode cX6_solve 32 = .ok (.iconst 0, 1) := by decide +kernel
theorem dX6_solve_33 : decode cX6_solve 33 = .ok (.istore 7, 2) := by decide +kernel
theorem dX6_solve_35 : decode cX6_solve 35 = .ok (.iload 7, 2) := by decide +kernel
theorem dX6_solve_37 : decode cX6_solve 37 = .ok (.iload_n 1, 1) := by decide +kernel
theorem dX6_solve_38 : decode cX6_solve 38 = .ok (.if_icmp .ge 95, 3) := by decide +kernel
theorem dX6_solve_41 : decode cX6_solve 41 = .ok (.aload_n 0, 1) := by decide +kernel
theorem dX6_solve_42 : decode cX6_solve 42 = .ok (.getfield 27, 3) := by decide +kernel
theorem dX6_solve_45 : decode cX6_solve 45 = .ok (.bipush 7, 2) := by decide +kernel
theorem dX6_solve_47 : decode cX6_solve 47 = .ok (.iload 7, 2) := by decide +kernel
theorem dX6_solve_49 : decode cX6_solve 49 = .ok (.imul, 1) := by decide +kernel
theorem dX6_solve_50 : decode cX6_solve 50 = .ok (.iload 4, 2) := by decide +kernel
theorem dX6_solve_52 : decode cX6_solve 52 = .ok (.iadd, 1) := by decide +kernel
theorem dX6_solve_53 : decode cX6_solve 53 = .ok (.laload, 1) := by decide +kernel
theorem dX6_solve_54 : decode cX6_solve 54 = .ok (.lstore 8, 2) := by decide +kernel
theorem dX6_solve_56 : decode cX6_solve 56 = .ok (.iconst 0, 1) := by decide +kernel
theorem dX6_solve_57 : decode cX6_solve 57 = .ok (.istore 10, 2) := by decide +kernel
theorem dX6_solve_59 : decode cX6_solve 59 = .ok (.iload 10, 2) := by decide +kernel
theorem dX6_solve_61 : decode cX6_solve 61 = .ok (.bipush 7, 2) := by decide +kernel
theorem dX6_solve_63 : decode cX6_solve 63 = .ok (.if_icmp .ge 64, 3) := by decide +kernel
theorem dX6_solve_66 : decode cX6_solve 66 = .ok (.iload 7, 2) := by decide +kernel
theorem dX6_solve_68 : decode cX6_solve 68 = .ok (.iload 4, 2) := by decide +kernel
theorem dX6_solve_70 : decode cX6_solve 70 = .ok (.if_icmp .eq 57, 3) := by decide +kernel
theorem dX6_solve_73 : decode cX6_solve 73 = .ok (.aload_n 0, 1) := by decide +kernel
theorem dX6_solve_74 : decode cX6_solve 74 = .ok (.getfield 27, 3) := by decide +kernel
theorem dX6_solve_77 : decode cX6_solve 77 = .ok (.bipush 7, 2) := by decide +kernel
theorem dX6_solve_79 : decode cX6_solve 79 = .ok (.iload 7, 2) := by decide +kernel
theorem dX6_solve_81 : decode cX6_solve 81 = .ok (.imul, 1) := by decide +kernel
theorem dX6_solve_82 : decode cX6_solve 82 = .ok (.iload 10, 2) := by decide +kernel
theorem dX6_solve_84 : decode cX6_solve 84 = .ok (.iadd, 1) := by decide +kernel
theorem dX6_solve_85 : decode cX6_solve 85 = .ok (.aload_n 0, 1) := by decide +kernel
theorem dX6_solve_86 : decode cX6_solve 86 = .ok (.getfield 27, 3) := by decide +kernel
theorem dX6_solve_89 : decode cX6_solve 89 = .ok (.bipush 7, 2) := by decide +kernel
theorem dX6_solve_91 : decode cX6_solve 91 = .ok (.iload 7, 2) := by decide +kernel
theorem dX6_solve_93 : decode cX6_solve 93 = .ok (.imul, 1) := by decide +kernel
theorem dX6_solve_94 : decode cX6_solve 94 = .ok (.iload 10, 2) := by decide +kernel
theorem dX6_solve_96 : decode cX6_solve 96 = .ok (.iadd, 1) := by decide +kernel
theorem dX6_solve_97 : decode cX6_solve 97 = .ok (.laload, 1) := by decide +kernel
theorem dX6_solve_98 : decode cX6_solve 98 = .ok (.lload 5, 2) := by decide +kernel
theorem dX6_solve_100 : decode cX6_solve 100 = .ok (.lmul, 1) := by decide +kernel
theorem dX6_solve_101 : decode cX6_solve 101 = .ok (.lload 8, 2) := by decide +kernel
theorem dX6_solve_103 : decode cX6_solve 103 = .ok (.aload_n 0, 1) := by decide +kernel
theorem dX6_solve_104 : decode cX6_solve 104 = .ok (.getfield 27, 3) := by decide +kernel
theorem dX6_solve_107 : decode cX6_solve 107 = .ok (.bipush 7, 2) := by decide +kernel
theorem dX6_solve_109 : decode cX6_solve 109 = .ok (.iload 4, 2) := by decide +kernel
theorem dX6_solve_111 : decode cX6_solve 111 = .ok (.imul, 1) := by decide +kernel
theorem dX6_solve_112 : decode cX6_solve 112 = .ok (.iload 10, 2) := by decide +kernel
theorem dX6_solve_114 : decode cX6_solve 114 = .ok (.iadd, 1) := by decide +kernel
theorem dX6_solve_115 : decode cX6_solve 115 = .ok (.laload, 1) := by decide +kernel
theorem dX6_solve_116 : decode cX6_solve 116 = .ok (.lmul, 1) := by decide +kernel
theorem dX6_solve_117 : decode cX6_solve 117 = .ok (.lsub, 1) := by decide +kernel
theorem dX6_solve_118 : decode cX6_solve 118 = .ok (.lload_n 2, 1) := by decide +kernel
theorem dX6_solve_119 : decode cX6_solve 119 = .ok (.ldiv, 1) := by decide +kernel
theorem dX6_solve_120 : decode cX6_solve 120 = .ok (.lastore, 1) := by decide +kernel
theorem dX6_solve_121 : decode cX6_solve 121 = .ok (.iinc 10 1, 3) := by decide +kernel
theorem dX6_solve_124 : decode cX6_solve 124 = .ok (.goto (-65), 3) := by decide +kernel
theorem dX6_solve_127 : decode cX6_solve 127 = .ok (.iinc 7 1, 3) := by decide +kernel
theorem dX6_solve_130 : decode cX6_solve 130 = .ok (.goto (-95), 3) := by decide +kernel
theorem dX6_solve_133 : decode cX6_solve 133 = .ok (.lload 5, 2) := by decide +kernel
theorem dX6_solve_135 : decode cX6_solve 135 = .ok (.lstore_n 2, 1) := by decide +kernel
theorem dX6_solve_136 : decode cX6_solve 136 = .ok (.iinc 4 1, 3) := by decide +kernel
theorem dX6_solve_139 : decode cX6_solve 139 = .ok (.goto (-125), 3) := by decide +kernel
theorem dX6_solve_142 : decode cX6_solve 142 = .ok (.aload_n 0, 1) := by decide +kernel
theorem dX6_solve_143 : decode cX6_solve 143 = .ok (.lload_n 2, 1) := by decide +kernel
theorem dX6_solve_144 : decode cX6_solve 144 = .ok (.putfield 112, 3) := by decide +kernel
theorem dX6_solve_147 : decode cX6_solve 147 = .ok (.iconst 0, 1) := by decide +kernel
theorem dX6_solve_148 : decode cX6_solve 148 = .ok (.istore 4, 2) := by decide +kernel
theorem dX6_solve_150 : decode cX6_solve 150 = .ok (.iload 4, 2) := by decide +kernel
theorem dX6_solve_152 : decode cX6_solve 152 = .ok (.bipush 6, 2) := by decide +kernel
theorem dX6_solve_154 : decode cX6_solve 154 = .ok (.if_icmp .ge 17, 3) := by decide +kernel
theorem dX6_solve_157 : decode cX6_solve 157 = .ok (.aload_n 0, 1) := by decide +kernel
theorem dX6_solve_158 : decode cX6_solve 158 = .ok (.getfield 20, 3) := by decide +kernel
theorem dX6_solve_161 : decode cX6_solve 161 = .ok (.iload 4, 2) := by decide +kernel
theorem dX6_solve_163 : decode cX6_solve 163 = .ok (.lconst 0, 1) := by decide +kernel
theorem dX6_solve_164 : decode cX6_solve 164 = .ok (.lastore, 1) := by decide +kernel
theorem dX6_solve_165 : decode cX6_solve 165 = .ok (.iinc 4 1, 3) := by decide +kernel
theorem dX6_solve_168 : decode cX6_solve 168 = .ok (.goto (-18), 3) := by decide +kernel
theorem dX6_solve_171 : decode cX6_solve 171 = .ok (.iconst 0, 1) := by decide +kernel
theorem dX6_solve_172 : decode cX6_solve 172 = .ok (.istore 4, 2) := by decide +kernel
theorem dX6_solve_174 : decode cX6_solve 174 = .ok (.iload 4, 2) := by decide +kernel
theorem dX6_solve_176 : decode cX6_solve 176 = .ok (.iload_n 1, 1) := by decide +kernel
theorem dX6_solve_177 : decode cX6_solve 177 = .ok (.if_icmp .ge 34, 3) := by decide +kernel
theorem dX6_solve_180 : decode cX6_solve 180 = .ok (.aload_n 0, 1) := by decide +kernel
theorem dX6_solve_181 : decode cX6_solve 181 = .ok (.getfield 20, 3) := by decide +kernel
theorem dX6_solve_184 : decode cX6_solve 184 = .ok (.aload_n 0, 1) := by decide +kernel
theorem dX6_solve_185 : decode cX6_solve 185 = .ok (.getfield 30, 3) := by decide +kernel
theorem dX6_solve_188 : decode cX6_solve 188 = .ok (.iload 4, 2) := by decide +kernel
theorem dX6_solve_190 : decode cX6_solve 190 = .ok (.iaload, 1) := by decide +kernel
theorem dX6_solve_191 : decode cX6_solve 191 = .ok (.aload_n 0, 1) := by decide +kernel
theorem dX6_solve_192 : decode cX6_solve 192 = .ok (.getfield 27, 3) := by decide +kernel
theorem dX6_solve_195 : decode cX6_solve 195 = .ok (.bipush 7, 2) := by decide +kernel
theorem dX6_solve_197 : decode cX6_solve 197 = .ok (.iload 4, 2) := by decide +kernel
theorem dX6_solve_199 : decode cX6_solve 199 = .ok (.imul, 1) := by decide +kernel
theorem dX6_solve_200 : decode cX6_solve 200 = .ok (.bipush 6, 2) := by decide +kernel
theorem dX6_solve_202 : decode cX6_solve 202 = .ok (.iadd, 1) := by decide +kernel
theorem dX6_solve_203 : decode cX6_solve 203 = .ok (.laload, 1) := by decide +kernel
theorem dX6_solve_204 : decode cX6_solve 204 = .ok (.lastore, 1) := by decide +kernel
theorem dX6_solve_205 : decode cX6_solve 205 = .ok (.iinc 4 1, 3) := by decide +kernel
theorem dX6_solve_208 : decode cX6_solve 208 = .ok (.goto (-34), 3) := by decide +kernel
theorem dX6_solve_211 : decode cX6_solve 211 = .ok (.return_, 1) := by decide +kernel
set_option maxRecDepth 20000 in
theorem ggX6_whiteOf_X6_bare : GoodIn wsX6_whiteOf wsX6_bare := goodIn_r _ [7, 8, 9, 10, 6, 11, 12, 13, 14, 15, 16, 17, 18, 19, 20, 21, 22, 23, 24, 25, 26, 27, 28] (by decide +kernel) (by decide +kernel)
set_option maxRecDepth 20000 in
theorem gX6_whiteOf_X6_bare : GoodIn wsX6_whiteOf (wsV RX6 102 RX6 yX6_bare wsX6_bare) := goodIn_app (goodIn_of _ (by decide +kernel)) ggX6_whiteOf_X6_bare
theorem dX6_whiteOf_0 : decode cX6_whiteOf 0 = .ok (.aload_n 0, 1) := by decide +kernel
theorem dX6_whiteOf_1 : decode cX6_whiteOf 1 = .ok (.iload_n 1, 1) := by decide +kernel
theorem dX6_whiteOf_2 : decode cX6_whiteOf 2 = .ok (.iload_n 2, 1) := by decide +kernel
theorem dX6_whiteOf_3 : decode cX6_whiteOf 3 = .ok (.invokevirtual 102, 3) := by decide +kernel
theorem dX6_whiteOf_6 : decode cX6_whiteOf 6 = .ok (.i2l, 1) := by decide +kernel
theorem dX6_whiteOf_7 : decode cX6_whiteOf 7 = .ok (.aload_n 0, 1) := by decide +kernel
theorem dX6_whiteOf_8 : decode cX6_whiteOf 8 = .ok (.getfield 112, 3) := by decide +kernel
theorem dX6_whiteOf_11 : decode cX6_whiteOf 11 = .ok (.lmul, 1) := by decide +kernel
theorem dX6_whiteOf_12 : decode cX6_whiteOf 12 = .ok (.aload_n 0, 1) := by decide +kernel
theorem dX6_whiteOf_13 : decode cX6_whiteOf 13 = .ok (.getfield 20, 3) := by decide +kernel
theorem dX6_whiteOf_16 : decode cX6_whiteOf 16 = .ok (.iload_n 1, 1) := by decide +kernel
theorem dX6_whiteOf_17 : decode cX6_whiteOf 17 = .ok (.laload, 1) := by decide +kernel
theorem dX6_whiteOf_18 : decode cX6_whiteOf 18 = .ok (.ladd, 1) := by decide +kernel
theorem dX6_whiteOf_19 : decode cX6_whiteOf 19 = .ok (.aload_n 0, 1) := by decide +kernel
theorem dX6_whiteOf_20 : decode cX6_whiteOf 20 = .ok (.getfield 20, 3) := by decide +kernel
theorem dX6_whiteOf_23 : decode cX6_whiteOf 23 = .ok (.iconst 3, 1) := by decide +kernel
theorem dX6_whiteOf_24 : decode cX6_whiteOf 24 = .ok (.iload_n 2, 1) := by decide +kernel
theorem dX6_whiteOf_25 : decode cX6_whiteOf 25 = .ok (.iadd, 1) := by decide +kernel
theorem dX6_whiteOf_26 : decode cX6_whiteOf 26 = .ok (.laload, 1) := by decide +kernel
theorem dX6_whiteOf_27 : decode cX6_whiteOf 27 = .ok (.ladd, 1) := by decide +kernel
theorem dX6_whiteOf_28 : decode cX6_whiteOf 28 = .ok (.lreturn, 1) := by decide +kernel
set_option maxRecDepth 20000 in
theorem ggX6_overOf_X6_whiteOf : GoodIn wsX6_overOf wsX6_whiteOf := goodIn_r _ [7, 2, 8, 9, 10, 11, 6, 12, 1, 13, 14, 15, 16, 17, 18, 19, 20, 21, 22, 23, 24, 25, 26, 27, 28, 29, 30, 31, 32] (by decide +kernel) (by decide +kernel)
set_option maxRecDepth 20000 in
theorem gX6_overOf_X6_whiteOf : GoodIn wsX6_overOf (wsV RX6 116 RX6 yX6_whiteOf wsX6_whiteOf) := goodIn_app (goodIn_of _ (by decide +kernel)) ggX6_overOf_X6_whiteOf
theorem dX6_overOf_0 : decode cX6_overOf 0 = .ok (.aload_n 0, 1) := by decide +kernel
theorem dX6_overOf_1 : decode cX6_overOf 1 = .ok (.iload_n 1, 1) := by decide +kernel
theorem dX6_overOf_2 : decode cX6_overOf 2 = .ok (.iload_n 2, 1) := by decide +kernel
theorem dX6_overOf_3 : decode cX6_overOf 3 = .ok (.invokevirtual 116, 3) := by decide +kernel
theorem dX6_overOf_6 : decode cX6_overOf 6 = .ok (.aload_n 0, 1) := by decide +kernel
theorem dX6_overOf_7 : decode cX6_overOf 7 = .ok (.getfield 7, 3) := by decide +kernel
theorem dX6_overOf_10 : decode cX6_overOf 10 = .ok (.bipush 62, 2) := by decide +kernel
theorem dX6_overOf_12 : decode cX6_overOf 12 = .ok (.iaload, 1) := by decide +kernel
theorem dX6_overOf_13 : decode cX6_overOf 13 = .ok (.i2l, 1) := by decide +kernel
theorem dX6_overOf_14 : decode cX6_overOf 14 = .ok (.aload_n 0, 1) := by decide +kernel
theorem dX6_overOf_15 : decode cX6_overOf 15 = .ok (.getfield 112, 3) := by decide +kernel
theorem dX6_overOf_18 : decode cX6_overOf 18 = .ok (.lmul, 1) := by decide +kernel
theorem dX6_overOf_19 : decode cX6_overOf 19 = .ok (.lsub, 1) := by decide +kernel
theorem dX6_overOf_20 : decode cX6_overOf 20 = .ok (.lreturn, 1) := by decide +kernel
set_option maxRecDepth 20000 in
theorem ggX6_squares_X6_joins : GoodIn wsX6_squares wsX6_joins := goodIn_r _ [5, 6, 7, 8, 4, 9, 10, 11, 12, 13, 14, 32, 33, 34, 35, 36, 37, 38, 39, 40, 41, 42, 43, 44, 45, 46, 47, 48] (by decide +kernel) (by decide +kernel)
set_option maxRecDepth 20000 in
theorem gX6_squares_X6_joins : GoodIn wsX6_squares (wsV RX6 85 RX6 yX6_joins wsX6_joins) := goodIn_app (goodIn_of _ (by decide +kernel)) ggX6_squares_X6_joins
set_option maxRecDepth 20000 in
theorem ggX6_squares_X6_overOf : GoodIn wsX6_squares wsX6_overOf := goodIn_r _ [18, 10, 19, 20, 21, 22, 4, 23, 24, 25, 26, 27, 28, 29, 30, 31, 32, 33, 34, 35, 36, 37, 38, 39, 40, 41, 42, 43, 44, 45, 46, 47, 48] (by decide +kernel) (by decide +kernel)
set_option maxRecDepth 20000 in
theorem gX6_squares_X6_overOf : GoodIn wsX6_squares (wsV RX6 120 RX6 yX6_overOf wsX6_overOf) := goodIn_app (goodIn_of _ (by decide +kernel)) ggX6_squares_X6_overOf
theorem dX6_squares_0 : decode cX6_squares 0 = .ok (.lconst 0, 1) := by decide +kernel
theorem dX6_squares_1 : decode cX6_squares 1 = .ok (.lstore_n 1, 1) := by decide +kernel
theorem dX6_squares_2 : decode cX6_squares 2 = .ok (.iconst 0, 1) := by decide +kernel
theorem dX6_squares_3 : decode cX6_squares 3 = .ok (.istore_n 3, 1) := by decide +kernel
theorem dX6_squares_4 : decode cX6_squares 4 = .ok (.iload_n 3, 1) := by decide +kernel
theorem dX6_squares_5 : decode cX6_squares 5 = .ok (.bipush 9, 2) := by decide +kernel
theorem dX6_squares_7 : decode cX6_squares 7 = .ok (.if_icmp .ge 56, 3) := by decide +kernel
theorem dX6_squares_10 : decode cX6_squares 10 = .ok (.aload_n 0, 1) := by decide +kernel
theorem dX6_squares_11 : decode cX6_squares 11 = .ok (.iload_n 3, 1) := by decide +kernel
theorem dX6_squares_12 : decode cX6_squares 12 = .ok (.iconst 3, 1) := by decide +kernel
theorem dX6_squares_13 : decode cX6_squares 13 = .ok (.idiv, 1) := by decide +kernel
theorem dX6_squares_14 : decode cX6_squares 14 = .ok (.iconst 3, 1) := by decide +kernel
theorem dX6_squares_15 : decode cX6_squares 15 = .ok (.iload_n 3, 1) := by decide +kernel
theorem dX6_squares_16 : decode cX6_squares 16 = .ok (.iconst 3, 1) := by decide +kernel
theorem dX6_squares_17 : decode cX6_squares 17 = .ok (.irem, 1) := by decide +kernel
theorem dX6_squares_18 : decode cX6_squares 18 = .ok (.iadd, 1) := by decide +kernel
theorem dX6_squares_19 : decode cX6_squares 19 = .ok (.invokevirtual 85, 3) := by decide +kernel
theorem dX6_squares_22 : decode cX6_squares 22 = .ok (.istore 4, 2) := by decide +kernel
theorem dX6_squares_24 : decode cX6_squares 24 = .ok (.iload 4, 2) := by decide +kernel
theorem dX6_squares_26 : decode cX6_squares 26 = .ok (.ifCond .le 16, 3) := by decide +kernel
theorem dX6_squares_29 : decode cX6_squares 29 = .ok (.aload_n 0, 1) := by decide +kernel
theorem dX6_squares_30 : decode cX6_squares 30 = .ok (.iload_n 3, 1) := by decide +kernel
theorem dX6_squares_31 : decode cX6_squares 31 = .ok (.iconst 3, 1) := by decide +kernel
theorem dX6_squares_32 : decode cX6_squares 32 = .ok (.idiv, 1) := by decide +kernel
theorem dX6_squares_33 : decode cX6_squares 33 = .ok (.iload_n 3, 1) := by decide +kernel
theorem dX6_squares_34 : decode cX6_squares 34 = .ok (.iconst 3, 1) := by decide +kernel
theorem dX6_squares_35 : decode cX6_squares 35 = .ok (.irem, 1) := by decide +kernel
theorem dX6_squares_36 : decode cX6_squares 36 = .ok (.invokevirtual 120, 3) := by decide +kernel
theorem dX6_squares_39 : decode cX6_squares 39 = .ok (.goto 4, 3) := by decide +kernel
theorem dX6_squares_42 : decode cX6_squares 42 = .ok (.lconst 0, 1) := by decide +kernel
theorem dX6_squares_43 : decode cX6_squares 43 = .ok (.lstore 5, 2) := by decide +kernel
theorem dX6_squares_45 : decode cX6_squares 45 = .ok (.lload_n 1, 1) := by decide +kernel
theorem dX6_squares_46 : decode cX6_squares 46 = .ok (.iload 4, 2) := by decide +kernel
theorem dX6_squares_48 : decode cX6_squares 48 = .ok (.i2l, 1) := by decide +kernel
theorem dX6_squares_49 : decode cX6_squares 49 = .ok (.lload 5, 2) := by decide +kernel
theorem dX6_squares_51 : decode cX6_squares 51 = .ok (.lmul, 1) := by decide +kernel
theorem dX6_squares_52 : decode cX6_squares 52 = .ok (.lload 5, 2) := by decide +kernel
theorem dX6_squares_54 : decode cX6_squares 54 = .ok (.lmul, 1) := by decide +kernel
theorem dX6_squares_55 : decode cX6_squares 55 = .ok (.ladd, 1) := by decide +kernel
theorem dX6_squares_56 : decode cX6_squares 56 = .ok (.lstore_n 1, 1) := by decide +kernel
theorem dX6_squares_57 : decode cX6_squares 57 = .ok (.iinc 3 1, 3) := by decide +kernel
theorem dX6_squares_60 : decode cX6_squares 60 = .ok (.goto (-56), 3) := by decide +kernel
theorem dX6_squares_63 : decode cX6_squares 63 = .ok (.lload_n 1, 1) := by decide +kernel
theorem dX6_squares_64 : decode cX6_squares 64 = .ok (.lreturn, 1) := by decide +kernel
set_option maxRecDepth 20000 in
theorem ggX6_worst_X6_joins : GoodIn wsX6_worst wsX6_joins := goodIn_r _ [6, 7, 8, 9, 5, 10, 11, 12, 13, 14, 15, 33, 34, 35, 36, 37, 38, 39, 40, 41, 42, 43, 44, 45, 46, 47, 48, 49] (by decide +kernel) (by decide +kernel)
set_option maxRecDepth 20000 in
theorem gX6_worst_X6_joins : GoodIn wsX6_worst (wsV RX6 85 RX6 yX6_joins wsX6_joins) := goodIn_app (goodIn_of _ (by decide +kernel)) ggX6_worst_X6_joins
set_option maxRecDepth 20000 in
theorem ggX6_worst_X6_overOf : GoodIn wsX6_worst wsX6_overOf := goodIn_r _ [19, 11, 20, 21, 22, 23, 5, 24, 25, 26, 27, 28, 29, 30, 31, 32, 33, 34, 35, 36, 37, 38, 39, 40, 41, 42, 43, 44, 45, 46, 47, 48, 49] (by decide +kernel) (by decide +kernel)
set_option maxRecDepth 20000 in
theorem gX6_worst_X6_overOf : GoodIn wsX6_worst (wsV RX6 120 RX6 yX6_overOf wsX6_overOf) := goodIn_app (goodIn_of _ (by decide +kernel)) ggX6_worst_X6_overOf
theorem dX6_worst_0 : decode cX6_worst 0 = .ok (.iconst (-1), 1) := by decide +kernel
theorem dX6_worst_1 : decode cX6_worst 1 = .ok (.istore_n 1, 1) := by decide +kernel
theorem dX6_worst_2 : decode cX6_worst 2 = .ok (.ldc2_w 123, 3) := by decide +kernel
theorem dX6_worst_5 : decode cX6_worst 5 = .ok (.lstore_n 2, 1) := by decide +kernel
theorem dX6_worst_6 : decode cX6_worst 6 = .ok (.iconst 0, 1) := by decide +kernel
theorem dX6_worst_7 : decode cX6_worst 7 = .ok (.istore 4, 2) := by decide +kernel
theorem dX6_worst_9 : decode cX6_worst 9 = .ok (.iload 4, 2) := by decide +kernel
theorem dX6_worst_11 : decode cX6_worst 11 = .ok (.bipush 9, 2) := by decide +kernel
theorem dX6_worst_13 : decode cX6_worst 13 = .ok (.if_icmp .ge 118, 3) := by decide +kernel
theorem dX6_worst_16 : decode cX6_worst 16 = .ok (.aload_n 0, 1) := by decide +kernel
theorem dX6_worst_17 : decode cX6_worst 17 = .ok (.iload 4, 2) := by decide +kernel
theorem dX6_worst_19 : decode cX6_worst 19 = .ok (.iconst 3, 1) := by decide +kernel
theorem dX6_worst_20 : decode cX6_worst 20 = .ok (.idiv, 1) := by decide +kernel
theorem dX6_worst_21 : decode cX6_worst 21 = .ok (.iconst 3, 1) := by decide +kernel
theorem dX6_worst_22 : decode cX6_worst 22 = .ok (.iload 4, 2) := by decide +kernel
theorem dX6_worst_24 : decode cX6_worst 24 = .ok (.iconst 3, 1) := by decide +kernel
theorem dX6_worst_25 : decode cX6_worst 25 = .ok (.irem, 1) := by decide +kernel
theorem dX6_worst_26 : decode cX6_worst 26 = .ok (.iadd, 1) := by decide +kernel
theorem dX6_worst_27 : decode cX6_worst 27 = .ok (.invokevirtual 85, 3) := by decide +kernel
theorem dX6_worst_30 : decode cX6_worst 30 = .ok (.ifCond .le 7, 3) := by decide +kernel
theorem dX6_worst_33 : decode cX6_worst 33 = .ok (.iconst 1, 1) := by decide +kernel
theorem dX6_worst_34 : decode cX6_worst 34 = .ok (.goto 4, 3) := by decide +kernel
theorem dX6_worst_37 : decode cX6_worst 37 = .ok (.iconst 0, 1) := by decide +kernel
theorem dX6_worst_38 : decode cX6_worst 38 = .ok (.istore 5, 2) := by decide +kernel
theorem dX6_worst_40 : decode cX6_worst 40 = .ok (.iload 5, 2) := by decide +kernel
theorem dX6_worst_42 : decode cX6_worst 42 = .ok (.ifCond .eq 18, 3) := by decide +kernel
theorem dX6_worst_45 : decode cX6_worst 45 = .ok (.aload_n 0, 1) := by decide +kernel
theorem dX6_worst_46 : decode cX6_worst 46 = .ok (.iload 4, 2) := by decide +kernel
theorem dX6_worst_48 : decode cX6_worst 48 = .ok (.iconst 3, 1) := by decide +kernel
theorem dX6_worst_49 : decode cX6_worst 49 = .ok (.idiv, 1) := by decide +kernel
theorem dX6_worst_50 : decode cX6_worst 50 = .ok (.iload 4, 2) := by decide +kernel
theorem dX6_worst_52 : decode cX6_worst 52 = .ok (.iconst 3, 1) := by decide +kernel
theorem dX6_worst_53 : decode cX6_worst 53 = .ok (.irem, 1) := by decide +kernel
theorem dX6_worst_54 : decode cX6_worst 54 = .ok (.invokevirtual 120, 3) := by decide +kernel
theorem dX6_worst_57 : decode cX6_worst 57 = .ok (.goto 6, 3) := by decide +kernel
theorem dX6_worst_60 : decode cX6_worst 60 = .ok (.ldc2_w 123, 3) := by decide +kernel
theorem dX6_worst_63 : decode cX6_worst 63 = .ok (.lstore 6, 2) := by decide +kernel
theorem dX6_worst_65 : decode cX6_worst 65 = .ok (.iload 5, 2) := by decide +kernel
theorem dX6_worst_67 : decode cX6_worst 67 = .ok (.ifCond .eq 16, 3) := by decide +kernel
theorem dX6_worst_70 : decode cX6_worst 70 = .ok (.lload 6, 2) := by decide +kernel
theorem dX6_worst_72 : decode cX6_worst 72 = .ok (.lconst 0, 1) := by decide +kernel
theorem dX6_worst_73 : decode cX6_worst 73 = .ok (.lcmp, 1) := by decide +kernel
theorem dX6_worst_74 : decode cX6_worst 74 = .ok (.ifCond .ge 9, 3) := by decide +kernel
theorem dX6_worst_77 : decode cX6_worst 77 = .ok (.lload 6, 2) := by decide +kernel
theorem dX6_worst_79 : decode cX6_worst 79 = .ok (.lneg, 1) := by decide +kernel
theorem dX6_worst_80 : decode cX6_worst 80 = .ok (.goto 5, 3) := by decide +kernel
theorem dX6_worst_83 : decode cX6_worst 83 = .ok (.lload 6, 2) := by decide +kernel
theorem dX6_worst_85 : decode cX6_worst 85 = .ok (.lstore 6, 2) := by decide +kernel
theorem dX6_worst_87 : decode cX6_worst 87 = .ok (.lload 6, 2) := by decide +kernel
theorem dX6_worst_89 : decode cX6_worst 89 = .ok (.lload_n 2, 1) := by decide +kernel
theorem dX6_worst_90 : decode cX6_worst 90 = .ok (.lcmp, 1) := by decide +kernel
theorem dX6_worst_91 : decode cX6_worst 91 = .ok (.ifCond .le 18, 3) := by decide +kernel
theorem dX6_worst_94 : decode cX6_worst 94 = .ok (.bipush 10, 2) := by decide +kernel
theorem dX6_worst_96 : decode cX6_worst 96 = .ok (.iload 4, 2) := by decide +kernel
theorem dX6_worst_98 : decode cX6_worst 98 = .ok (.iconst 3, 1) := by decide +kernel
theorem dX6_worst_99 : decode cX6_worst 99 = .ok (.idiv, 1) := by decide +kernel
theorem dX6_worst_100 : decode cX6_worst 100 = .ok (.imul, 1) := by decide +kernel
theorem dX6_worst_101 : decode cX6_worst 101 = .ok (.iload 4, 2) := by decide +kernel
theorem dX6_worst_103 : decode cX6_worst 103 = .ok (.iconst 3, 1) := by decide +kernel
theorem dX6_worst_104 : decode cX6_worst 104 = .ok (.irem, 1) := by decide +kernel
theorem dX6_worst_105 : decode cX6_worst 105 = .ok (.iadd, 1) := by decide +kernel
theorem dX6_worst_106 : decode cX6_worst 106 = .ok (.goto 4, 3) := by decide +kernel
theorem dX6_worst_109 : decode cX6_worst 109 = .ok (.iload_n 1, 1) := by decide +kernel
theorem dX6_worst_110 : decode cX6_worst 110 = .ok (.istore_n 1, 1) := by decide +kernel
theorem dX6_worst_111 : decode cX6_worst 111 = .ok (.lload 6, 2) := by decide +kernel
theorem dX6_worst_113 : decode cX6_worst 113 = .ok (.lload_n 2, 1) := by decide +kernel
theorem dX6_worst_114 : decode cX6_worst 114 = .ok (.lcmp, 1) := by decide +kernel
theorem dX6_worst_115 : decode cX6_worst 115 = .ok (.ifCond .le 8, 3) := by decide +kernel
theorem dX6_worst_118 : decode cX6_worst 118 = .ok (.lload 6, 2) := by decide +kernel
theorem dX6_worst_120 : decode cX6_worst 120 = .ok (.goto 4, 3) := by decide +kernel
theorem dX6_worst_123 : decode cX6_worst 123 = .ok (.lload_n 2, 1) := by decide +kernel
theorem dX6_worst_124 : decode cX6_worst 124 = .ok (.lstore_n 2, 1) := by decide +kernel
theorem dX6_worst_125 : decode cX6_worst 125 = .ok (.iinc 4 1, 3) := by decide +kernel
theorem dX6_worst_128 : decode cX6_worst 128 = .ok (.goto (-119), 3) := by decide +kernel
theorem dX6_worst_131 : decode cX6_worst 131 = .ok (.iload_n 1, 1) := by decide +kernel
theorem dX6_worst_132 : decode cX6_worst 132 = .ok (.ireturn, 1) := by decide +kernel
set_option maxRecDepth 20000 in
theorem ggX6_weighted_X6_joins : GoodIn wsX6_weighted wsX6_joins := goodIn_r _ [5, 6, 7, 8, 4, 9, 10, 11, 12, 13, 14, 15, 16, 17, 18, 19, 20, 21, 22, 23, 24, 25, 26, 27, 28, 29, 30, 31] (by decide +kernel) (by decide +kernel)
set_option maxRecDepth 20000 in
theorem gX6_weighted_X6_joins : GoodIn wsX6_weighted (wsV RX6 85 RX6 yX6_joins wsX6_joins) := goodIn_app (goodIn_of _ (by decide +kernel)) ggX6_weighted_X6_joins
theorem dX6_weighted_0 : decode cX6_weighted 0 = .ok (.iconst 0, 1) := by decide +kernel
theorem dX6_weighted_1 : decode cX6_weighted 1 = .ok (.istore_n 1, 1) := by decide +kernel
theorem dX6_weighted_2 : decode cX6_weighted 2 = .ok (.iconst 0, 1) := by decide +kernel
theorem dX6_weighted_3 : decode cX6_weighted 3 = .ok (.istore_n 2, 1) := by decide +kernel
theorem dX6_weighted_4 : decode cX6_weighted 4 = .ok (.iload_n 2, 1) := by decide +kernel
theorem dX6_weighted_5 : decode cX6_weighted 5 = .ok (.bipush 9, 2) := by decide +kernel
theorem dX6_weighted_7 : decode cX6_weighted 7 = .ok (.if_icmp .ge 32, 3) := by decide +kernel
theorem dX6_weighted_10 : decode cX6_weighted 10 = .ok (.iload_n 1, 1) := by decide +kernel
theorem dX6_weighted_11 : decode cX6_weighted 11 = .ok (.aload_n 0, 1) := by decide +kernel
theorem dX6_weighted_12 : decode cX6_weighted 12 = .ok (.iload_n 2, 1) := by decide +kernel
theorem dX6_weighted_13 : decode cX6_weighted 13 = .ok (.iconst 3, 1) := by decide +kernel
theorem dX6_weighted_14 : decode cX6_weighted 14 = .ok (.idiv, 1) := by decide +kernel
theorem dX6_weighted_15 : decode cX6_weighted 15 = .ok (.iconst 3, 1) := by decide +kernel
theorem dX6_weighted_16 : decode cX6_weighted 16 = .ok (.iload_n 2, 1) := by decide +kernel
theorem dX6_weighted_17 : decode cX6_weighted 17 = .ok (.iconst 3, 1) := by decide +kernel
theorem dX6_weighted_18 : decode cX6_weighted 18 = .ok (.irem, 1) := by decide +kernel
theorem dX6_weighted_19 : decode cX6_weighted 19 = .ok (.iadd, 1) := by decide +kernel
theorem dX6_weighted_20 : decode cX6_weighted 20 = .ok (.invokevirtual 85, 3) := by decide +kernel
theorem dX6_weighted_23 : decode cX6_weighted 23 = .ok (.ifCond .le 7, 3) := by decide +kernel
theorem dX6_weighted_26 : decode cX6_weighted 26 = .ok (.iconst 1, 1) := by decide +kernel
theorem dX6_weighted_27 : decode cX6_weighted 27 = .ok (.goto 4, 3) := by decide +kernel
theorem dX6_weighted_30 : decode cX6_weighted 30 = .ok (.iconst 0, 1) := by decide +kernel
theorem dX6_weighted_31 : decode cX6_weighted 31 = .ok (.iadd, 1) := by decide +kernel
theorem dX6_weighted_32 : decode cX6_weighted 32 = .ok (.istore_n 1, 1) := by decide +kernel
theorem dX6_weighted_33 : decode cX6_weighted 33 = .ok (.iinc 2 1, 3) := by decide +kernel
theorem dX6_weighted_36 : decode cX6_weighted 36 = .ok (.goto (-32), 3) := by decide +kernel
theorem dX6_weighted_39 : decode cX6_weighted 39 = .ok (.iload_n 1, 1) := by decide +kernel
theorem dX6_weighted_40 : decode cX6_weighted 40 = .ok (.ireturn, 1) := by decide +kernel
set_option maxRecDepth 20000 in
theorem ggX6_openOnes_X6_isThere : GoodIn wsX6_openOnes wsX6_isThere := goodIn_r _ [6, 7, 8, 9, 10, 11, 12, 13, 14, 15, 16, 17, 18, 19, 20, 21, 22, 23, 24] (by decide +kernel) (by decide +kernel)
set_option maxRecDepth 20000 in
theorem gX6_openOnes_X6_isThere : GoodIn wsX6_openOnes (wsV RX6 77 RX6 yX6_isThere wsX6_isThere) := goodIn_app (goodIn_of _ (by decide +kernel)) ggX6_openOnes_X6_isThere
theorem dX6_openOnes_0 : decode cX6_openOnes 0 = .ok (.iconst 0, 1) := by decide +kernel
theorem dX6_openOnes_1 : decode cX6_openOnes 1 = .ok (.istore_n 1, 1) := by decide +kernel
theorem dX6_openOnes_2 : decode cX6_openOnes 2 = .ok (.iconst 0, 1) := by decide +kernel
theorem dX6_openOnes_3 : decode cX6_openOnes 3 = .ok (.istore_n 2, 1) := by decide +kernel
theorem dX6_openOnes_4 : decode cX6_openOnes 4 = .ok (.iload_n 2, 1) := by decide +kernel
theorem dX6_openOnes_5 : decode cX6_openOnes 5 = .ok (.bipush 6, 2) := by decide +kernel
theorem dX6_openOnes_7 : decode cX6_openOnes 7 = .ok (.if_icmp .ge 34, 3) := by decide +kernel
theorem dX6_openOnes_10 : decode cX6_openOnes 10 = .ok (.iload_n 1, 1) := by decide +kernel
theorem dX6_openOnes_11 : decode cX6_openOnes 11 = .ok (.aload_n 0, 1) := by decide +kernel
theorem dX6_openOnes_12 : decode cX6_openOnes 12 = .ok (.iload_n 2, 1) := by decide +kernel
theorem dX6_openOnes_13 : decode cX6_openOnes 13 = .ok (.invokevirtual 77, 3) := by decide +kernel
theorem dX6_openOnes_16 : decode cX6_openOnes 16 = .ok (.ifCond .eq 16, 3) := by decide +kernel
theorem dX6_openOnes_19 : decode cX6_openOnes 19 = .ok (.aload_n 0, 1) := by decide +kernel
theorem dX6_openOnes_20 : decode cX6_openOnes 20 = .ok (.getfield 16, 3) := by decide +kernel
theorem dX6_openOnes_23 : decode cX6_openOnes 23 = .ok (.iload_n 2, 1) := by decide +kernel
theorem dX6_openOnes_24 : decode cX6_openOnes 24 = .ok (.baload, 1) := by decide +kernel
theorem dX6_openOnes_25 : decode cX6_openOnes 25 = .ok (.ifCond .eq 7, 3) := by decide +kernel
theorem dX6_openOnes_28 : decode cX6_openOnes 28 = .ok (.iconst 1, 1) := by decide +kernel
theorem dX6_openOnes_29 : decode cX6_openOnes 29 = .ok (.goto 4, 3) := by decide +kernel
theorem dX6_openOnes_32 : decode cX6_openOnes 32 = .ok (.iconst 0, 1) := by decide +kernel
theorem dX6_openOnes_33 : decode cX6_openOnes 33 = .ok (.iadd, 1) := by decide +kernel
theorem dX6_openOnes_34 : decode cX6_openOnes 34 = .ok (.istore_n 1, 1) := by decide +kernel
theorem dX6_openOnes_35 : decode cX6_openOnes 35 = .ok (.iinc 2 1, 3) := by decide +kernel
theorem dX6_openOnes_38 : decode cX6_openOnes 38 = .ok (.goto (-34), 3) := by decide +kernel
theorem dX6_openOnes_41 : decode cX6_openOnes 41 = .ok (.iload_n 1, 1) := by decide +kernel
theorem dX6_openOnes_42 : decode cX6_openOnes 42 = .ok (.ireturn, 1) := by decide +kernel
set_option maxRecDepth 20000 in
theorem ggX6_restOf_X6_floor : GoodIn wsX6_restOf wsX6_floor := goodIn_r _ [7] (by decide +kernel) (by decide +kernel)
set_option maxRecDepth 20000 in
theorem gX6_restOf_X6_floor : GoodIn wsX6_restOf (va_wsS RX6 127 yX6_floor wsX6_floor) := goodIn_app (goodIn_of _ (by decide +kernel)) ggX6_restOf_X6_floor
theorem dX6_restOf_0 : decode cX6_restOf 0 = .ok (.aload_n 0, 1) := by decide +kernel
theorem dX6_restOf_1 : decode cX6_restOf 1 = .ok (.getfield 20, 3) := by decide +kernel
theorem dX6_restOf_4 : decode cX6_restOf 4 = .ok (.iload_n 1, 1) := by decide +kernel
theorem dX6_restOf_5 : decode cX6_restOf 5 = .ok (.laload, 1) := by decide +kernel
theorem dX6_restOf_6 : decode cX6_restOf 6 = .ok (.aload_n 0, 1) := by decide +kernel
theorem dX6_restOf_7 : decode cX6_restOf 7 = .ok (.getfield 20, 3) := by decide +kernel
theorem dX6_restOf_10 : decode cX6_restOf 10 = .ok (.iload_n 1, 1) := by decide +kernel
theorem dX6_restOf_11 : decode cX6_restOf 11 = .ok (.laload, 1) := by decide +kernel
theorem dX6_restOf_12 : decode cX6_restOf 12 = .ok (.ldc2_w 125, 3) := by decide +kernel
theorem dX6_restOf_15 : decode cX6_restOf 15 = .ok (.aload_n 0, 1) := by decide +kernel
theorem dX6_restOf_16 : decode cX6_restOf 16 = .ok (.getfield 112, 3) := by decide +kernel
theorem dX6_restOf_19 : decode cX6_restOf 19 = .ok (.lmul, 1) := by decide +kernel
theorem dX6_restOf_20 : decode cX6_restOf 20 = .ok (.invokestatic 127, 3) := by decide +kernel
theorem dX6_restOf_23 : decode cX6_restOf 23 = .ok (.ldc2_w 125, 3) := by decide +kernel
theorem dX6_restOf_26 : decode cX6_restOf 26 = .ok (.lmul, 1) := by decide +kernel
theorem dX6_restOf_27 : decode cX6_restOf 27 = .ok (.aload_n 0, 1) := by decide +kernel
theorem dX6_restOf_28 : decode cX6_restOf 28 = .ok (.getfield 112, 3) := by decide +kernel
theorem dX6_restOf_31 : decode cX6_restOf 31 = .ok (.lmul, 1) := by decide +kernel
theorem dX6_restOf_32 : decode cX6_restOf 32 = .ok (.lsub, 1) := by decide +kernel
theorem dX6_restOf_33 : decode cX6_restOf 33 = .ok (.lreturn, 1) := by decide +kernel
set_option maxRecDepth 20000 in
theorem ggX6_layWholes_X6_isThere : GoodIn wsX6_layWholes wsX6_isThere := goodIn_r _ [12, 13, 21, 22, 23, 24, 25, 26, 27, 28, 29, 30, 31, 32, 33, 34, 35, 36, 37] (by decide +kernel) (by decide +kernel)
set_option maxRecDepth 20000 in
theorem gX6_layWholes_X6_isThere : GoodIn wsX6_layWholes (wsV RX6 77 RX6 yX6_isThere wsX6_isThere) := goodIn_app (goodIn_of _ (by decide +kernel)) ggX6_layWholes_X6_isThere
set_option maxRecDepth 20000 in
theorem ggX6_layWholes_X6_floor : GoodIn wsX6_layWholes wsX6_floor := goodIn_r _ [16] (by decide +kernel) (by decide +kernel)
set_option maxRecDepth 20000 in
theorem gX6_layWholes_X6_floor : GoodIn wsX6_layWholes (va_wsS RX6 127 yX6_floor wsX6_floor) := goodIn_app (goodIn_of _ (by decide +kernel)) ggX6_layWholes_X6_floor
set_option maxRecDepth 20000 in
theorem ggX6_layWholes_X6_restOf : GoodIn wsX6_layWholes wsX6_restOf := goodIn_r _ [20, 2, 3, 4, 14, 15, 11, 16, 21, 22, 23, 24, 25, 26, 27, 28, 29, 30, 31, 32, 33, 34, 35, 36, 37] (by decide +kernel) (by decide +kernel)
set_option maxRecDepth 20000 in
theorem gX6_layWholes_X6_restOf : GoodIn wsX6_layWholes (wsV RX6 134 RX6 yX6_restOf wsX6_restOf) := goodIn_app (goodIn_of _ (by decide +kernel)) ggX6_layWholes_X6_restOf
theorem dX6_layWholes_0 : decode cX6_layWholes 0 = .ok (.lconst 0, 1) := by decide +kernel
theorem dX6_layWholes_1 : decode cX6_layWholes 1 = .ok (.lstore_n 1, 1) := by decide +kernel
theorem dX6_layWholes_2 : decode cX6_layWholes 2 = .ok (.lconst 0, 1) := by decide +kernel
theorem dX6_layWholes_3 : decode cX6_layWholes 3 = .ok (.lstore_n 3, 1) := by decide +kernel
theorem dX6_layWholes_4 : decode cX6_layWholes 4 = .ok (.iconst 0, 1) := by decide +kernel
theorem dX6_layWholes_5 : decode cX6_layWholes 5 = .ok (.istore 5, 2) := by decide +kernel
theorem dX6_layWholes_7 : decode cX6_layWholes 7 = .ok (.iload 5, 2) := by decide +kernel
theorem dX6_layWholes_9 : decode cX6_layWholes 9 = .ok (.bipush 6, 2) := by decide +kernel
theorem dX6_layWholes_11 : decode cX6_layWholes 11 = .ok (.if_icmp .ge 75, 3) := by decide +kernel
theorem dX6_layWholes_14 : decode cX6_layWholes 14 = .ok (.aload_n 0, 1) := by decide +kernel
theorem dX6_layWholes_15 : decode cX6_layWholes 15 = .ok (.getfield 33, 3) := by decide +kernel
theorem dX6_layWholes_18 : decode cX6_layWholes 18 = .ok (.iload 5, 2) := by decide +kernel
theorem dX6_layWholes_20 : decode cX6_layWholes 20 = .ok (.aload_n 0, 1) := by decide +kernel
theorem dX6_layWholes_21 : decode cX6_layWholes 21 = .ok (.iload 5, 2) := by decide +kernel
theorem dX6_layWholes_23 : decode cX6_layWholes 23 = .ok (.invokevirtual 77, 3) := by decide +kernel
theorem dX6_layWholes_26 : decode cX6_layWholes 26 = .ok (.ifCond .eq 24, 3) := by decide +kernel
theorem dX6_layWholes_29 : decode cX6_layWholes 29 = .ok (.aload_n 0, 1) := by decide +kernel
theorem dX6_layWholes_30 : decode cX6_layWholes 30 = .ok (.getfield 20, 3) := by decide +kernel
theorem dX6_layWholes_33 : decode cX6_layWholes 33 = .ok (.iload 5, 2) := by decide +kernel
theorem dX6_layWholes_35 : decode cX6_layWholes 35 = .ok (.laload, 1) := by decide +kernel
theorem dX6_layWholes_36 : decode cX6_layWholes 36 = .ok (.ldc2_w 125, 3) := by decide +kernel
theorem dX6_layWholes_39 : decode cX6_layWholes 39 = .ok (.aload_n 0, 1) := by decide +kernel
theorem dX6_layWholes_40 : decode cX6_layWholes 40 = .ok (.getfield 112, 3) := by decide +kernel
theorem dX6_layWholes_43 : decode cX6_layWholes 43 = .ok (.lmul, 1) := by decide +kernel
theorem dX6_layWholes_44 : decode cX6_layWholes 44 = .ok (.invokestatic 127, 3) := by decide +kernel
theorem dX6_layWholes_47 : decode cX6_layWholes 47 = .ok (.goto 4, 3) := by decide +kernel
theorem dX6_layWholes_50 : decode cX6_layWholes 50 = .ok (.lconst 0, 1) := by decide +kernel
theorem dX6_layWholes_51 : decode cX6_layWholes 51 = .ok (.lastore, 1) := by decide +kernel
theorem dX6_layWholes_52 : decode cX6_layWholes 52 = .ok (.aload_n 0, 1) := by decide +kernel
theorem dX6_layWholes_53 : decode cX6_layWholes 53 = .ok (.getfield 36, 3) := by decide +kernel
theorem dX6_layWholes_56 : decode cX6_layWholes 56 = .ok (.iload 5, 2) := by decide +kernel
theorem dX6_layWholes_58 : decode cX6_layWholes 58 = .ok (.iconst 0, 1) := by decide +kernel
theorem dX6_layWholes_59 : decode cX6_layWholes 59 = .ok (.bastore, 1) := by decide +kernel
theorem dX6_layWholes_60 : decode cX6_layWholes 60 = .ok (.lload_n 1, 1) := by decide +kernel
theorem dX6_layWholes_61 : decode cX6_layWholes 61 = .ok (.aload_n 0, 1) := by decide +kernel
theorem dX6_layWholes_62 : decode cX6_layWholes 62 = .ok (.getfield 20, 3) := by decide +kernel
theorem dX6_layWholes_65 : decode cX6_layWholes 65 = .ok (.iload 5, 2) := by decide +kernel
theorem dX6_layWholes_67 : decode cX6_layWholes 67 = .ok (.laload, 1) := by decide +kernel
theorem dX6_layWholes_68 : decode cX6_layWholes 68 = .ok (.ladd, 1) := by decide +kernel
theorem dX6_layWholes_69 : decode cX6_layWholes 69 = .ok (.lstore_n 1, 1) := by decide +kernel
theorem dX6_layWholes_70 : decode cX6_layWholes 70 = .ok (.lload_n 3, 1) := by decide +kernel
theorem dX6_layWholes_71 : decode cX6_layWholes 71 = .ok (.aload_n 0, 1) := by decide +kernel
theorem dX6_layWholes_72 : decode cX6_layWholes 72 = .ok (.getfield 33, 3) := by decide +kernel
theorem dX6_layWholes_75 : decode cX6_layWholes 75 = .ok (.iload 5, 2) := by decide +kernel
theorem dX6_layWholes_77 : decode cX6_layWholes 77 = .ok (.laload, 1) := by decide +kernel
theorem dX6_layWholes_78 : decode cX6_layWholes 78 = .ok (.lsub, 1) := by decide +kernel
theorem dX6_layWholes_79 : decode cX6_layWholes 79 = .ok (.lstore_n 3, 1) := by decide +kernel
theorem dX6_layWholes_80 : decode cX6_layWholes 80 = .ok (.iinc 5 1, 3) := by decide +kernel
theorem dX6_layWholes_83 : decode cX6_layWholes 83 = .ok (.goto (-76), 3) := by decide +kernel
theorem dX6_layWholes_86 : decode cX6_layWholes 86 = .ok (.lload_n 3, 1) := by decide +kernel
theorem dX6_layWholes_87 : decode cX6_layWholes 87 = .ok (.ldc2_w 130, 3) := by decide +kernel
theorem dX6_layWholes_90 : decode cX6_layWholes 90 = .ok (.lload_n 1, 1) := by decide +kernel
theorem dX6_layWholes_91 : decode cX6_layWholes 91 = .ok (.lmul, 1) := by decide +kernel
theorem dX6_layWholes_92 : decode cX6_layWholes 92 = .ok (.ldc2_w 125, 3) := by decide +kernel
theorem dX6_layWholes_95 : decode cX6_layWholes 95 = .ok (.aload_n 0, 1) := by decide +kernel
theorem dX6_layWholes_96 : decode cX6_layWholes 96 = .ok (.getfield 112, 3) := by decide +kernel
theorem dX6_layWholes_99 : decode cX6_layWholes 99 = .ok (.lmul, 1) := by decide +kernel
theorem dX6_layWholes_100 : decode cX6_layWholes 100 = .ok (.ladd, 1) := by decide +kernel
theorem dX6_layWholes_101 : decode cX6_layWholes 101 = .ok (.ldc2_w 132, 3) := by decide +kernel
theorem dX6_layWholes_104 : decode cX6_layWholes 104 = .ok (.aload_n 0, 1) := by decide +kernel
theorem dX6_layWholes_105 : decode cX6_layWholes 105 = .ok (.getfield 112, 3) := by decide +kernel
theorem dX6_layWholes_108 : decode cX6_layWholes 108 = .ok (.lmul, 1) := by decide +kernel
theorem dX6_layWholes_109 : decode cX6_layWholes 109 = .ok (.invokestatic 127, 3) := by decide +kernel
theorem dX6_layWholes_112 : decode cX6_layWholes 112 = .ok (.ladd, 1) := by decide +kernel
theorem dX6_layWholes_113 : decode cX6_layWholes 113 = .ok (.lstore_n 3, 1) := by decide +kernel
theorem dX6_layWholes_114 : decode cX6_layWholes 114 = .ok (.lload_n 3, 1) := by decide +kernel
theorem dX6_layWholes_115 : decode cX6_layWholes 115 = .ok (.lconst 0, 1) := by decide +kernel
theorem dX6_layWholes_116 : decode cX6_layWholes 116 = .ok (.lcmp, 1) := by decide +kernel
theorem dX6_layWholes_117 : decode cX6_layWholes 117 = .ok (.ifCond .le 109, 3) := by decide +kernel
theorem dX6_layWholes_120 : decode cX6_layWholes 120 = .ok (.iconst (-1), 1) := by decide +kernel
theorem dX6_layWholes_121 : decode cX6_layWholes 121 = .ok (.istore 5, 2) := by decide +kernel
theorem dX6_layWholes_123 : decode cX6_layWholes 123 = .ok (.iconst 0, 1) := by decide +kernel
theorem dX6_layWholes_124 : decode cX6_layWholes 124 = .ok (.istore 6, 2) := by decide +kernel
theorem dX6_layWholes_126 : decode cX6_layWholes 126 = .ok (.iload 6, 2) := by decide +kernel
theorem dX6_layWholes_128 : decode cX6_layWholes 128 = .ok (.bipush 6, 2) := by decide +kernel
theorem dX6_layWholes_130 : decode cX6_layWholes 130 = .ok (.if_icmp .ge 70, 3) := by decide +kernel
theorem dX6_layWholes_133 : decode cX6_layWholes 133 = .ok (.aload_n 0, 1) := by decide +kernel
theorem dX6_layWholes_134 : decode cX6_layWholes 134 = .ok (.iload 6, 2) := by decide +kernel
theorem dX6_layWholes_136 : decode cX6_layWholes 136 = .ok (.invokevirtual 77, 3) := by decide +kernel
theorem dX6_layWholes_139 : decode cX6_layWholes 139 = .ok (.ifCond .eq 17, 3) := by decide +kernel
theorem dX6_layWholes_142 : decode cX6_layWholes 142 = .ok (.aload_n 0, 1) := by decide +kernel
theorem dX6_layWholes_143 : decode cX6_layWholes 143 = .ok (.getfield 36, 3) := by decide +kernel
theorem dX6_layWholes_146 : decode cX6_layWholes 146 = .ok (.iload 6, 2) := by decide +kernel
theorem dX6_layWholes_148 : decode cX6_layWholes 148 = .ok (.baload, 1) := by decide +kernel
theorem dX6_layWholes_149 : decode cX6_layWholes 149 = .ok (.ifCond .ne 7, 3) := by decide +kernel
theorem dX6_layWholes_152 : decode cX6_layWholes 152 = .ok (.iconst 1, 1) := by decide +kernel
theorem dX6_layWholes_153 : decode cX6_layWholes 153 = .ok (.goto 4, 3) := by decide +kernel
theorem dX6_layWholes_156 : decode cX6_layWholes 156 = .ok (.iconst 0, 1) := by decide +kernel
theorem dX6_layWholes_157 : decode cX6_layWholes 157 = .ok (.istore 7, 2) := by decide +kernel
theorem dX6_layWholes_159 : decode cX6_layWholes 159 = .ok (.iload 7, 2) := by decide +kernel
theorem dX6_layWholes_161 : decode cX6_layWholes 161 = .ok (.ifCond .eq 29, 3) := by decide +kernel
theorem dX6_layWholes_164 : decode cX6_layWholes 164 = .ok (.iload 5, 2) := by decide +kernel
theorem dX6_layWholes_166 : decode cX6_layWholes 166 = .ok (.ifCond .lt 19, 3) := by decide +kernel
theorem dX6_layWholes_169 : decode cX6_layWholes 169 = .ok (.aload_n 0, 1) := by decide +kernel
theorem dX6_layWholes_170 : decode cX6_layWholes 170 = .ok (.iload 6, 2) := by decide +kernel
theorem dX6_layWholes_172 : decode cX6_layWholes 172 = .ok (.invokevirtual 134, 3) := by decide +kernel
theorem dX6_layWholes_175 : decode cX6_layWholes 175 = .ok (.aload_n 0, 1) := by decide +kernel
theorem dX6_layWholes_176 : decode cX6_layWholes 176 = .ok (.iload 5, 2) := by decide +kernel
theorem dX6_layWholes_178 : decode cX6_layWholes 178 = .ok (.invokevirtual 134, 3) := by decide +kernel
theorem dX6_layWholes_181 : decode cX6_layWholes 181 = .ok (.lcmp, 1) := by decide +kernel
theorem dX6_layWholes_182 : decode cX6_layWholes 182 = .ok (.ifCond .le 8, 3) := by decide +kernel
theorem dX6_layWholes_185 : decode cX6_layWholes 185 = .ok (.iload 6, 2) := by decide +kernel
theorem dX6_layWholes_187 : decode cX6_layWholes 187 = .ok (.goto 5, 3) := by decide +kernel
theorem dX6_layWholes_190 : decode cX6_layWholes 190 = .ok (.iload 5, 2) := by decide +kernel
theorem dX6_layWholes_192 : decode cX6_layWholes 192 = .ok (.istore 5, 2) := by decide +kernel
theorem dX6_layWholes_194 : decode cX6_layWholes 194 = .ok (.iinc 6 1, 3) := by decide +kernel
theorem dX6_layWholes_197 : decode cX6_layWholes 197 = .ok (.goto (-71), 3) := by decide +kernel
theorem dX6_layWholes_200 : decode cX6_layWholes 200 = .ok (.aload_n 0, 1) := by decide +kernel
theorem dX6_layWholes_201 : decode cX6_layWholes 201 = .ok (.getfield 36, 3) := by decide +kernel
theorem dX6_layWholes_204 : decode cX6_layWholes 204 = .ok (.iload 5, 2) := by decide +kernel
theorem dX6_layWholes_206 : decode cX6_layWholes 206 = .ok (.iconst 1, 1) := by decide +kernel
theorem dX6_layWholes_207 : decode cX6_layWholes 207 = .ok (.bastore, 1) := by decide +kernel
theorem dX6_layWholes_208 : decode cX6_layWholes 208 = .ok (.aload_n 0, 1) := by decide +kernel
theorem dX6_layWholes_209 : decode cX6_layWholes 209 = .ok (.getfield 33, 3) := by decide +kernel
theorem dX6_layWholes_212 : decode cX6_layWholes 212 = .ok (.iload 5, 2) := by decide +kernel
theorem dX6_layWholes_214 : decode cX6_layWholes 214 = .ok (.dup2, 1) := by decide +kernel
theorem dX6_layWholes_215 : decode cX6_layWholes 215 = .ok (.laload, 1) := by decide +kernel
theorem dX6_layWholes_216 : decode cX6_layWholes 216 = .ok (.lconst 1, 1) := by decide +kernel
theorem dX6_layWholes_217 : decode cX6_layWholes 217 = .ok (.ladd, 1) := by decide +kernel
theorem dX6_layWholes_218 : decode cX6_layWholes 218 = .ok (.lastore, 1) := by decide +kernel
theorem dX6_layWholes_219 : decode cX6_layWholes 219 = .ok (.lload_n 3, 1) := by decide +kernel
theorem dX6_layWholes_220 : decode cX6_layWholes 220 = .ok (.lconst 1, 1) := by decide +kernel
theorem dX6_layWholes_221 : decode cX6_layWholes 221 = .ok (.lsub, 1) := by decide +kernel
theorem dX6_layWholes_222 : decode cX6_layWholes 222 = .ok (.lstore_n 3, 1) := by decide +kernel
theorem dX6_layWholes_223 : decode cX6_layWholes 223 = .ok (.goto (-109), 3) := by decide +kernel
theorem dX6_layWholes_226 : decode cX6_layWholes 226 = .ok (.return_, 1) := by decide +kernel
theorem dX6_wide_0 : decode cX6_wide 0 = .ok (.lconst 0, 1) := by decide +kernel
theorem dX6_wide_1 : decode cX6_wide 1 = .ok (.lstore_n 1, 1) := by decide +kernel
theorem dX6_wide_2 : decode cX6_wide 2 = .ok (.iconst 0, 1) := by decide +kernel
theorem dX6_wide_3 : decode cX6_wide 3 = .ok (.istore_n 3, 1) := by decide +kernel
theorem dX6_wide_4 : decode cX6_wide 4 = .ok (.iload_n 3, 1) := by decide +kernel
theorem dX6_wide_5 : decode cX6_wide 5 = .ok (.aload_n 0, 1) := by decide +kernel
theorem dX6_wide_6 : decode cX6_wide 6 = .ok (.getfield 51, 3) := by decide +kernel
theorem dX6_wide_9 : decode cX6_wide 9 = .ok (.if_icmp .ge 84, 3) := by decide +kernel
theorem dX6_wide_12 : decode cX6_wide 12 = .ok (.aload_n 0, 1) := by decide +kernel
theorem dX6_wide_13 : decode cX6_wide 13 = .ok (.getfield 13, 3) := by decide +kernel
theorem dX6_wide_16 : decode cX6_wide 16 = .ok (.iload_n 3, 1) := by decide +kernel
theorem dX6_wide_17 : decode cX6_wide 17 = .ok (.iaload, 1) := by decide +kernel
theorem dX6_wide_18 : decode cX6_wide 18 = .ok (.istore 4, 2) := by decide +kernel
theorem dX6_wide_20 : decode cX6_wide 20 = .ok (.lload_n 1, 1) := by decide +kernel
theorem dX6_wide_21 : decode cX6_wide 21 = .ok (.ldc2_w 125, 3) := by decide +kernel
theorem dX6_wide_24 : decode cX6_wide 24 = .ok (.aload_n 0, 1) := by decide +kernel
theorem dX6_wide_25 : decode cX6_wide 25 = .ok (.getfield 112, 3) := by decide +kernel
theorem dX6_wide_28 : decode cX6_wide 28 = .ok (.lmul, 1) := by decide +kernel
theorem dX6_wide_29 : decode cX6_wide 29 = .ok (.aload_n 0, 1) := by decide +kernel
theorem dX6_wide_30 : decode cX6_wide 30 = .ok (.getfield 7, 3) := by decide +kernel
theorem dX6_wide_33 : decode cX6_wide 33 = .ok (.bipush 48, 2) := by decide +kernel
theorem dX6_wide_35 : decode cX6_wide 35 = .ok (.iload 4, 2) := by decide +kernel
theorem dX6_wide_37 : decode cX6_wide 37 = .ok (.iadd, 1) := by decide +kernel
theorem dX6_wide_38 : decode cX6_wide 38 = .ok (.iaload, 1) := by decide +kernel
theorem dX6_wide_39 : decode cX6_wide 39 = .ok (.i2l, 1) := by decide +kernel
theorem dX6_wide_40 : decode cX6_wide 40 = .ok (.lmul, 1) := by decide +kernel
theorem dX6_wide_41 : decode cX6_wide 41 = .ok (.ladd, 1) := by decide +kernel
theorem dX6_wide_42 : decode cX6_wide 42 = .ok (.lstore_n 1, 1) := by decide +kernel
theorem dX6_wide_43 : decode cX6_wide 43 = .ok (.lload_n 1, 1) := by decide +kernel
theorem dX6_wide_44 : decode cX6_wide 44 = .ok (.iload_n 3, 1) := by decide +kernel
theorem dX6_wide_45 : decode cX6_wide 45 = .ok (.ifCond .le 15, 3) := by decide +kernel
theorem dX6_wide_48 : decode cX6_wide 48 = .ok (.aload_n 0, 1) := by decide +kernel
theorem dX6_wide_49 : decode cX6_wide 49 = .ok (.getfield 20, 3) := by decide +kernel
theorem dX6_wide_52 : decode cX6_wide 52 = .ok (.iconst 3, 1) := by decide +kernel
theorem dX6_wide_53 : decode cX6_wide 53 = .ok (.iload 4, 2) := by decide +kernel
theorem dX6_wide_55 : decode cX6_wide 55 = .ok (.iadd, 1) := by decide +kernel
theorem dX6_wide_56 : decode cX6_wide 56 = .ok (.laload, 1) := by decide +kernel
theorem dX6_wide_57 : decode cX6_wide 57 = .ok (.goto 4, 3) := by decide +kernel
theorem dX6_wide_60 : decode cX6_wide 60 = .ok (.lconst 0, 1) := by decide +kernel
theorem dX6_wide_61 : decode cX6_wide 61 = .ok (.ladd, 1) := by decide +kernel
theorem dX6_wide_62 : decode cX6_wide 62 = .ok (.lstore_n 1, 1) := by decide +kernel
theorem dX6_wide_63 : decode cX6_wide 63 = .ok (.lload_n 1, 1) := by decide +kernel
theorem dX6_wide_64 : decode cX6_wide 64 = .ok (.iload_n 3, 1) := by decide +kernel
theorem dX6_wide_65 : decode cX6_wide 65 = .ok (.iconst 1, 1) := by decide +kernel
theorem dX6_wide_66 : decode cX6_wide 66 = .ok (.iadd, 1) := by decide +kernel
theorem dX6_wide_67 : decode cX6_wide 67 = .ok (.aload_n 0, 1) := by decide +kernel
theorem dX6_wide_68 : decode cX6_wide 68 = .ok (.getfield 51, 3) := by decide +kernel
theorem dX6_wide_71 : decode cX6_wide 71 = .ok (.if_icmp .ge 13, 3) := by decide +kernel
theorem dX6_wide_74 : decode cX6_wide 74 = .ok (.aload_n 0, 1) := by decide +kernel
theorem dX6_wide_75 : decode cX6_wide 75 = .ok (.getfield 20, 3) := by decide +kernel
theorem dX6_wide_78 : decode cX6_wide 78 = .ok (.iload 4, 2) := by decide +kernel
theorem dX6_wide_80 : decode cX6_wide 80 = .ok (.laload, 1) := by decide +kernel
theorem dX6_wide_81 : decode cX6_wide 81 = .ok (.goto 4, 3) := by decide +kernel
theorem dX6_wide_84 : decode cX6_wide 84 = .ok (.lconst 0, 1) := by decide +kernel
theorem dX6_wide_85 : decode cX6_wide 85 = .ok (.ladd, 1) := by decide +kernel
theorem dX6_wide_86 : decode cX6_wide 86 = .ok (.lstore_n 1, 1) := by decide +kernel
theorem dX6_wide_87 : decode cX6_wide 87 = .ok (.iinc 3 1, 3) := by decide +kernel
theorem dX6_wide_90 : decode cX6_wide 90 = .ok (.goto (-86), 3) := by decide +kernel
theorem dX6_wide_93 : decode cX6_wide 93 = .ok (.lload_n 1, 1) := by decide +kernel
theorem dX6_wide_94 : decode cX6_wide 94 = .ok (.lreturn, 1) := by decide +kernel
set_option maxRecDepth 20000 in
theorem ggX6_thin_X6_whiteOf : GoodIn wsX6_thin wsX6_whiteOf := goodIn_r _ [7, 8, 9, 10, 11, 12, 6, 13, 14, 15, 16, 17, 18, 19, 20, 21, 22, 23, 24, 25, 26, 27, 28, 29, 30, 31, 32, 33, 34] (by decide +kernel) (by decide +kernel)
set_option maxRecDepth 20000 in
theorem gX6_thin_X6_whiteOf : GoodIn wsX6_thin (wsV RX6 116 RX6 yX6_whiteOf wsX6_whiteOf) := goodIn_app (goodIn_of _ (by decide +kernel)) ggX6_thin_X6_whiteOf
theorem dX6_thin_0 : decode cX6_thin 0 = .ok (.iconst (-1), 1) := by decide +kernel
theorem dX6_thin_1 : decode cX6_thin 1 = .ok (.istore_n 1, 1) := by decide +kernel
theorem dX6_thin_2 : decode cX6_thin 2 = .ok (.iconst 0, 1) := by decide +kernel
theorem dX6_thin_3 : decode cX6_thin 3 = .ok (.istore_n 2, 1) := by decide +kernel
theorem dX6_thin_4 : decode cX6_thin 4 = .ok (.iload_n 2, 1) := by decide +kernel
theorem dX6_thin_5 : decode cX6_thin 5 = .ok (.iconst 1, 1) := by decide +kernel
theorem dX6_thin_6 : decode cX6_thin 6 = .ok (.iadd, 1) := by decide +kernel
theorem dX6_thin_7 : decode cX6_thin 7 = .ok (.aload_n 0, 1) := by decide +kernel
theorem dX6_thin_8 : decode cX6_thin 8 = .ok (.getfield 51, 3) := by decide +kernel
theorem dX6_thin_11 : decode cX6_thin 11 = .ok (.if_icmp .ge 69, 3) := by decide +kernel
theorem dX6_thin_14 : decode cX6_thin 14 = .ok (.iload_n 1, 1) := by decide +kernel
theorem dX6_thin_15 : decode cX6_thin 15 = .ok (.ifCond .lt 43, 3) := by decide +kernel
theorem dX6_thin_18 : decode cX6_thin 18 = .ok (.aload_n 0, 1) := by decide +kernel
theorem dX6_thin_19 : decode cX6_thin 19 = .ok (.aload_n 0, 1) := by decide +kernel
theorem dX6_thin_20 : decode cX6_thin 20 = .ok (.getfield 13, 3) := by decide +kernel
theorem dX6_thin_23 : decode cX6_thin 23 = .ok (.iload_n 2, 1) := by decide +kernel
theorem dX6_thin_24 : decode cX6_thin 24 = .ok (.iaload, 1) := by decide +kernel
theorem dX6_thin_25 : decode cX6_thin 25 = .ok (.aload_n 0, 1) := by decide +kernel
theorem dX6_thin_26 : decode cX6_thin 26 = .ok (.getfield 13, 3) := by decide +kernel
theorem dX6_thin_29 : decode cX6_thin 29 = .ok (.iload_n 2, 1) := by decide +kernel
theorem dX6_thin_30 : decode cX6_thin 30 = .ok (.iconst 1, 1) := by decide +kernel
theorem dX6_thin_31 : decode cX6_thin 31 = .ok (.iadd, 1) := by decide +kernel
theorem dX6_thin_32 : decode cX6_thin 32 = .ok (.iaload, 1) := by decide +kernel
theorem dX6_thin_33 : decode cX6_thin 33 = .ok (.invokevirtual 116, 3) := by decide +kernel
theorem dX6_thin_36 : decode cX6_thin 36 = .ok (.aload_n 0, 1) := by decide +kernel
theorem dX6_thin_37 : decode cX6_thin 37 = .ok (.aload_n 0, 1) := by decide +kernel
theorem dX6_thin_38 : decode cX6_thin 38 = .ok (.getfield 13, 3) := by decide +kernel
theorem dX6_thin_41 : decode cX6_thin 41 = .ok (.iload_n 1, 1) := by decide +kernel
theorem dX6_thin_42 : decode cX6_thin 42 = .ok (.iaload, 1) := by decide +kernel
theorem dX6_thin_43 : decode cX6_thin 43 = .ok (.aload_n 0, 1) := by decide +kernel
theorem dX6_thin_44 : decode cX6_thin 44 = .ok (.getfield 13, 3) := by decide +kernel
theorem dX6_thin_47 : decode cX6_thin 47 = .ok (.iload_n 1, 1) := by decide +kernel
theorem dX6_thin_48 : decode cX6_thin 48 = .ok (.iconst 1, 1) := by decide +kernel
theorem dX6_thin_49 : decode cX6_thin 49 = .ok (.iadd, 1) := by decide +kernel
theorem dX6_thin_50 : decode cX6_thin 50 = .ok (.iaload, 1) := by decide +kernel
theorem dX6_thin_51 : decode cX6_thin 51 = .ok (.invokevirtual 116, 3) := by decide +kernel
theorem dX6_thin_54 : decode cX6_thin 54 = .ok (.lcmp, 1) := by decide +kernel
theorem dX6_thin_55 : decode cX6_thin 55 = .ok (.ifCond .ge 7, 3) := by decide +kernel
theorem dX6_thin_58 : decode cX6_thin 58 = .ok (.iconst 1, 1) := by decide +kernel
theorem dX6_thin_59 : decode cX6_thin 59 = .ok (.goto 4, 3) := by decide +kernel
theorem dX6_thin_62 : decode cX6_thin 62 = .ok (.iconst 0, 1) := by decide +kernel
theorem dX6_thin_63 : decode cX6_thin 63 = .ok (.istore_n 3, 1) := by decide +kernel
theorem dX6_thin_64 : decode cX6_thin 64 = .ok (.iload_n 3, 1) := by decide +kernel
theorem dX6_thin_65 : decode cX6_thin 65 = .ok (.ifCond .eq 7, 3) := by decide +kernel
theorem dX6_thin_68 : decode cX6_thin 68 = .ok (.iload_n 2, 1) := by decide +kernel
theorem dX6_thin_69 : decode cX6_thin 69 = .ok (.goto 4, 3) := by decide +kernel
theorem dX6_thin_72 : decode cX6_thin 72 = .ok (.iload_n 1, 1) := by decide +kernel
theorem dX6_thin_73 : decode cX6_thin 73 = .ok (.istore_n 1, 1) := by decide +kernel
theorem dX6_thin_74 : decode cX6_thin 74 = .ok (.iinc 2 1, 3) := by decide +kernel
theorem dX6_thin_77 : decode cX6_thin 77 = .ok (.goto (-73), 3) := by decide +kernel
theorem dX6_thin_80 : decode cX6_thin 80 = .ok (.iload_n 1, 1) := by decide +kernel
theorem dX6_thin_81 : decode cX6_thin 81 = .ok (.ireturn, 1) := by decide +kernel
theorem dX6_write_0 : decode cX6_write 0 = .ok (.aload_n 0, 1) := by decide +kernel
theorem dX6_write_1 : decode cX6_write 1 = .ok (.getfield 39, 3) := by decide +kernel
theorem dX6_write_4 : decode cX6_write 4 = .ok (.aload_n 0, 1) := by decide +kernel
theorem dX6_write_5 : decode cX6_write 5 = .ok (.getfield 137, 3) := by decide +kernel
theorem dX6_write_8 : decode cX6_write 8 = .ok (.iload_n 1, 1) := by decide +kernel
theorem dX6_write_9 : decode cX6_write 9 = .ok (.iastore, 1) := by decide +kernel
theorem dX6_write_10 : decode cX6_write 10 = .ok (.aload_n 0, 1) := by decide +kernel
theorem dX6_write_11 : decode cX6_write 11 = .ok (.dup, 1) := by decide +kernel
theorem dX6_write_12 : decode cX6_write 12 = .ok (.getfield 137, 3) := by decide +kernel
theorem dX6_write_15 : decode cX6_write 15 = .ok (.iconst 1, 1) := by decide +kernel
theorem dX6_write_16 : decode cX6_write 16 = .ok (.iadd, 1) := by decide +kernel
theorem dX6_write_17 : decode cX6_write 17 = .ok (.putfield 137, 3) := by decide +kernel
theorem dX6_write_20 : decode cX6_write 20 = .ok (.return_, 1) := by decide +kernel
set_option maxRecDepth 20000 in
theorem ggX6_writeNumber_X6_write : GoodIn wsX6_writeNumber wsX6_write := goodIn_r _ [7, 8, 9, 10, 11, 12, 13, 14, 15, 16, 17, 18, 19, 20, 21, 22, 23, 24, 25, 26] (by decide +kernel) (by decide +kernel)
set_option maxRecDepth 20000 in
theorem gX6_writeNumber_X6_write : GoodIn wsX6_writeNumber (wsV RX6 140 RX6 yX6_write wsX6_write) := goodIn_app (goodIn_of _ (by decide +kernel)) ggX6_writeNumber_X6_write
theorem dX6_writeNumber_0 : decode cX6_writeNumber 0 = .ok (.lload_n 1, 1) := by decide +kernel
theorem dX6_writeNumber_1 : decode cX6_writeNumber 1 = .ok (.lconst 0, 1) := by decide +kernel
theorem dX6_writeNumber_2 : decode cX6_writeNumber 2 = .ok (.lcmp, 1) := by decide +kernel
theorem dX6_writeNumber_3 : decode cX6_writeNumber 3 = .ok (.ifCond .ge 9, 3) := by decide +kernel
theorem dX6_writeNumber_6 : decode cX6_writeNumber 6 = .ok (.aload_n 0, 1) := by decide +kernel
theorem dX6_writeNumber_7 : decode cX6_writeNumber 7 = .ok (.bipush 45, 2) := by decide +kernel
theorem dX6_writeNumber_9 : decode cX6_writeNumber 9 = .ok (.invokevirtual 140, 3) := by decide +kernel
theorem dX6_writeNumber_12 : decode cX6_writeNumber 12 = .ok (.lload_n 1, 1) := by decide +kernel
theorem dX6_writeNumber_13 : decode cX6_writeNumber 13 = .ok (.lconst 0, 1) := by decide +kernel
theorem dX6_writeNumber_14 : decode cX6_writeNumber 14 = .ok (.lcmp, 1) := by decide +kernel
theorem dX6_writeNumber_15 : decode cX6_writeNumber 15 = .ok (.ifCond .ge 8, 3) := by decide +kernel
theorem dX6_writeNumber_18 : decode cX6_writeNumber 18 = .ok (.lload_n 1, 1) := by decide +kernel
theorem dX6_writeNumber_19 : decode cX6_writeNumber 19 = .ok (.lneg, 1) := by decide +kernel
theorem dX6_writeNumber_20 : decode cX6_writeNumber 20 = .ok (.goto 4, 3) := by decide +kernel
theorem dX6_writeNumber_23 : decode cX6_writeNumber 23 = .ok (.lload_n 1, 1) := by decide +kernel
theorem dX6_writeNumber_24 : decode cX6_writeNumber 24 = .ok (.lstore_n 3, 1) := by decide +kernel
theorem dX6_writeNumber_25 : decode cX6_writeNumber 25 = .ok (.lconst 1, 1) := by decide +kernel
theorem dX6_writeNumber_26 : decode cX6_writeNumber 26 = .ok (.lstore 5, 2) := by decide +kernel
theorem dX6_writeNumber_28 : decode cX6_writeNumber 28 = .ok (.lload_n 3, 1) := by decide +kernel
theorem dX6_writeNumber_29 : decode cX6_writeNumber 29 = .ok (.lload 5, 2) := by decide +kernel
theorem dX6_writeNumber_31 : decode cX6_writeNumber 31 = .ok (.ldiv, 1) := by decide +kernel
theorem dX6_writeNumber_32 : decode cX6_writeNumber 32 = .ok (.ldc2_w 143, 3) := by decide +kernel
theorem dX6_writeNumber_35 : decode cX6_writeNumber 35 = .ok (.lcmp, 1) := by decide +kernel
theorem dX6_writeNumber_36 : decode cX6_writeNumber 36 = .ok (.ifCond .le 14, 3) := by decide +kernel
theorem dX6_writeNumber_39 : decode cX6_writeNumber 39 = .ok (.lload 5, 2) := by decide +kernel
theorem dX6_writeNumber_41 : decode cX6_writeNumber 41 = .ok (.ldc2_w 145, 3) := by decide +kernel
theorem dX6_writeNumber_44 : decode cX6_writeNumber 44 = .ok (.lmul, 1) := by decide +kernel
theorem dX6_writeNumber_45 : decode cX6_writeNumber 45 = .ok (.lstore 5, 2) := by decide +kernel
theorem dX6_writeNumber_47 : decode cX6_writeNumber 47 = .ok (.goto (-19), 3) := by decide +kernel
theorem dX6_writeNumber_50 : decode cX6_writeNumber 50 = .ok (.lload 5, 2) := by decide +kernel
theorem dX6_writeNumber_52 : decode cX6_writeNumber 52 = .ok (.lconst 0, 1) := by decide +kernel
theorem dX6_writeNumber_53 : decode cX6_writeNumber 53 = .ok (.lcmp, 1) := by decide +kernel
theorem dX6_writeNumber_54 : decode cX6_writeNumber 54 = .ok (.ifCond .le 30, 3) := by decide +kernel
theorem dX6_writeNumber_57 : decode cX6_writeNumber 57 = .ok (.aload_n 0, 1) := by decide +kernel
theorem dX6_writeNumber_58 : decode cX6_writeNumber 58 = .ok (.bipush 48, 2) := by decide +kernel
theorem dX6_writeNumber_60 : decode cX6_writeNumber 60 = .ok (.lload_n 3, 1) := by decide +kernel
theorem dX6_writeNumber_61 : decode cX6_writeNumber 61 = .ok (.lload 5, 2) := by decide +kernel
theorem dX6_writeNumber_63 : decode cX6_writeNumber 63 = .ok (.ldiv, 1) := by decide +kernel
theorem dX6_writeNumber_64 : decode cX6_writeNumber 64 = .ok (.ldc2_w 145, 3) := by decide +kernel
theorem dX6_writeNumber_67 : decode cX6_writeNumber 67 = .ok (.lrem, 1) := by decide +kernel
theorem dX6_writeNumber_68 : decode cX6_writeNumber 68 = .ok (.l2i, 1) := by decide +kernel
theorem dX6_writeNumber_69 : decode cX6_writeNumber 69 = .ok (.iadd, 1) := by decide +kernel
theorem dX6_writeNumber_70 : decode cX6_writeNumber 70 = .ok (.invokevirtual 140, 3) := by decide +kernel
theorem dX6_writeNumber_73 : decode cX6_writeNumber 73 = .ok (.lload 5, 2) := by decide +kernel
theorem dX6_writeNumber_75 : decode cX6_writeNumber 75 = .ok (.ldc2_w 145, 3) := by decide +kernel
theorem dX6_writeNumber_78 : decode cX6_writeNumber 78 = .ok (.ldiv, 1) := by decide +kernel
theorem dX6_writeNumber_79 : decode cX6_writeNumber 79 = .ok (.lstore 5, 2) := by decide +kernel
theorem dX6_writeNumber_81 : decode cX6_writeNumber 81 = .ok (.goto (-31), 3) := by decide +kernel
theorem dX6_writeNumber_84 : decode cX6_writeNumber 84 = .ok (.return_, 1) := by decide +kernel
set_option maxRecDepth 20000 in
theorem ggX6_writeLine_X6_solve : GoodIn wsX6_writeLine wsX6_solve := goodIn_r _ [10, 11, 5, 12, 13, 14, 15, 16, 9, 17, 18, 19, 20, 21, 22, 23, 24, 25, 26, 27, 28, 29, 30, 31, 32, 33, 34, 35, 36, 37, 38, 39, 40, 41, 42, 43, 44, 45, 46, 47, 48, 49, 50, 51, 52, 53, 54, 55, 56, 57, 58, 59, 92, 93, 94, 95, 96, 97, 98, 99, 100, 101, 102, 103, 104, 105, 106, 107, 108] (by decide +kernel) (by decide +kernel)
set_option maxRecDepth 20000 in
theorem gX6_writeLine_X6_solve : GoodIn wsX6_writeLine (wsV RX6 147 RX6 yX6_solve wsX6_solve) := goodIn_app (goodIn_of _ (by decide +kernel)) ggX6_writeLine_X6_solve
set_option maxRecDepth 20000 in
theorem ggX6_writeLine_X6_write : GoodIn wsX6_writeLine wsX6_write := goodIn_r _ [63, 64, 1, 92, 93, 94, 95, 96, 97, 98, 99, 100, 101, 102, 103, 104, 105, 106, 107, 108] (by decide +kernel) (by decide +kernel)
set_option maxRecDepth 20000 in
theorem gX6_writeLine_X6_write : GoodIn wsX6_writeLine (wsV RX6 140 RX6 yX6_write wsX6_write) := goodIn_app (goodIn_of _ (by decide +kernel)) ggX6_writeLine_X6_write
set_option maxRecDepth 20000 in
theorem ggX6_writeLine_X6_overOf : GoodIn wsX6_writeLine wsX6_overOf := goodIn_r _ [68, 32, 5, 69, 70, 71, 9, 72, 12, 53, 54, 55, 56, 57, 58, 59, 92, 93, 94, 95, 96, 97, 98, 99, 100, 101, 102, 103, 104, 105, 106, 107, 108] (by decide +kernel) (by decide +kernel)
set_option maxRecDepth 20000 in
theorem gX6_writeLine_X6_overOf : GoodIn wsX6_writeLine (wsV RX6 120 RX6 yX6_overOf wsX6_overOf) := goodIn_app (goodIn_of _ (by decide +kernel)) ggX6_writeLine_X6_overOf
set_option maxRecDepth 20000 in
theorem ggX6_writeLine_X6_wide : GoodIn wsX6_writeLine wsX6_wide := goodIn_r _ [76, 2, 3, 4, 5, 32, 12, 92, 93, 94, 95, 96, 97, 98, 99, 100, 101, 102, 103, 104, 105, 106, 107, 108] (by decide +kernel) (by decide +kernel)
set_option maxRecDepth 20000 in
theorem gX6_writeLine_X6_wide : GoodIn wsX6_writeLine (wsV RX6 150 RX6 yX6_wide wsX6_wide) := goodIn_app (goodIn_of _ (by decide +kernel)) ggX6_writeLine_X6_wide
set_option maxRecDepth 20000 in
theorem ggX6_writeLine_X6_above : GoodIn wsX6_writeLine wsX6_above := goodIn_r _ [79, 80, 81, 9, 82] (by decide +kernel) (by decide +kernel)
set_option maxRecDepth 20000 in
theorem gX6_writeLine_X6_above : GoodIn wsX6_writeLine (va_wsS RX6 154 yX6_above wsX6_above) := goodIn_app (goodIn_of _ (by decide +kernel)) ggX6_writeLine_X6_above
set_option maxRecDepth 20000 in
theorem ggX6_writeLine_X6_writeNumber : GoodIn wsX6_writeLine wsX6_writeNumber := goodIn_r _ [86, 87, 88, 60, 61, 62, 9, 63, 64, 1, 92, 93, 94, 95, 96, 97, 98, 99, 100, 101, 102, 103, 104, 105, 106, 107, 108] (by decide +kernel) (by decide +kernel)
set_option maxRecDepth 20000 in
theorem gX6_writeLine_X6_writeNumber : GoodIn wsX6_writeLine (wsV RX6 157 RX6 yX6_writeNumber wsX6_writeNumber) := goodIn_app (goodIn_of _ (by decide +kernel)) ggX6_writeLine_X6_writeNumber
set_option maxRecDepth 20000 in
theorem ggX6_writeLine_X6_below : GoodIn wsX6_writeLine wsX6_below := goodIn_r _ [91, 80, 81, 9, 82] (by decide +kernel) (by decide +kernel)
set_option maxRecDepth 20000 in
theorem gX6_writeLine_X6_below : GoodIn wsX6_writeLine (va_wsS RX6 161 yX6_below wsX6_below) := goodIn_app (goodIn_of _ (by decide +kernel)) ggX6_writeLine_X6_below
theorem dX6_writeLine_0 : decode cX6_writeLine 0 = .ok (.aload_n 0, 1) := by decide +kernel
theorem dX6_writeLine_1 : decode cX6_writeLine 1 = .ok (.invokevirtual 147, 3) := by decide +kernel
theorem dX6_writeLine_4 : decode cX6_writeLine 4 = .ok (.aload_n 0, 1) := by decide +kernel
theorem dX6_writeLine_5 : decode cX6_writeLine 5 = .ok (.iconst 0, 1) := by decide +kernel
theorem dX6_writeLine_6 : decode cX6_writeLine 6 = .ok (.putfield 137, 3) := by decide +kernel
theorem dX6_writeLine_9 : decode cX6_writeLine 9 = .ok (.iconst 0, 1) := by decide +kernel
theorem dX6_writeLine_10 : decode cX6_writeLine 10 = .ok (.istore_n 1, 1) := by decide +kernel
theorem dX6_writeLine_11 : decode cX6_writeLine 11 = .ok (.iload_n 1, 1) := by decide +kernel
theorem dX6_writeLine_12 : decode cX6_writeLine 12 = .ok (.aload_n 0, 1) := by decide +kernel
theorem dX6_writeLine_13 : decode cX6_writeLine 13 = .ok (.getfield 51, 3) := by decide +kernel
theorem dX6_writeLine_16 : decode cX6_writeLine 16 = .ok (.if_icmp .ge 79, 3) := by decide +kernel
theorem dX6_writeLine_19 : decode cX6_writeLine 19 = .ok (.aload_n 0, 1) := by decide +kernel
theorem dX6_writeLine_20 : decode cX6_writeLine 20 = .ok (.bipush 97, 2) := by decide +kernel
theorem dX6_writeLine_22 : decode cX6_writeLine 22 = .ok (.aload_n 0, 1) := by decide +kernel
theorem dX6_writeLine_23 : decode cX6_writeLine 23 = .ok (.getfield 13, 3) := by decide +kernel
theorem dX6_writeLine_26 : decode cX6_writeLine 26 = .ok (.iload_n 1, 1) := by decide +kernel
theorem dX6_writeLine_27 : decode cX6_writeLine 27 = .ok (.iaload, 1) := by decide +kernel
theorem dX6_writeLine_28 : decode cX6_writeLine 28 = .ok (.iadd, 1) := by decide +kernel
theorem dX6_writeLine_29 : decode cX6_writeLine 29 = .ok (.invokevirtual 140, 3) := by decide +kernel
theorem dX6_writeLine_32 : decode cX6_writeLine 32 = .ok (.iload_n 1, 1) := by decide +kernel
theorem dX6_writeLine_33 : decode cX6_writeLine 33 = .ok (.iconst 1, 1) := by decide +kernel
theorem dX6_writeLine_34 : decode cX6_writeLine 34 = .ok (.iadd, 1) := by decide +kernel
theorem dX6_writeLine_35 : decode cX6_writeLine 35 = .ok (.aload_n 0, 1) := by decide +kernel
theorem dX6_writeLine_36 : decode cX6_writeLine 36 = .ok (.getfield 51, 3) := by decide +kernel
theorem dX6_writeLine_39 : decode cX6_writeLine 39 = .ok (.if_icmp .ge 50, 3) := by decide +kernel
theorem dX6_writeLine_42 : decode cX6_writeLine 42 = .ok (.aload_n 0, 1) := by decide +kernel
theorem dX6_writeLine_43 : decode cX6_writeLine 43 = .ok (.aload_n 0, 1) := by decide +kernel
theorem dX6_writeLine_44 : decode cX6_writeLine 44 = .ok (.getfield 13, 3) := by decide +kernel
theorem dX6_writeLine_47 : decode cX6_writeLine 47 = .ok (.iload_n 1, 1) := by decide +kernel
theorem dX6_writeLine_48 : decode cX6_writeLine 48 = .ok (.iaload, 1) := by decide +kernel
theorem dX6_writeLine_49 : decode cX6_writeLine 49 = .ok (.aload_n 0, 1) := by decide +kernel
theorem dX6_writeLine_50 : decode cX6_writeLine 50 = .ok (.getfield 13, 3) := by decide +kernel
theorem dX6_writeLine_53 : decode cX6_writeLine 53 = .ok (.iload_n 1, 1) := by decide +kernel
theorem dX6_writeLine_54 : decode cX6_writeLine 54 = .ok (.iconst 1, 1) := by decide +kernel
theorem dX6_writeLine_55 : decode cX6_writeLine 55 = .ok (.iadd, 1) := by decide +kernel
theorem dX6_writeLine_56 : decode cX6_writeLine 56 = .ok (.iaload, 1) := by decide +kernel
theorem dX6_writeLine_57 : decode cX6_writeLine 57 = .ok (.invokevirtual 120, 3) := by decide +kernel
theorem dX6_writeLine_60 : decode cX6_writeLine 60 = .ok (.lstore_n 2, 1) := by decide +kernel
theorem dX6_writeLine_61 : decode cX6_writeLine 61 = .ok (.aload_n 0, 1) := by decide +kernel
theorem dX6_writeLine_62 : decode cX6_writeLine 62 = .ok (.lload_n 2, 1) := by decide +kernel
theorem dX6_writeLine_63 : decode cX6_writeLine 63 = .ok (.lconst 0, 1) := by decide +kernel
theorem dX6_writeLine_64 : decode cX6_writeLine 64 = .ok (.lcmp, 1) := by decide +kernel
theorem dX6_writeLine_65 : decode cX6_writeLine 65 = .ok (.ifCond .le 8, 3) := by decide +kernel
theorem dX6_writeLine_68 : decode cX6_writeLine 68 = .ok (.bipush 43, 2) := by decide +kernel
theorem dX6_writeLine_70 : decode cX6_writeLine 70 = .ok (.goto 16, 3) := by decide +kernel
theorem dX6_writeLine_73 : decode cX6_writeLine 73 = .ok (.lload_n 2, 1) := by decide +kernel
theorem dX6_writeLine_74 : decode cX6_writeLine 74 = .ok (.lconst 0, 1) := by decide +kernel
theorem dX6_writeLine_75 : decode cX6_writeLine 75 = .ok (.lcmp, 1) := by decide +kernel
theorem dX6_writeLine_76 : decode cX6_writeLine 76 = .ok (.ifCond .ge 8, 3) := by decide +kernel
theorem dX6_writeLine_79 : decode cX6_writeLine 79 = .ok (.bipush 45, 2) := by decide +kernel
theorem dX6_writeLine_81 : decode cX6_writeLine 81 = .ok (.goto 5, 3) := by decide +kernel
theorem dX6_writeLine_84 : decode cX6_writeLine 84 = .ok (.bipush 61, 2) := by decide +kernel
theorem dX6_writeLine_86 : decode cX6_writeLine 86 = .ok (.invokevirtual 140, 3) := by decide +kernel
theorem dX6_writeLine_89 : decode cX6_writeLine 89 = .ok (.iinc 1 1, 3) := by decide +kernel
theorem dX6_writeLine_92 : decode cX6_writeLine 92 = .ok (.goto (-81), 3) := by decide +kernel
theorem dX6_writeLine_95 : decode cX6_writeLine 95 = .ok (.aload_n 0, 1) := by decide +kernel
theorem dX6_writeLine_96 : decode cX6_writeLine 96 = .ok (.bipush 58, 2) := by decide +kernel
theorem dX6_writeLine_98 : decode cX6_writeLine 98 = .ok (.invokevirtual 140, 3) := by decide +kernel
theorem dX6_writeLine_101 : decode cX6_writeLine 101 = .ok (.aload_n 0, 1) := by decide +kernel
theorem dX6_writeLine_102 : decode cX6_writeLine 102 = .ok (.aload_n 0, 1) := by decide +kernel
theorem dX6_writeLine_103 : decode cX6_writeLine 103 = .ok (.invokevirtual 150, 3) := by decide +kernel
theorem dX6_writeLine_106 : decode cX6_writeLine 106 = .ok (.ldc2_w 125, 3) := by decide +kernel
theorem dX6_writeLine_109 : decode cX6_writeLine 109 = .ok (.aload_n 0, 1) := by decide +kernel
theorem dX6_writeLine_110 : decode cX6_writeLine 110 = .ok (.getfield 112, 3) := by decide +kernel
theorem dX6_writeLine_113 : decode cX6_writeLine 113 = .ok (.lmul, 1) := by decide +kernel
theorem dX6_writeLine_114 : decode cX6_writeLine 114 = .ok (.invokestatic 154, 3) := by decide +kernel
theorem dX6_writeLine_117 : decode cX6_writeLine 117 = .ok (.invokevirtual 157, 3) := by decide +kernel
theorem dX6_writeLine_120 : decode cX6_writeLine 120 = .ok (.aload_n 0, 1) := by decide +kernel
theorem dX6_writeLine_121 : decode cX6_writeLine 121 = .ok (.bipush 47, 2) := by decide +kernel
theorem dX6_writeLine_123 : decode cX6_writeLine 123 = .ok (.invokevirtual 140, 3) := by decide +kernel
theorem dX6_writeLine_126 : decode cX6_writeLine 126 = .ok (.aload_n 0, 1) := by decide +kernel
theorem dX6_writeLine_127 : decode cX6_writeLine 127 = .ok (.aload_n 0, 1) := by decide +kernel
theorem dX6_writeLine_128 : decode cX6_writeLine 128 = .ok (.invokevirtual 150, 3) := by decide +kernel
theorem dX6_writeLine_131 : decode cX6_writeLine 131 = .ok (.ldc2_w 125, 3) := by decide +kernel
theorem dX6_writeLine_134 : decode cX6_writeLine 134 = .ok (.aload_n 0, 1) := by decide +kernel
theorem dX6_writeLine_135 : decode cX6_writeLine 135 = .ok (.getfield 112, 3) := by decide +kernel
theorem dX6_writeLine_138 : decode cX6_writeLine 138 = .ok (.lmul, 1) := by decide +kernel
theorem dX6_writeLine_139 : decode cX6_writeLine 139 = .ok (.invokestatic 161, 3) := by decide +kernel
theorem dX6_writeLine_142 : decode cX6_writeLine 142 = .ok (.invokevirtual 157, 3) := by decide +kernel
theorem dX6_writeLine_145 : decode cX6_writeLine 145 = .ok (.return_, 1) := by decide +kernel
set_option maxRecDepth 20000 in
theorem ggX6_told_X6_solve : GoodIn wsX6_told wsX6_solve := goodIn_r _ [12, 13, 2, 14, 15, 16, 17, 18, 11, 19, 20, 21, 22, 23, 24, 25, 26, 27, 28, 29, 30, 31, 32, 33, 1, 34, 35, 36, 37, 38, 39, 40, 41, 42, 43, 44, 45, 46, 47, 48, 49, 50, 51, 52, 53, 54, 55, 56, 57, 58, 59, 60, 119, 120, 121, 122, 123, 124, 125, 126, 127, 128, 129, 130, 131, 132, 133, 134, 135] (by decide +kernel) (by decide +kernel)
set_option maxRecDepth 20000 in
theorem gX6_told_X6_solve : GoodIn wsX6_told (wsV RX6 147 RX6 yX6_solve wsX6_solve) := goodIn_app (goodIn_of _ (by decide +kernel)) ggX6_told_X6_solve
set_option maxRecDepth 20000 in
theorem ggX6_told_X6_writeLine : GoodIn wsX6_told wsX6_writeLine := goodIn_r _ [64, 5, 3, 65, 4, 2, 8, 9, 10, 11, 12, 13, 14, 15, 16, 17, 18, 19, 20, 21, 22, 23, 24, 25, 26, 27, 28, 29, 30, 31, 32, 33, 1, 34, 35, 36, 37, 38, 39, 40, 41, 42, 43, 44, 45, 46, 47, 48, 49, 50, 51, 52, 53, 54, 55, 56, 57, 58, 59, 60, 66, 67, 68, 69, 70, 71, 72, 73, 74, 75, 76, 77, 78, 79, 80, 81, 82, 83, 84, 85, 86, 87, 88, 89, 90, 91, 92, 93, 94, 95, 96, 97, 119, 120, 121, 122, 123, 124, 125, 126, 127, 128, 129, 130, 131, 132, 133, 134, 135] (by decide +kernel) (by decide +kernel)
set_option maxRecDepth 20000 in
theorem gX6_told_X6_writeLine : GoodIn wsX6_told (wsV RX6 164 RX6 yX6_writeLine wsX6_writeLine) := goodIn_app (goodIn_of _ (by decide +kernel)) ggX6_told_X6_writeLine
set_option maxRecDepth 20000 in
theorem ggX6_told_X6_weighted : GoodIn wsX6_told wsX6_weighted := goodIn_r _ [101, 26, 27, 28, 11, 29, 30, 31, 32, 33, 1, 34, 35, 36, 37, 119, 120, 121, 122, 123, 124, 125, 126, 127, 128, 129, 130, 131, 132, 133, 134, 135] (by decide +kernel) (by decide +kernel)
set_option maxRecDepth 20000 in
theorem gX6_told_X6_weighted : GoodIn wsX6_told (wsV RX6 167 RX6 yX6_weighted wsX6_weighted) := goodIn_app (goodIn_of _ (by decide +kernel)) ggX6_told_X6_weighted
set_option maxRecDepth 20000 in
theorem ggX6_told_X6_worst : GoodIn wsX6_told wsX6_worst := goodIn_r _ [105, 106, 26, 27, 28, 11, 29, 30, 31, 32, 33, 1, 34, 35, 36, 37, 71, 72, 73, 74, 2, 75, 76, 77, 78, 14, 54, 55, 56, 57, 58, 59, 60, 119, 120, 121, 122, 123, 124, 125, 126, 127, 128, 129, 130, 131, 132, 133, 134, 135] (by decide +kernel) (by decide +kernel)
set_option maxRecDepth 20000 in
theorem gX6_told_X6_worst : GoodIn wsX6_told (wsV RX6 170 RX6 yX6_worst wsX6_worst) := goodIn_app (goodIn_of _ (by decide +kernel)) ggX6_told_X6_worst
set_option maxRecDepth 20000 in
theorem ggX6_told_X6_squares : GoodIn wsX6_told wsX6_squares := goodIn_r _ [110, 26, 27, 28, 11, 29, 30, 31, 32, 33, 1, 34, 35, 36, 37, 71, 72, 73, 74, 2, 75, 76, 77, 78, 14, 54, 55, 56, 57, 58, 59, 60, 119, 120, 121, 122, 123, 124, 125, 126, 127, 128, 129, 130, 131, 132, 133, 134, 135] (by decide +kernel) (by decide +kernel)
set_option maxRecDepth 20000 in
theorem gX6_told_X6_squares : GoodIn wsX6_told (wsV RX6 173 RX6 yX6_squares wsX6_squares) := goodIn_app (goodIn_of _ (by decide +kernel)) ggX6_told_X6_squares
set_option maxRecDepth 20000 in
theorem ggX6_told_X6_above : GoodIn wsX6_told wsX6_above := goodIn_r _ [85, 86, 87, 11, 88] (by decide +kernel) (by decide +kernel)
set_option maxRecDepth 20000 in
theorem gX6_told_X6_above : GoodIn wsX6_told (va_wsS RX6 154 yX6_above wsX6_above) := goodIn_app (goodIn_of _ (by decide +kernel)) ggX6_told_X6_above
set_option maxRecDepth 20000 in
theorem ggX6_told_X6_below : GoodIn wsX6_told wsX6_below := goodIn_r _ [97, 86, 87, 11, 88] (by decide +kernel) (by decide +kernel)
set_option maxRecDepth 20000 in
theorem gX6_told_X6_below : GoodIn wsX6_told (va_wsS RX6 161 yX6_below wsX6_below) := goodIn_app (goodIn_of _ (by decide +kernel)) ggX6_told_X6_below
set_option maxRecDepth 20000 in
theorem ggX6_told_X6_openOnes : GoodIn wsX6_told wsX6_openOnes := goodIn_r _ [114, 21, 30, 31, 32, 11, 33, 1, 119, 120, 121, 122, 123, 124, 125, 126, 127, 128, 129, 130, 131, 132, 133, 134, 135] (by decide +kernel) (by decide +kernel)
set_option maxRecDepth 20000 in
theorem gX6_told_X6_openOnes : GoodIn wsX6_told (wsV RX6 176 RX6 yX6_openOnes wsX6_openOnes) := goodIn_app (goodIn_of _ (by decide +kernel)) ggX6_told_X6_openOnes
set_option maxRecDepth 20000 in
theorem ggX6_told_X6_wide : GoodIn wsX6_told wsX6_wide := goodIn_r _ [82, 3, 65, 4, 2, 1, 14, 119, 120, 121, 122, 123, 124, 125, 126, 127, 128, 129, 130, 131, 132, 133, 134, 135] (by decide +kernel) (by decide +kernel)
set_option maxRecDepth 20000 in
theorem gX6_told_X6_wide : GoodIn wsX6_told (wsV RX6 150 RX6 yX6_wide wsX6_wide) := goodIn_app (goodIn_of _ (by decide +kernel)) ggX6_told_X6_wide
set_option maxRecDepth 20000 in
theorem ggX6_told_X6_thin : GoodIn wsX6_told wsX6_thin := goodIn_r _ [118, 3, 65, 75, 76, 77, 11, 78, 2, 14, 54, 55, 56, 57, 1, 58, 59, 60, 119, 120, 121, 122, 123, 124, 125, 126, 127, 128, 129, 130, 131, 132, 133, 134, 135] (by decide +kernel) (by decide +kernel)
set_option maxRecDepth 20000 in
theorem gX6_told_X6_thin : GoodIn wsX6_told (wsV RX6 179 RX6 yX6_thin wsX6_thin) := goodIn_app (goodIn_of _ (by decide +kernel)) ggX6_told_X6_thin
theorem dX6_told_0 : decode cX6_told 0 = .ok (.aload_n 0, 1) := by decide +kernel
theorem dX6_told_1 : decode cX6_told 1 = .ok (.invokevirtual 147, 3) := by decide +kernel
theorem dX6_told_4 : decode cX6_told 4 = .ok (.aload_n 0, 1) := by decide +kernel
theorem dX6_told_5 : decode cX6_told 5 = .ok (.invokevirtual 164, 3) := by decide +kernel
theorem dX6_told_8 : decode cX6_told 8 = .ok (.iload_n 1, 1) := by decide +kernel
theorem dX6_told_9 : decode cX6_told 9 = .ok (.tableswitch 206 0 13 #[71, 80, 89, 98, 104, 110, 127, 144, 150, 156, 172, 188, 194, 200], 71) := by decide +kernel
theorem dX6_told_80 : decode cX6_told 80 = .ok (.aload_n 0, 1) := by decide +kernel
theorem dX6_told_81 : decode cX6_told 81 = .ok (.getfield 7, 3) := by decide +kernel
theorem dX6_told_84 : decode cX6_told 84 = .ok (.bipush 60, 2) := by decide +kernel
theorem dX6_told_86 : decode cX6_told 86 = .ok (.iaload, 1) := by decide +kernel
theorem dX6_told_87 : decode cX6_told 87 = .ok (.i2l, 1) := by decide +kernel
theorem dX6_told_88 : decode cX6_told 88 = .ok (.lreturn, 1) := by decide +kernel
theorem dX6_told_89 : decode cX6_told 89 = .ok (.aload_n 0, 1) := by decide +kernel
theorem dX6_told_90 : decode cX6_told 90 = .ok (.getfield 7, 3) := by decide +kernel
theorem dX6_told_93 : decode cX6_told 93 = .ok (.bipush 61, 2) := by decide +kernel
theorem dX6_told_95 : decode cX6_told 95 = .ok (.iaload, 1) := by decide +kernel
theorem dX6_told_96 : decode cX6_told 96 = .ok (.i2l, 1) := by decide +kernel
theorem dX6_told_97 : decode cX6_told 97 = .ok (.lreturn, 1) := by decide +kernel
theorem dX6_told_98 : decode cX6_told 98 = .ok (.aload_n 0, 1) := by decide +kernel
theorem dX6_told_99 : decode cX6_told 99 = .ok (.getfield 7, 3) := by decide +kernel
theorem dX6_told_102 : decode cX6_told 102 = .ok (.bipush 62, 2) := by decide +kernel
theorem dX6_told_104 : decode cX6_told 104 = .ok (.iaload, 1) := by decide +kernel
theorem dX6_told_105 : decode cX6_told 105 = .ok (.i2l, 1) := by decide +kernel
theorem dX6_told_106 : decode cX6_told 106 = .ok (.lreturn, 1) := by decide +kernel
theorem dX6_told_107 : decode cX6_told 107 = .ok (.aload_n 0, 1) := by decide +kernel
theorem dX6_told_108 : decode cX6_told 108 = .ok (.invokevirtual 167, 3) := by decide +kernel
theorem dX6_told_111 : decode cX6_told 111 = .ok (.i2l, 1) := by decide +kernel
theorem dX6_told_112 : decode cX6_told 112 = .ok (.lreturn, 1) := by decide +kernel
theorem dX6_told_113 : decode cX6_told 113 = .ok (.aload_n 0, 1) := by decide +kernel
theorem dX6_told_114 : decode cX6_told 114 = .ok (.invokevirtual 170, 3) := by decide +kernel
theorem dX6_told_117 : decode cX6_told 117 = .ok (.i2l, 1) := by decide +kernel
theorem dX6_told_118 : decode cX6_told 118 = .ok (.lreturn, 1) := by decide +kernel
theorem dX6_told_119 : decode cX6_told 119 = .ok (.aload_n 0, 1) := by decide +kernel
theorem dX6_told_120 : decode cX6_told 120 = .ok (.invokevirtual 173, 3) := by decide +kernel
theorem dX6_told_123 : decode cX6_told 123 = .ok (.aload_n 0, 1) := by decide +kernel
theorem dX6_told_124 : decode cX6_told 124 = .ok (.getfield 112, 3) := by decide +kernel
theorem dX6_told_127 : decode cX6_told 127 = .ok (.aload_n 0, 1) := by decide +kernel
theorem dX6_told_128 : decode cX6_told 128 = .ok (.getfield 112, 3) := by decide +kernel
theorem dX6_told_131 : decode cX6_told 131 = .ok (.lmul, 1) := by decide +kernel
theorem dX6_told_132 : decode cX6_told 132 = .ok (.invokestatic 154, 3) := by decide +kernel
theorem dX6_told_135 : decode cX6_told 135 = .ok (.lreturn, 1) := by decide +kernel
theorem dX6_told_136 : decode cX6_told 136 = .ok (.aload_n 0, 1) := by decide +kernel
theorem dX6_told_137 : decode cX6_told 137 = .ok (.invokevirtual 173, 3) := by decide +kernel
theorem dX6_told_140 : decode cX6_told 140 = .ok (.aload_n 0, 1) := by decide +kernel
theorem dX6_told_141 : decode cX6_told 141 = .ok (.getfield 112, 3) := by decide +kernel
theorem dX6_told_144 : decode cX6_told 144 = .ok (.aload_n 0, 1) := by decide +kernel
theorem dX6_told_145 : decode cX6_told 145 = .ok (.getfield 112, 3) := by decide +kernel
theorem dX6_told_148 : decode cX6_told 148 = .ok (.lmul, 1) := by decide +kernel
theorem dX6_told_149 : decode cX6_told 149 = .ok (.invokestatic 161, 3) := by decide +kernel
theorem dX6_told_152 : decode cX6_told 152 = .ok (.lreturn, 1) := by decide +kernel
theorem dX6_told_153 : decode cX6_told 153 = .ok (.aload_n 0, 1) := by decide +kernel
theorem dX6_told_154 : decode cX6_told 154 = .ok (.invokevirtual 176, 3) := by decide +kernel
theorem dX6_told_157 : decode cX6_told 157 = .ok (.i2l, 1) := by decide +kernel
theorem dX6_told_158 : decode cX6_told 158 = .ok (.lreturn, 1) := by decide +kernel
theorem dX6_told_159 : decode cX6_told 159 = .ok (.aload_n 0, 1) := by decide +kernel
theorem dX6_told_160 : decode cX6_told 160 = .ok (.getfield 51, 3) := by decide +kernel
theorem dX6_told_163 : decode cX6_told 163 = .ok (.i2l, 1) := by decide +kernel
theorem dX6_told_164 : decode cX6_told 164 = .ok (.lreturn, 1) := by decide +kernel
theorem dX6_told_165 : decode cX6_told 165 = .ok (.aload_n 0, 1) := by decide +kernel
theorem dX6_told_166 : decode cX6_told 166 = .ok (.invokevirtual 150, 3) := by decide +kernel
theorem dX6_told_169 : decode cX6_told 169 = .ok (.ldc2_w 125, 3) := by decide +kernel
theorem dX6_told_172 : decode cX6_told 172 = .ok (.aload_n 0, 1) := by decide +kernel
theorem dX6_told_173 : decode cX6_told 173 = .ok (.getfield 112, 3) := by decide +kernel
theorem dX6_told_176 : decode cX6_told 176 = .ok (.lmul, 1) := by decide +kernel
theorem dX6_told_177 : decode cX6_told 177 = .ok (.invokestatic 154, 3) := by decide +kernel
theorem dX6_told_180 : decode cX6_told 180 = .ok (.lreturn, 1) := by decide +kernel
theorem dX6_told_181 : decode cX6_told 181 = .ok (.aload_n 0, 1) := by decide +kernel
theorem dX6_told_182 : decode cX6_told 182 = .ok (.invokevirtual 150, 3) := by decide +kernel
theorem dX6_told_185 : decode cX6_told 185 = .ok (.ldc2_w 125, 3) := by decide +kernel
theorem dX6_told_188 : decode cX6_told 188 = .ok (.aload_n 0, 1) := by decide +kernel
theorem dX6_told_189 : decode cX6_told 189 = .ok (.getfield 112, 3) := by decide +kernel
theorem dX6_told_192 : decode cX6_told 192 = .ok (.lmul, 1) := by decide +kernel
theorem dX6_told_193 : decode cX6_told 193 = .ok (.invokestatic 161, 3) := by decide +kernel
theorem dX6_told_196 : decode cX6_told 196 = .ok (.lreturn, 1) := by decide +kernel
theorem dX6_told_197 : decode cX6_told 197 = .ok (.aload_n 0, 1) := by decide +kernel
theorem dX6_told_198 : decode cX6_told 198 = .ok (.invokevirtual 179, 3) := by decide +kernel
theorem dX6_told_201 : decode cX6_told 201 = .ok (.i2l, 1) := by decide +kernel
theorem dX6_told_202 : decode cX6_told 202 = .ok (.lreturn, 1) := by decide +kernel
theorem dX6_told_203 : decode cX6_told 203 = .ok (.aload_n 0, 1) := by decide +kernel
theorem dX6_told_204 : decode cX6_told 204 = .ok (.getfield 137, 3) := by decide +kernel
theorem dX6_told_207 : decode cX6_told 207 = .ok (.i2l, 1) := by decide +kernel
theorem dX6_told_208 : decode cX6_told 208 = .ok (.lreturn, 1) := by decide +kernel
theorem dX6_told_209 : decode cX6_told 209 = .ok (.aload_n 0, 1) := by decide +kernel
theorem dX6_told_210 : decode cX6_told 210 = .ok (.getfield 182, 3) := by decide +kernel
theorem dX6_told_213 : decode cX6_told 213 = .ok (.i2l, 1) := by decide +kernel
theorem dX6_told_214 : decode cX6_told 214 = .ok (.lreturn, 1) := by decide +kernel
theorem dX6_told_215 : decode cX6_told 215 = .ok (.ldc2_w 185, 3) := by decide +kernel
theorem dX6_told_218 : decode cX6_told 218 = .ok (.lreturn, 1) := by decide +kernel
set_option maxRecDepth 20000 in
theorem ggX6_isAlike_X6_at : GoodIn wsX6_isAlike wsX6_at := goodIn_r _ [5] (by decide +kernel) (by decide +kernel)
set_option maxRecDepth 20000 in
theorem gX6_isAlike_X6_at : GoodIn wsX6_isAlike (va_wsS RX6 69 yX6_at wsX6_at) := goodIn_app (goodIn_of _ (by decide +kernel)) ggX6_isAlike_X6_at
theorem dX6_isAlike_0 : decode cX6_isAlike 0 = .ok (.iconst 1, 1) := by decide +kernel
theorem dX6_isAlike_1 : decode cX6_isAlike 1 = .ok (.istore_n 2, 1) := by decide +kernel
theorem dX6_isAlike_2 : decode cX6_isAlike 2 = .ok (.iconst 0, 1) := by decide +kernel
theorem dX6_isAlike_3 : decode cX6_isAlike 3 = .ok (.istore_n 3, 1) := by decide +kernel
theorem dX6_isAlike_4 : decode cX6_isAlike 4 = .ok (.iload_n 3, 1) := by decide +kernel
theorem dX6_isAlike_5 : decode cX6_isAlike 5 = .ok (.bipush 8, 2) := by decide +kernel
theorem dX6_isAlike_7 : decode cX6_isAlike 7 = .ok (.if_icmp .ge 44, 3) := by decide +kernel
theorem dX6_isAlike_10 : decode cX6_isAlike 10 = .ok (.iload_n 2, 1) := by decide +kernel
theorem dX6_isAlike_11 : decode cX6_isAlike 11 = .ok (.ifCond .eq 32, 3) := by decide +kernel
theorem dX6_isAlike_14 : decode cX6_isAlike 14 = .ok (.aload_n 0, 1) := by decide +kernel
theorem dX6_isAlike_15 : decode cX6_isAlike 15 = .ok (.getfield 7, 3) := by decide +kernel
theorem dX6_isAlike_18 : decode cX6_isAlike 18 = .ok (.iload_n 1, 1) := by decide +kernel
theorem dX6_isAlike_19 : decode cX6_isAlike 19 = .ok (.iconst 0, 1) := by decide +kernel
theorem dX6_isAlike_20 : decode cX6_isAlike 20 = .ok (.iload_n 3, 1) := by decide +kernel
theorem dX6_isAlike_21 : decode cX6_isAlike 21 = .ok (.invokestatic 69, 3) := by decide +kernel
theorem dX6_isAlike_24 : decode cX6_isAlike 24 = .ok (.iaload, 1) := by decide +kernel
theorem dX6_isAlike_25 : decode cX6_isAlike 25 = .ok (.aload_n 0, 1) := by decide +kernel
theorem dX6_isAlike_26 : decode cX6_isAlike 26 = .ok (.getfield 7, 3) := by decide +kernel
theorem dX6_isAlike_29 : decode cX6_isAlike 29 = .ok (.iload_n 1, 1) := by decide +kernel
theorem dX6_isAlike_30 : decode cX6_isAlike 30 = .ok (.iconst 1, 1) := by decide +kernel
theorem dX6_isAlike_31 : decode cX6_isAlike 31 = .ok (.iload_n 3, 1) := by decide +kernel
theorem dX6_isAlike_32 : decode cX6_isAlike 32 = .ok (.invokestatic 69, 3) := by decide +kernel
theorem dX6_isAlike_35 : decode cX6_isAlike 35 = .ok (.iaload, 1) := by decide +kernel
theorem dX6_isAlike_36 : decode cX6_isAlike 36 = .ok (.if_icmp .ne 7, 3) := by decide +kernel
theorem dX6_isAlike_39 : decode cX6_isAlike 39 = .ok (.iconst 1, 1) := by decide +kernel
theorem dX6_isAlike_40 : decode cX6_isAlike 40 = .ok (.goto 4, 3) := by decide +kernel
theorem dX6_isAlike_43 : decode cX6_isAlike 43 = .ok (.iconst 0, 1) := by decide +kernel
theorem dX6_isAlike_44 : decode cX6_isAlike 44 = .ok (.istore_n 2, 1) := by decide +kernel
theorem dX6_isAlike_45 : decode cX6_isAlike 45 = .ok (.iinc 3 1, 3) := by decide +kernel
theorem dX6_isAlike_48 : decode cX6_isAlike 48 = .ok (.goto (-44), 3) := by decide +kernel
theorem dX6_isAlike_51 : decode cX6_isAlike 51 = .ok (.iload_n 2, 1) := by decide +kernel
theorem dX6_isAlike_52 : decode cX6_isAlike 52 = .ok (.ireturn, 1) := by decide +kernel
set_option maxRecDepth 20000 in
theorem ggX6_sumOf_X6_at : GoodIn wsX6_sumOf wsX6_at := goodIn_r _ [5] (by decide +kernel) (by decide +kernel)
set_option maxRecDepth 20000 in
theorem gX6_sumOf_X6_at : GoodIn wsX6_sumOf (va_wsS RX6 69 yX6_at wsX6_at) := goodIn_app (goodIn_of _ (by decide +kernel)) ggX6_sumOf_X6_at
theorem dX6_sumOf_0 : decode cX6_sumOf 0 = .ok (.iconst 0, 1) := by decide +kernel
theorem dX6_sumOf_1 : decode cX6_sumOf 1 = .ok (.istore_n 3, 1) := by decide +kernel
theorem dX6_sumOf_2 : decode cX6_sumOf 2 = .ok (.iconst 0, 1) := by decide +kernel
theorem dX6_sumOf_3 : decode cX6_sumOf 3 = .ok (.istore 4, 2) := by decide +kernel
theorem dX6_sumOf_5 : decode cX6_sumOf 5 = .ok (.iload 4, 2) := by decide +kernel
theorem dX6_sumOf_7 : decode cX6_sumOf 7 = .ok (.bipush 8, 2) := by decide +kernel
theorem dX6_sumOf_9 : decode cX6_sumOf 9 = .ok (.if_icmp .ge 24, 3) := by decide +kernel
theorem dX6_sumOf_12 : decode cX6_sumOf 12 = .ok (.iload_n 3, 1) := by decide +kernel
theorem dX6_sumOf_13 : decode cX6_sumOf 13 = .ok (.aload_n 0, 1) := by decide +kernel
theorem dX6_sumOf_14 : decode cX6_sumOf 14 = .ok (.getfield 7, 3) := by decide +kernel
theorem dX6_sumOf_17 : decode cX6_sumOf 17 = .ok (.iload_n 1, 1) := by decide +kernel
theorem dX6_sumOf_18 : decode cX6_sumOf 18 = .ok (.iload_n 2, 1) := by decide +kernel
theorem dX6_sumOf_19 : decode cX6_sumOf 19 = .ok (.iload 4, 2) := by decide +kernel
theorem dX6_sumOf_21 : decode cX6_sumOf 21 = .ok (.invokestatic 69, 3) := by decide +kernel
theorem dX6_sumOf_24 : decode cX6_sumOf 24 = .ok (.iaload, 1) := by decide +kernel
theorem dX6_sumOf_25 : decode cX6_sumOf 25 = .ok (.iadd, 1) := by decide +kernel
theorem dX6_sumOf_26 : decode cX6_sumOf 26 = .ok (.istore_n 3, 1) := by decide +kernel
theorem dX6_sumOf_27 : decode cX6_sumOf 27 = .ok (.iinc 4 1, 3) := by decide +kernel
theorem dX6_sumOf_30 : decode cX6_sumOf 30 = .ok (.goto (-25), 3) := by decide +kernel
theorem dX6_sumOf_33 : decode cX6_sumOf 33 = .ok (.iload_n 3, 1) := by decide +kernel
theorem dX6_sumOf_34 : decode cX6_sumOf 34 = .ok (.ireturn, 1) := by decide +kernel
set_option maxRecDepth 20000 in
theorem ggX6_letter_X6_isLetter : GoodIn wsX6_letter wsX6_isLetter := goodIn_r _ [8, 2, 9, 10, 7, 11, 23, 24, 25, 26, 27, 28, 29, 30, 31, 32, 33, 34, 35, 36, 37, 38, 39] (by decide +kernel) (by decide +kernel)
set_option maxRecDepth 20000 in
theorem gX6_letter_X6_isLetter : GoodIn wsX6_letter (wsV RX6 187 RX6 yX6_isLetter wsX6_isLetter) := goodIn_app (goodIn_of _ (by decide +kernel)) ggX6_letter_X6_isLetter
set_option maxRecDepth 20000 in
theorem ggX6_letter_X6_isAlike : GoodIn wsX6_letter wsX6_isAlike := goodIn_r _ [15, 2, 16, 17, 7, 18, 23, 24, 25, 26, 27, 28, 29, 30, 31, 32, 33, 34, 35, 36, 37, 38, 39] (by decide +kernel) (by decide +kernel)
set_option maxRecDepth 20000 in
theorem gX6_letter_X6_isAlike : GoodIn wsX6_letter (wsV RX6 191 RX6 yX6_isAlike wsX6_isAlike) := goodIn_app (goodIn_of _ (by decide +kernel)) ggX6_letter_X6_isAlike
set_option maxRecDepth 20000 in
theorem ggX6_letter_X6_sumOf : GoodIn wsX6_letter wsX6_sumOf := goodIn_r _ [22, 2, 16, 17, 7, 18, 23, 24, 25, 26, 27, 28, 29, 30, 31, 32, 33, 34, 35, 36, 37, 38, 39] (by decide +kernel) (by decide +kernel)
set_option maxRecDepth 20000 in
theorem gX6_letter_X6_sumOf : GoodIn wsX6_letter (wsV RX6 194 RX6 yX6_sumOf wsX6_sumOf) := goodIn_app (goodIn_of _ (by decide +kernel)) ggX6_letter_X6_sumOf
theorem dX6_letter_0 : decode cX6_letter 0 = .ok (.aload_n 0, 1) := by decide +kernel
theorem dX6_letter_1 : decode cX6_letter 1 = .ok (.iload_n 1, 1) := by decide +kernel
theorem dX6_letter_2 : decode cX6_letter 2 = .ok (.invokevirtual 187, 3) := by decide +kernel
theorem dX6_letter_5 : decode cX6_letter 5 = .ok (.ifCond .ne 6, 3) := by decide +kernel
theorem dX6_letter_8 : decode cX6_letter 8 = .ok (.ldc 190, 2) := by decide +kernel
theorem dX6_letter_10 : decode cX6_letter 10 = .ok (.ireturn, 1) := by decide +kernel
theorem dX6_letter_11 : decode cX6_letter 11 = .ok (.iload_n 2, 1) := by decide +kernel
theorem dX6_letter_12 : decode cX6_letter 12 = .ok (.tableswitch 70 0 3 #[32, 42, 56, 63], 32) := by decide +kernel
theorem dX6_letter_44 : decode cX6_letter 44 = .ok (.aload_n 0, 1) := by decide +kernel
theorem dX6_letter_45 : decode cX6_letter 45 = .ok (.getfield 7, 3) := by decide +kernel
theorem dX6_letter_48 : decode cX6_letter 48 = .ok (.bipush 48, 2) := by decide +kernel
theorem dX6_letter_50 : decode cX6_letter 50 = .ok (.iload_n 1, 1) := by decide +kernel
theorem dX6_letter_51 : decode cX6_letter 51 = .ok (.iadd, 1) := by decide +kernel
theorem dX6_letter_52 : decode cX6_letter 52 = .ok (.iaload, 1) := by decide +kernel
theorem dX6_letter_53 : decode cX6_letter 53 = .ok (.ireturn, 1) := by decide +kernel
theorem dX6_letter_54 : decode cX6_letter 54 = .ok (.aload_n 0, 1) := by decide +kernel
theorem dX6_letter_55 : decode cX6_letter 55 = .ok (.iload_n 1, 1) := by decide +kernel
theorem dX6_letter_56 : decode cX6_letter 56 = .ok (.invokevirtual 191, 3) := by decide +kernel
theorem dX6_letter_59 : decode cX6_letter 59 = .ok (.ifCond .eq 7, 3) := by decide +kernel
theorem dX6_letter_62 : decode cX6_letter 62 = .ok (.iconst 1, 1) := by decide +kernel
theorem dX6_letter_63 : decode cX6_letter 63 = .ok (.goto 4, 3) := by decide +kernel
theorem dX6_letter_66 : decode cX6_letter 66 = .ok (.iconst 0, 1) := by decide +kernel
theorem dX6_letter_67 : decode cX6_letter 67 = .ok (.ireturn, 1) := by decide +kernel
theorem dX6_letter_68 : decode cX6_letter 68 = .ok (.aload_n 0, 1) := by decide +kernel
theorem dX6_letter_69 : decode cX6_letter 69 = .ok (.iload_n 1, 1) := by decide +kernel
theorem dX6_letter_70 : decode cX6_letter 70 = .ok (.iconst 0, 1) := by decide +kernel
theorem dX6_letter_71 : decode cX6_letter 71 = .ok (.invokevirtual 194, 3) := by decide +kernel
theorem dX6_letter_74 : decode cX6_letter 74 = .ok (.ireturn, 1) := by decide +kernel
theorem dX6_letter_75 : decode cX6_letter 75 = .ok (.aload_n 0, 1) := by decide +kernel
theorem dX6_letter_76 : decode cX6_letter 76 = .ok (.iload_n 1, 1) := by decide +kernel
theorem dX6_letter_77 : decode cX6_letter 77 = .ok (.iconst 1, 1) := by decide +kernel
theorem dX6_letter_78 : decode cX6_letter 78 = .ok (.invokevirtual 194, 3) := by decide +kernel
theorem dX6_letter_81 : decode cX6_letter 81 = .ok (.ireturn, 1) := by decide +kernel
theorem dX6_letter_82 : decode cX6_letter 82 = .ok (.ldc 197, 2) := by decide +kernel
theorem dX6_letter_84 : decode cX6_letter 84 = .ok (.ireturn, 1) := by decide +kernel
set_option maxRecDepth 20000 in
theorem ggX6_back_X6_isLetter : GoodIn wsX6_back wsX6_isLetter := goodIn_r _ [8, 2, 9, 10, 7, 11, 22, 23, 24, 25, 26, 27, 28, 29, 30, 31, 32, 33, 34, 35, 36, 37, 38] (by decide +kernel) (by decide +kernel)
set_option maxRecDepth 20000 in
theorem gX6_back_X6_isLetter : GoodIn wsX6_back (wsV RX6 187 RX6 yX6_isLetter wsX6_isLetter) := goodIn_app (goodIn_of _ (by decide +kernel)) ggX6_back_X6_isLetter
set_option maxRecDepth 20000 in
theorem ggX6_back_X6_isHeight : GoodIn wsX6_back wsX6_isHeight := goodIn_r _ [14, 15, 9, 10, 7, 11] (by decide +kernel) (by decide +kernel)
set_option maxRecDepth 20000 in
theorem gX6_back_X6_isHeight : GoodIn wsX6_back (va_wsS RX6 198 yX6_isHeight wsX6_isHeight) := goodIn_app (goodIn_of _ (by decide +kernel)) ggX6_back_X6_isHeight
set_option maxRecDepth 20000 in
theorem ggX6_back_X6_isSide : GoodIn wsX6_back wsX6_isSide := goodIn_r _ [18, 9, 10, 7, 11] (by decide +kernel) (by decide +kernel)
set_option maxRecDepth 20000 in
theorem gX6_back_X6_isSide : GoodIn wsX6_back (va_wsS RX6 201 yX6_isSide wsX6_isSide) := goodIn_app (goodIn_of _ (by decide +kernel)) ggX6_back_X6_isSide
set_option maxRecDepth 20000 in
theorem ggX6_back_X6_at : GoodIn wsX6_back wsX6_at := goodIn_r _ [21] (by decide +kernel) (by decide +kernel)
set_option maxRecDepth 20000 in
theorem gX6_back_X6_at : GoodIn wsX6_back (va_wsS RX6 69 yX6_at wsX6_at) := goodIn_app (goodIn_of _ (by decide +kernel)) ggX6_back_X6_at
theorem dX6_back_0 : decode cX6_back 0 = .ok (.aload_n 0, 1) := by decide +kernel
theorem dX6_back_1 : decode cX6_back 1 = .ok (.iload_n 1, 1) := by decide +kernel
theorem dX6_back_2 : decode cX6_back 2 = .ok (.invokevirtual 187, 3) := by decide +kernel
theorem dX6_back_5 : decode cX6_back 5 = .ok (.ifCond .eq 10, 3) := by decide +kernel
theorem dX6_back_8 : decode cX6_back 8 = .ok (.iload_n 3, 1) := by decide +kernel
theorem dX6_back_9 : decode cX6_back 9 = .ok (.invokestatic 198, 3) := by decide +kernel
theorem dX6_back_12 : decode cX6_back 12 = .ok (.ifCond .ne 6, 3) := by decide +kernel
theorem dX6_back_15 : decode cX6_back 15 = .ok (.ldc 190, 2) := by decide +kernel
theorem dX6_back_17 : decode cX6_back 17 = .ok (.ireturn, 1) := by decide +kernel
theorem dX6_back_18 : decode cX6_back 18 = .ok (.iload_n 2, 1) := by decide +kernel
theorem dX6_back_19 : decode cX6_back 19 = .ok (.invokestatic 201, 3) := by decide +kernel
theorem dX6_back_22 : decode cX6_back 22 = .ok (.ifCond .eq 17, 3) := by decide +kernel
theorem dX6_back_25 : decode cX6_back 25 = .ok (.aload_n 0, 1) := by decide +kernel
theorem dX6_back_26 : decode cX6_back 26 = .ok (.getfield 7, 3) := by decide +kernel
theorem dX6_back_29 : decode cX6_back 29 = .ok (.iload_n 1, 1) := by decide +kernel
theorem dX6_back_30 : decode cX6_back 30 = .ok (.iload_n 2, 1) := by decide +kernel
theorem dX6_back_31 : decode cX6_back 31 = .ok (.iload_n 3, 1) := by decide +kernel
theorem dX6_back_32 : decode cX6_back 32 = .ok (.invokestatic 69, 3) := by decide +kernel
theorem dX6_back_35 : decode cX6_back 35 = .ok (.iaload, 1) := by decide +kernel
theorem dX6_back_36 : decode cX6_back 36 = .ok (.goto 5, 3) := by decide +kernel
theorem dX6_back_39 : decode cX6_back 39 = .ok (.ldc 197, 2) := by decide +kernel
theorem dX6_back_41 : decode cX6_back 41 = .ok (.ireturn, 1) := by decide +kernel
set_option maxRecDepth 20000 in
theorem ggX6_space_X6_isLetter : GoodIn wsX6_space wsX6_isLetter := goodIn_r _ [13, 14, 15, 16, 12, 17, 94, 95, 96, 97, 98, 99, 100, 101, 102, 103, 104, 105, 106, 107, 108, 109, 110] (by decide +kernel) (by decide +kernel)
set_option maxRecDepth 20000 in
theorem gX6_space_X6_isLetter : GoodIn wsX6_space (wsV RX6 187 RX6 yX6_isLetter wsX6_isLetter) := goodIn_app (goodIn_of _ (by decide +kernel)) ggX6_space_X6_isLetter
set_option maxRecDepth 20000 in
theorem ggX6_space_X6_isSide : GoodIn wsX6_space wsX6_isSide := goodIn_r _ [20, 15, 16, 12, 17] (by decide +kernel) (by decide +kernel)
set_option maxRecDepth 20000 in
theorem gX6_space_X6_isSide : GoodIn wsX6_space (va_wsS RX6 201 yX6_isSide wsX6_isSide) := goodIn_app (goodIn_of _ (by decide +kernel)) ggX6_space_X6_isSide
set_option maxRecDepth 20000 in
theorem ggX6_space_X6_in : GoodIn wsX6_space wsX6_in := goodIn_r _ [17] (by decide +kernel) (by decide +kernel)
set_option maxRecDepth 20000 in
theorem gX6_space_X6_in : GoodIn wsX6_space (va_wsS RX6 63 yX6_in wsX6_in) := goodIn_app (goodIn_of _ (by decide +kernel)) ggX6_space_X6_in
set_option maxRecDepth 20000 in
theorem ggX6_space_X6_solve : GoodIn wsX6_space wsX6_solve := goodIn_r _ [24, 25, 6, 4, 26, 27, 28, 29, 12, 30, 31, 7, 32, 33, 34, 35, 36, 37, 38, 39, 40, 41, 42, 43, 14, 44, 45, 46, 47, 48, 49, 50, 51, 52, 53, 54, 55, 56, 57, 58, 59, 60, 61, 62, 63, 64, 65, 66, 67, 68, 69, 70, 94, 95, 96, 97, 98, 99, 100, 101, 102, 103, 104, 105, 106, 107, 108, 109, 110] (by decide +kernel) (by decide +kernel)
set_option maxRecDepth 20000 in
theorem gX6_space_X6_solve : GoodIn wsX6_space (wsV RX6 147 RX6 yX6_solve wsX6_solve) := goodIn_app (goodIn_of _ (by decide +kernel)) ggX6_space_X6_solve
set_option maxRecDepth 20000 in
theorem ggX6_space_X6_layWholes : GoodIn wsX6_space wsX6_layWholes := goodIn_r _ [74, 8, 4, 5, 6, 75, 76, 77, 40, 41, 42, 12, 43, 14, 78, 79, 80, 81, 82, 83, 84, 94, 95, 96, 97, 98, 99, 100, 101, 102, 103, 104, 105, 106, 107, 108, 109, 110] (by decide +kernel) (by decide +kernel)
set_option maxRecDepth 20000 in
theorem gX6_space_X6_layWholes : GoodIn wsX6_space (wsV RX6 208 RX6 yX6_layWholes wsX6_layWholes) := goodIn_app (goodIn_of _ (by decide +kernel)) ggX6_space_X6_layWholes
set_option maxRecDepth 20000 in
theorem ggX6_space_X6_above : GoodIn wsX6_space wsX6_above := goodIn_r _ [87, 88, 89, 12, 90] (by decide +kernel) (by decide +kernel)
set_option maxRecDepth 20000 in
theorem gX6_space_X6_above : GoodIn wsX6_space (va_wsS RX6 154 yX6_above wsX6_above) := goodIn_app (goodIn_of _ (by decide +kernel)) ggX6_space_X6_above
set_option maxRecDepth 20000 in
theorem ggX6_space_X6_below : GoodIn wsX6_space wsX6_below := goodIn_r _ [93, 88, 89, 12, 90] (by decide +kernel) (by decide +kernel)
set_option maxRecDepth 20000 in
theorem gX6_space_X6_below : GoodIn wsX6_space (va_wsS RX6 161 yX6_below wsX6_below) := goodIn_app (goodIn_of _ (by decide +kernel)) ggX6_space_X6_below
theorem dX6_space_0 : decode cX6_space 0 = .ok (.aload_n 0, 1) := by decide +kernel
theorem dX6_space_1 : decode cX6_space 1 = .ok (.iload_n 1, 1) := by decide +kernel
theorem dX6_space_2 : decode cX6_space 2 = .ok (.invokevirtual 187, 3) := by decide +kernel
theorem dX6_space_5 : decode cX6_space 5 = .ok (.ifCond .ne 7, 3) := by decide +kernel
theorem dX6_space_8 : decode cX6_space 8 = .ok (.ldc2_w 204, 3) := by decide +kernel
theorem dX6_space_11 : decode cX6_space 11 = .ok (.lreturn, 1) := by decide +kernel
theorem dX6_space_12 : decode cX6_space 12 = .ok (.iload_n 2, 1) := by decide +kernel
theorem dX6_space_13 : decode cX6_space 13 = .ok (.invokestatic 201, 3) := by decide +kernel
theorem dX6_space_16 : decode cX6_space 16 = .ok (.ifCond .eq 15, 3) := by decide +kernel
theorem dX6_space_19 : decode cX6_space 19 = .ok (.iload_n 3, 1) := by decide +kernel
theorem dX6_space_20 : decode cX6_space 20 = .ok (.i2l, 1) := by decide +kernel
theorem dX6_space_21 : decode cX6_space 21 = .ok (.lconst 0, 1) := by decide +kernel
theorem dX6_space_22 : decode cX6_space 22 = .ok (.ldc2_w 206, 3) := by decide +kernel
theorem dX6_space_25 : decode cX6_space 25 = .ok (.invokestatic 63, 3) := by decide +kernel
theorem dX6_space_28 : decode cX6_space 28 = .ok (.ifCond .ne 7, 3) := by decide +kernel
theorem dX6_space_31 : decode cX6_space 31 = .ok (.ldc2_w 185, 3) := by decide +kernel
theorem dX6_space_34 : decode cX6_space 34 = .ok (.lreturn, 1) := by decide +kernel
theorem dX6_space_35 : decode cX6_space 35 = .ok (.aload_n 0, 1) := by decide +kernel
theorem dX6_space_36 : decode cX6_space 36 = .ok (.invokevirtual 147, 3) := by decide +kernel
theorem dX6_space_39 : decode cX6_space 39 = .ok (.aload_n 0, 1) := by decide +kernel
theorem dX6_space_40 : decode cX6_space 40 = .ok (.invokevirtual 208, 3) := by decide +kernel
theorem dX6_space_43 : decode cX6_space 43 = .ok (.iload_n 2, 1) := by decide +kernel
theorem dX6_space_44 : decode cX6_space 44 = .ok (.ifCond .ne 9, 3) := by decide +kernel
theorem dX6_space_47 : decode cX6_space 47 = .ok (.iconst 3, 1) := by decide +kernel
theorem dX6_space_48 : decode cX6_space 48 = .ok (.iload_n 1, 1) := by decide +kernel
theorem dX6_space_49 : decode cX6_space 49 = .ok (.iadd, 1) := by decide +kernel
theorem dX6_space_50 : decode cX6_space 50 = .ok (.goto 4, 3) := by decide +kernel
theorem dX6_space_53 : decode cX6_space 53 = .ok (.iload_n 1, 1) := by decide +kernel
theorem dX6_space_54 : decode cX6_space 54 = .ok (.istore 4, 2) := by decide +kernel
theorem dX6_space_56 : decode cX6_space 56 = .ok (.iload_n 3, 1) := by decide +kernel
theorem dX6_space_57 : decode cX6_space 57 = .ok (.tableswitch 81 0 2 #[27, 46, 65], 27) := by decide +kernel
theorem dX6_space_84 : decode cX6_space 84 = .ok (.aload_n 0, 1) := by decide +kernel
theorem dX6_space_85 : decode cX6_space 85 = .ok (.getfield 20, 3) := by decide +kernel
theorem dX6_space_88 : decode cX6_space 88 = .ok (.iload 4, 2) := by decide +kernel
theorem dX6_space_90 : decode cX6_space 90 = .ok (.laload, 1) := by decide +kernel
theorem dX6_space_91 : decode cX6_space 91 = .ok (.ldc2_w 125, 3) := by decide +kernel
theorem dX6_space_94 : decode cX6_space 94 = .ok (.aload_n 0, 1) := by decide +kernel
theorem dX6_space_95 : decode cX6_space 95 = .ok (.getfield 112, 3) := by decide +kernel
theorem dX6_space_98 : decode cX6_space 98 = .ok (.lmul, 1) := by decide +kernel
theorem dX6_space_99 : decode cX6_space 99 = .ok (.invokestatic 154, 3) := by decide +kernel
theorem dX6_space_102 : decode cX6_space 102 = .ok (.lreturn, 1) := by decide +kernel
theorem dX6_space_103 : decode cX6_space 103 = .ok (.aload_n 0, 1) := by decide +kernel
theorem dX6_space_104 : decode cX6_space 104 = .ok (.getfield 20, 3) := by decide +kernel
theorem dX6_space_107 : decode cX6_space 107 = .ok (.iload 4, 2) := by decide +kernel
theorem dX6_space_109 : decode cX6_space 109 = .ok (.laload, 1) := by decide +kernel
theorem dX6_space_110 : decode cX6_space 110 = .ok (.ldc2_w 125, 3) := by decide +kernel
theorem dX6_space_113 : decode cX6_space 113 = .ok (.aload_n 0, 1) := by decide +kernel
theorem dX6_space_114 : decode cX6_space 114 = .ok (.getfield 112, 3) := by decide +kernel
theorem dX6_space_117 : decode cX6_space 117 = .ok (.lmul, 1) := by decide +kernel
theorem dX6_space_118 : decode cX6_space 118 = .ok (.invokestatic 161, 3) := by decide +kernel
theorem dX6_space_121 : decode cX6_space 121 = .ok (.lreturn, 1) := by decide +kernel
theorem dX6_space_122 : decode cX6_space 122 = .ok (.aload_n 0, 1) := by decide +kernel
theorem dX6_space_123 : decode cX6_space 123 = .ok (.getfield 16, 3) := by decide +kernel
theorem dX6_space_126 : decode cX6_space 126 = .ok (.iload 4, 2) := by decide +kernel
theorem dX6_space_128 : decode cX6_space 128 = .ok (.baload, 1) := by decide +kernel
theorem dX6_space_129 : decode cX6_space 129 = .ok (.ifCond .eq 7, 3) := by decide +kernel
theorem dX6_space_132 : decode cX6_space 132 = .ok (.lconst 1, 1) := by decide +kernel
theorem dX6_space_133 : decode cX6_space 133 = .ok (.goto 4, 3) := by decide +kernel
theorem dX6_space_136 : decode cX6_space 136 = .ok (.lconst 0, 1) := by decide +kernel
theorem dX6_space_137 : decode cX6_space 137 = .ok (.lreturn, 1) := by decide +kernel
theorem dX6_space_138 : decode cX6_space 138 = .ok (.aload_n 0, 1) := by decide +kernel
theorem dX6_space_139 : decode cX6_space 139 = .ok (.getfield 33, 3) := by decide +kernel
theorem dX6_space_142 : decode cX6_space 142 = .ok (.iload 4, 2) := by decide +kernel
theorem dX6_space_144 : decode cX6_space 144 = .ok (.laload, 1) := by decide +kernel
theorem dX6_space_145 : decode cX6_space 145 = .ok (.lreturn, 1) := by decide +kernel
set_option maxRecDepth 20000 in
theorem ggX6_pair_X6_isLetter : GoodIn wsX6_pair wsX6_isLetter := goodIn_r _ [8, 9, 10, 11, 7, 12, 82, 83, 84, 85, 86, 87, 88, 89, 90, 91, 92, 93, 94, 95, 96, 97, 98] (by decide +kernel) (by decide +kernel)
set_option maxRecDepth 20000 in
theorem gX6_pair_X6_isLetter : GoodIn wsX6_pair (wsV RX6 187 RX6 yX6_isLetter wsX6_isLetter) := goodIn_app (goodIn_of _ (by decide +kernel)) ggX6_pair_X6_isLetter
set_option maxRecDepth 20000 in
theorem ggX6_pair_X6_solve : GoodIn wsX6_pair wsX6_solve := goodIn_r _ [16, 17, 2, 18, 19, 20, 21, 22, 7, 23, 24, 25, 26, 27, 28, 29, 30, 31, 32, 33, 34, 35, 36, 37, 9, 38, 39, 40, 41, 42, 43, 44, 45, 46, 47, 48, 49, 50, 51, 52, 53, 54, 55, 56, 57, 58, 59, 60, 61, 62, 63, 64, 82, 83, 84, 85, 86, 87, 88, 89, 90, 91, 92, 93, 94, 95, 96, 97, 98] (by decide +kernel) (by decide +kernel)
set_option maxRecDepth 20000 in
theorem gX6_pair_X6_solve : GoodIn wsX6_pair (wsV RX6 147 RX6 yX6_solve wsX6_solve) := goodIn_app (goodIn_of _ (by decide +kernel)) ggX6_pair_X6_solve
set_option maxRecDepth 20000 in
theorem ggX6_pair_X6_weightOf : GoodIn wsX6_pair wsX6_weightOf := goodIn_r _ [41, 9, 82, 83, 84, 85, 86, 87, 88, 89, 90, 91, 92, 93, 94, 95, 96, 97, 98] (by decide +kernel) (by decide +kernel)
set_option maxRecDepth 20000 in
theorem gX6_pair_X6_weightOf : GoodIn wsX6_pair (wsV RX6 81 RX6 yX6_weightOf wsX6_weightOf) := goodIn_app (goodIn_of _ (by decide +kernel)) ggX6_pair_X6_weightOf
set_option maxRecDepth 20000 in
theorem ggX6_pair_X6_bare : GoodIn wsX6_pair wsX6_bare := goodIn_r _ [61, 9, 62, 63, 7, 64, 82, 83, 84, 85, 86, 87, 88, 89, 90, 91, 92, 93, 94, 95, 96, 97, 98] (by decide +kernel) (by decide +kernel)
set_option maxRecDepth 20000 in
theorem gX6_pair_X6_bare : GoodIn wsX6_pair (wsV RX6 102 RX6 yX6_bare wsX6_bare) := goodIn_app (goodIn_of _ (by decide +kernel)) ggX6_pair_X6_bare
set_option maxRecDepth 20000 in
theorem ggX6_pair_X6_whiteOf : GoodIn wsX6_pair wsX6_whiteOf := goodIn_r _ [68, 2, 18, 58, 59, 60, 7, 61, 9, 62, 63, 64, 82, 83, 84, 85, 86, 87, 88, 89, 90, 91, 92, 93, 94, 95, 96, 97, 98] (by decide +kernel) (by decide +kernel)
set_option maxRecDepth 20000 in
theorem gX6_pair_X6_whiteOf : GoodIn wsX6_pair (wsV RX6 116 RX6 yX6_whiteOf wsX6_whiteOf) := goodIn_app (goodIn_of _ (by decide +kernel)) ggX6_pair_X6_whiteOf
set_option maxRecDepth 20000 in
theorem ggX6_pair_X6_above : GoodIn wsX6_pair wsX6_above := goodIn_r _ [71, 72, 73, 7, 74] (by decide +kernel) (by decide +kernel)
set_option maxRecDepth 20000 in
theorem gX6_pair_X6_above : GoodIn wsX6_pair (va_wsS RX6 154 yX6_above wsX6_above) := goodIn_app (goodIn_of _ (by decide +kernel)) ggX6_pair_X6_above
set_option maxRecDepth 20000 in
theorem ggX6_pair_X6_below : GoodIn wsX6_pair wsX6_below := goodIn_r _ [77, 72, 73, 7, 74] (by decide +kernel) (by decide +kernel)
set_option maxRecDepth 20000 in
theorem gX6_pair_X6_below : GoodIn wsX6_pair (va_wsS RX6 161 yX6_below wsX6_below) := goodIn_app (goodIn_of _ (by decide +kernel)) ggX6_pair_X6_below
set_option maxRecDepth 20000 in
theorem ggX6_pair_X6_overOf : GoodIn wsX6_pair wsX6_overOf := goodIn_r _ [81, 9, 2, 65, 66, 67, 7, 68, 18, 58, 59, 60, 61, 62, 63, 64, 82, 83, 84, 85, 86, 87, 88, 89, 90, 91, 92, 93, 94, 95, 96, 97, 98] (by decide +kernel) (by decide +kernel)
set_option maxRecDepth 20000 in
theorem gX6_pair_X6_overOf : GoodIn wsX6_pair (wsV RX6 120 RX6 yX6_overOf wsX6_overOf) := goodIn_app (goodIn_of _ (by decide +kernel)) ggX6_pair_X6_overOf
theorem dX6_pair_0 : decode cX6_pair 0 = .ok (.aload_n 0, 1) := by decide +kernel
theorem dX6_pair_1 : decode cX6_pair 1 = .ok (.iload_n 1, 1) := by decide +kernel
theorem dX6_pair_2 : decode cX6_pair 2 = .ok (.invokevirtual 187, 3) := by decide +kernel
theorem dX6_pair_5 : decode cX6_pair 5 = .ok (.ifCond .eq 11, 3) := by decide +kernel
theorem dX6_pair_8 : decode cX6_pair 8 = .ok (.aload_n 0, 1) := by decide +kernel
theorem dX6_pair_9 : decode cX6_pair 9 = .ok (.iload_n 2, 1) := by decide +kernel
theorem dX6_pair_10 : decode cX6_pair 10 = .ok (.invokevirtual 187, 3) := by decide +kernel
theorem dX6_pair_13 : decode cX6_pair 13 = .ok (.ifCond .ne 7, 3) := by decide +kernel
theorem dX6_pair_16 : decode cX6_pair 16 = .ok (.ldc2_w 204, 3) := by decide +kernel
theorem dX6_pair_19 : decode cX6_pair 19 = .ok (.lreturn, 1) := by decide +kernel
theorem dX6_pair_20 : decode cX6_pair 20 = .ok (.aload_n 0, 1) := by decide +kernel
theorem dX6_pair_21 : decode cX6_pair 21 = .ok (.invokevirtual 147, 3) := by decide +kernel
theorem dX6_pair_24 : decode cX6_pair 24 = .ok (.iload_n 3, 1) := by decide +kernel
theorem dX6_pair_25 : decode cX6_pair 25 = .ok (.tableswitch 111 0 5 #[39, 47, 55, 69, 83, 97], 39) := by decide +kernel
theorem dX6_pair_64 : decode cX6_pair 64 = .ok (.aload_n 0, 1) := by decide +kernel
theorem dX6_pair_65 : decode cX6_pair 65 = .ok (.iload_n 1, 1) := by decide +kernel
theorem dX6_pair_66 : decode cX6_pair 66 = .ok (.iload_n 2, 1) := by decide +kernel
theorem dX6_pair_67 : decode cX6_pair 67 = .ok (.invokevirtual 81, 3) := by decide +kernel
theorem dX6_pair_70 : decode cX6_pair 70 = .ok (.i2l, 1) := by decide +kernel
theorem dX6_pair_71 : decode cX6_pair 71 = .ok (.lreturn, 1) := by decide +kernel
theorem dX6_pair_72 : decode cX6_pair 72 = .ok (.aload_n 0, 1) := by decide +kernel
theorem dX6_pair_73 : decode cX6_pair 73 = .ok (.iload_n 1, 1) := by decide +kernel
theorem dX6_pair_74 : decode cX6_pair 74 = .ok (.iload_n 2, 1) := by decide +kernel
theorem dX6_pair_75 : decode cX6_pair 75 = .ok (.invokevirtual 102, 3) := by decide +kernel
theorem dX6_pair_78 : decode cX6_pair 78 = .ok (.i2l, 1) := by decide +kernel
theorem dX6_pair_79 : decode cX6_pair 79 = .ok (.lreturn, 1) := by decide +kernel
theorem dX6_pair_80 : decode cX6_pair 80 = .ok (.aload_n 0, 1) := by decide +kernel
theorem dX6_pair_81 : decode cX6_pair 81 = .ok (.iload_n 1, 1) := by decide +kernel
theorem dX6_pair_82 : decode cX6_pair 82 = .ok (.iload_n 2, 1) := by decide +kernel
theorem dX6_pair_83 : decode cX6_pair 83 = .ok (.invokevirtual 116, 3) := by decide +kernel
theorem dX6_pair_86 : decode cX6_pair 86 = .ok (.aload_n 0, 1) := by decide +kernel
theorem dX6_pair_87 : decode cX6_pair 87 = .ok (.getfield 112, 3) := by decide +kernel
theorem dX6_pair_90 : decode cX6_pair 90 = .ok (.invokestatic 154, 3) := by decide +kernel
theorem dX6_pair_93 : decode cX6_pair 93 = .ok (.lreturn, 1) := by decide +kernel
theorem dX6_pair_94 : decode cX6_pair 94 = .ok (.aload_n 0, 1) := by decide +kernel
theorem dX6_pair_95 : decode cX6_pair 95 = .ok (.iload_n 1, 1) := by decide +kernel
theorem dX6_pair_96 : decode cX6_pair 96 = .ok (.iload_n 2, 1) := by decide +kernel
theorem dX6_pair_97 : decode cX6_pair 97 = .ok (.invokevirtual 116, 3) := by decide +kernel
theorem dX6_pair_100 : decode cX6_pair 100 = .ok (.aload_n 0, 1) := by decide +kernel
theorem dX6_pair_101 : decode cX6_pair 101 = .ok (.getfield 112, 3) := by decide +kernel
theorem dX6_pair_104 : decode cX6_pair 104 = .ok (.invokestatic 161, 3) := by decide +kernel
theorem dX6_pair_107 : decode cX6_pair 107 = .ok (.lreturn, 1) := by decide +kernel
theorem dX6_pair_108 : decode cX6_pair 108 = .ok (.aload_n 0, 1) := by decide +kernel
theorem dX6_pair_109 : decode cX6_pair 109 = .ok (.iload_n 1, 1) := by decide +kernel
theorem dX6_pair_110 : decode cX6_pair 110 = .ok (.iload_n 2, 1) := by decide +kernel
theorem dX6_pair_111 : decode cX6_pair 111 = .ok (.invokevirtual 120, 3) := by decide +kernel
theorem dX6_pair_114 : decode cX6_pair 114 = .ok (.aload_n 0, 1) := by decide +kernel
theorem dX6_pair_115 : decode cX6_pair 115 = .ok (.getfield 112, 3) := by decide +kernel
theorem dX6_pair_118 : decode cX6_pair 118 = .ok (.invokestatic 154, 3) := by decide +kernel
theorem dX6_pair_121 : decode cX6_pair 121 = .ok (.lreturn, 1) := by decide +kernel
theorem dX6_pair_122 : decode cX6_pair 122 = .ok (.aload_n 0, 1) := by decide +kernel
theorem dX6_pair_123 : decode cX6_pair 123 = .ok (.iload_n 1, 1) := by decide +kernel
theorem dX6_pair_124 : decode cX6_pair 124 = .ok (.iload_n 2, 1) := by decide +kernel
theorem dX6_pair_125 : decode cX6_pair 125 = .ok (.invokevirtual 120, 3) := by decide +kernel
theorem dX6_pair_128 : decode cX6_pair 128 = .ok (.aload_n 0, 1) := by decide +kernel
theorem dX6_pair_129 : decode cX6_pair 129 = .ok (.getfield 112, 3) := by decide +kernel
theorem dX6_pair_132 : decode cX6_pair 132 = .ok (.invokestatic 161, 3) := by decide +kernel
theorem dX6_pair_135 : decode cX6_pair 135 = .ok (.lreturn, 1) := by decide +kernel
theorem dX6_pair_136 : decode cX6_pair 136 = .ok (.ldc2_w 185, 3) := by decide +kernel
theorem dX6_pair_139 : decode cX6_pair 139 = .ok (.lreturn, 1) := by decide +kernel
set_option maxRecDepth 20000 in
theorem ggX6_white_X6_isLetter : GoodIn wsX6_white wsX6_isLetter := goodIn_r _ [8, 9, 10, 11, 7, 12, 80, 81, 82, 83, 84, 85, 86, 87, 88, 89, 90, 91, 92, 93, 94, 95, 96] (by decide +kernel) (by decide +kernel)
set_option maxRecDepth 20000 in
theorem gX6_white_X6_isLetter : GoodIn wsX6_white (wsV RX6 187 RX6 yX6_isLetter wsX6_isLetter) := goodIn_app (goodIn_of _ (by decide +kernel)) ggX6_white_X6_isLetter
set_option maxRecDepth 20000 in
theorem ggX6_white_X6_solve : GoodIn wsX6_white wsX6_solve := goodIn_r _ [16, 17, 18, 19, 20, 21, 22, 23, 7, 24, 25, 26, 27, 28, 29, 30, 31, 32, 33, 34, 35, 36, 37, 38, 9, 39, 40, 41, 42, 43, 44, 45, 46, 47, 48, 49, 50, 51, 52, 53, 54, 55, 56, 57, 58, 59, 60, 61, 62, 63, 64, 65, 80, 81, 82, 83, 84, 85, 86, 87, 88, 89, 90, 91, 92, 93, 94, 95, 96] (by decide +kernel) (by decide +kernel)
set_option maxRecDepth 20000 in
theorem gX6_white_X6_solve : GoodIn wsX6_white (wsV RX6 147 RX6 yX6_solve wsX6_solve) := goodIn_app (goodIn_of _ (by decide +kernel)) ggX6_white_X6_solve
set_option maxRecDepth 20000 in
theorem ggX6_white_X6_layWholes : GoodIn wsX6_white wsX6_layWholes := goodIn_r _ [69, 3, 19, 2, 18, 70, 71, 72, 35, 36, 37, 7, 38, 9, 73, 74, 75, 76, 77, 78, 79, 80, 81, 82, 83, 84, 85, 86, 87, 88, 89, 90, 91, 92, 93, 94, 95, 96] (by decide +kernel) (by decide +kernel)
set_option maxRecDepth 20000 in
theorem gX6_white_X6_layWholes : GoodIn wsX6_white (wsV RX6 208 RX6 yX6_layWholes wsX6_layWholes) := goodIn_app (goodIn_of _ (by decide +kernel)) ggX6_white_X6_layWholes
set_option maxRecDepth 20000 in
theorem ggX6_white_X6_bare : GoodIn wsX6_white wsX6_bare := goodIn_r _ [62, 9, 63, 64, 7, 65, 80, 81, 82, 83, 84, 85, 86, 87, 88, 89, 90, 91, 92, 93, 94, 95, 96] (by decide +kernel) (by decide +kernel)
set_option maxRecDepth 20000 in
theorem gX6_white_X6_bare : GoodIn wsX6_white (wsV RX6 102 RX6 yX6_bare wsX6_bare) := goodIn_app (goodIn_of _ (by decide +kernel)) ggX6_white_X6_bare
theorem dX6_white_0 : decode cX6_white 0 = .ok (.aload_n 0, 1) := by decide +kernel
theorem dX6_white_1 : decode cX6_white 1 = .ok (.iload_n 1, 1) := by decide +kernel
theorem dX6_white_2 : decode cX6_white 2 = .ok (.invokevirtual 187, 3) := by decide +kernel
theorem dX6_white_5 : decode cX6_white 5 = .ok (.ifCond .eq 11, 3) := by decide +kernel
theorem dX6_white_8 : decode cX6_white 8 = .ok (.aload_n 0, 1) := by decide +kernel
theorem dX6_white_9 : decode cX6_white 9 = .ok (.iload_n 2, 1) := by decide +kernel
theorem dX6_white_10 : decode cX6_white 10 = .ok (.invokevirtual 187, 3) := by decide +kernel
theorem dX6_white_13 : decode cX6_white 13 = .ok (.ifCond .ne 6, 3) := by decide +kernel
theorem dX6_white_16 : decode cX6_white 16 = .ok (.ldc 190, 2) := by decide +kernel
theorem dX6_white_18 : decode cX6_white 18 = .ok (.ireturn, 1) := by decide +kernel
theorem dX6_white_19 : decode cX6_white 19 = .ok (.aload_n 0, 1) := by decide +kernel
theorem dX6_white_20 : decode cX6_white 20 = .ok (.invokevirtual 147, 3) := by decide +kernel
theorem dX6_white_23 : decode cX6_white 23 = .ok (.aload_n 0, 1) := by decide +kernel
theorem dX6_white_24 : decode cX6_white 24 = .ok (.invokevirtual 208, 3) := by decide +kernel
theorem dX6_white_27 : decode cX6_white 27 = .ok (.aload_n 0, 1) := by decide +kernel
theorem dX6_white_28 : decode cX6_white 28 = .ok (.iload_n 1, 1) := by decide +kernel
theorem dX6_white_29 : decode cX6_white 29 = .ok (.iload_n 2, 1) := by decide +kernel
theorem dX6_white_30 : decode cX6_white 30 = .ok (.invokevirtual 102, 3) := by decide +kernel
theorem dX6_white_33 : decode cX6_white 33 = .ok (.ldc2_w 125, 3) := by decide +kernel
theorem dX6_white_36 : decode cX6_white 36 = .ok (.aload_n 0, 1) := by decide +kernel
theorem dX6_white_37 : decode cX6_white 37 = .ok (.getfield 33, 3) := by decide +kernel
theorem dX6_white_40 : decode cX6_white 40 = .ok (.iload_n 1, 1) := by decide +kernel
theorem dX6_white_41 : decode cX6_white 41 = .ok (.laload, 1) := by decide +kernel
theorem dX6_white_42 : decode cX6_white 42 = .ok (.aload_n 0, 1) := by decide +kernel
theorem dX6_white_43 : decode cX6_white 43 = .ok (.getfield 33, 3) := by decide +kernel
theorem dX6_white_46 : decode cX6_white 46 = .ok (.iconst 3, 1) := by decide +kernel
theorem dX6_white_47 : decode cX6_white 47 = .ok (.iload_n 2, 1) := by decide +kernel
theorem dX6_white_48 : decode cX6_white 48 = .ok (.iadd, 1) := by decide +kernel
theorem dX6_white_49 : decode cX6_white 49 = .ok (.laload, 1) := by decide +kernel
theorem dX6_white_50 : decode cX6_white 50 = .ok (.ladd, 1) := by decide +kernel
theorem dX6_white_51 : decode cX6_white 51 = .ok (.lmul, 1) := by decide +kernel
theorem dX6_white_52 : decode cX6_white 52 = .ok (.l2i, 1) := by decide +kernel
theorem dX6_white_53 : decode cX6_white 53 = .ok (.iadd, 1) := by decide +kernel
theorem dX6_white_54 : decode cX6_white 54 = .ok (.ireturn, 1) := by decide +kernel
theorem dX6_remember_0 : decode cX6_remember 0 = .ok (.aload_n 0, 1) := by decide +kernel
theorem dX6_remember_1 : decode cX6_remember 1 = .ok (.getfield 182, 3) := by decide +kernel
theorem dX6_remember_4 : decode cX6_remember 4 = .ok (.bipush 8, 2) := by decide +kernel
theorem dX6_remember_6 : decode cX6_remember 6 = .ok (.if_icmp .ne 44, 3) := by decide +kernel
theorem dX6_remember_9 : decode cX6_remember 9 = .ok (.bipush 63, 2) := by decide +kernel
theorem dX6_remember_11 : decode cX6_remember 11 = .ok (.istore_n 1, 1) := by decide +kernel
theorem dX6_remember_12 : decode cX6_remember 12 = .ok (.iload_n 1, 1) := by decide +kernel
theorem dX6_remember_13 : decode cX6_remember 13 = .ok (.sipush 504, 3) := by decide +kernel
theorem dX6_remember_16 : decode cX6_remember 16 = .ok (.if_icmp .ge 24, 3) := by decide +kernel
theorem dX6_remember_19 : decode cX6_remember 19 = .ok (.aload_n 0, 1) := by decide +kernel
theorem dX6_remember_20 : decode cX6_remember 20 = .ok (.getfield 42, 3) := by decide +kernel
theorem dX6_remember_23 : decode cX6_remember 23 = .ok (.iload_n 1, 1) := by decide +kernel
theorem dX6_remember_24 : decode cX6_remember 24 = .ok (.bipush 63, 2) := by decide +kernel
theorem dX6_remember_26 : decode cX6_remember 26 = .ok (.isub, 1) := by decide +kernel
theorem dX6_remember_27 : decode cX6_remember 27 = .ok (.aload_n 0, 1) := by decide +kernel
theorem dX6_remember_28 : decode cX6_remember 28 = .ok (.getfield 42, 3) := by decide +kernel
theorem dX6_remember_31 : decode cX6_remember 31 = .ok (.iload_n 1, 1) := by decide +kernel
theorem dX6_remember_32 : decode cX6_remember 32 = .ok (.iaload, 1) := by decide +kernel
theorem dX6_remember_33 : decode cX6_remember 33 = .ok (.iastore, 1) := by decide +kernel
theorem dX6_remember_34 : decode cX6_remember 34 = .ok (.iinc 1 1, 3) := by decide +kernel
theorem dX6_remember_37 : decode cX6_remember 37 = .ok (.goto (-25), 3) := by decide +kernel
theorem dX6_remember_40 : decode cX6_remember 40 = .ok (.aload_n 0, 1) := by decide +kernel
theorem dX6_remember_41 : decode cX6_remember 41 = .ok (.dup, 1) := by decide +kernel
theorem dX6_remember_42 : decode cX6_remember 42 = .ok (.getfield 182, 3) := by decide +kernel
theorem dX6_remember_45 : decode cX6_remember 45 = .ok (.iconst 1, 1) := by decide +kernel
theorem dX6_remember_46 : decode cX6_remember 46 = .ok (.isub, 1) := by decide +kernel
theorem dX6_remember_47 : decode cX6_remember 47 = .ok (.putfield 182, 3) := by decide +kernel
theorem dX6_remember_50 : decode cX6_remember 50 = .ok (.iconst 0, 1) := by decide +kernel
theorem dX6_remember_51 : decode cX6_remember 51 = .ok (.istore_n 1, 1) := by decide +kernel
theorem dX6_remember_52 : decode cX6_remember 52 = .ok (.iload_n 1, 1) := by decide +kernel
theorem dX6_remember_53 : decode cX6_remember 53 = .ok (.bipush 63, 2) := by decide +kernel
theorem dX6_remember_55 : decode cX6_remember 55 = .ok (.if_icmp .ge 29, 3) := by decide +kernel
theorem dX6_remember_58 : decode cX6_remember 58 = .ok (.aload_n 0, 1) := by decide +kernel
theorem dX6_remember_59 : decode cX6_remember 59 = .ok (.getfield 42, 3) := by decide +kernel
theorem dX6_remember_62 : decode cX6_remember 62 = .ok (.bipush 63, 2) := by decide +kernel
theorem dX6_remember_64 : decode cX6_remember 64 = .ok (.aload_n 0, 1) := by decide +kernel
theorem dX6_remember_65 : decode cX6_remember 65 = .ok (.getfield 182, 3) := by decide +kernel
theorem dX6_remember_68 : decode cX6_remember 68 = .ok (.imul, 1) := by decide +kernel
theorem dX6_remember_69 : decode cX6_remember 69 = .ok (.iload_n 1, 1) := by decide +kernel
theorem dX6_remember_70 : decode cX6_remember 70 = .ok (.iadd, 1) := by decide +kernel
theorem dX6_remember_71 : decode cX6_remember 71 = .ok (.aload_n 0, 1) := by decide +kernel
theorem dX6_remember_72 : decode cX6_remember 72 = .ok (.getfield 7, 3) := by decide +kernel
theorem dX6_remember_75 : decode cX6_remember 75 = .ok (.iload_n 1, 1) := by decide +kernel
theorem dX6_remember_76 : decode cX6_remember 76 = .ok (.iaload, 1) := by decide +kernel
theorem dX6_remember_77 : decode cX6_remember 77 = .ok (.iastore, 1) := by decide +kernel
theorem dX6_remember_78 : decode cX6_remember 78 = .ok (.iinc 1 1, 3) := by decide +kernel
theorem dX6_remember_81 : decode cX6_remember 81 = .ok (.goto (-29), 3) := by decide +kernel
theorem dX6_remember_84 : decode cX6_remember 84 = .ok (.aload_n 0, 1) := by decide +kernel
theorem dX6_remember_85 : decode cX6_remember 85 = .ok (.dup, 1) := by decide +kernel
theorem dX6_remember_86 : decode cX6_remember 86 = .ok (.getfield 182, 3) := by decide +kernel
theorem dX6_remember_89 : decode cX6_remember 89 = .ok (.iconst 1, 1) := by decide +kernel
theorem dX6_remember_90 : decode cX6_remember 90 = .ok (.iadd, 1) := by decide +kernel
theorem dX6_remember_91 : decode cX6_remember 91 = .ok (.putfield 182, 3) := by decide +kernel
theorem dX6_remember_94 : decode cX6_remember 94 = .ok (.return_, 1) := by decide +kernel
set_option maxRecDepth 20000 in
theorem ggX6_letters_X6_in : GoodIn wsX6_letters wsX6_in := goodIn_r _ [8] (by decide +kernel) (by decide +kernel)
set_option maxRecDepth 20000 in
theorem gX6_letters_X6_in : GoodIn wsX6_letters (va_wsS RX6 63 yX6_in wsX6_in) := goodIn_app (goodIn_of _ (by decide +kernel)) ggX6_letters_X6_in
set_option maxRecDepth 20000 in
theorem ggX6_letters_X6_remember : GoodIn wsX6_letters wsX6_remember := goodIn_r _ [12, 13, 14, 3, 21, 22, 23, 24, 25, 26, 27, 28, 29, 30, 31, 32, 33, 34, 35, 36, 37] (by decide +kernel) (by decide +kernel)
set_option maxRecDepth 20000 in
theorem gX6_letters_X6_remember : GoodIn wsX6_letters (wsV RX6 211 RX6 yX6_remember wsX6_remember) := goodIn_app (goodIn_of _ (by decide +kernel)) ggX6_letters_X6_remember
set_option maxRecDepth 20000 in
theorem ggX6_letters_X6_beginLetters : GoodIn wsX6_letters wsX6_beginLetters := goodIn_r _ [18, 3, 19, 20, 5, 6, 7, 8, 21, 22, 23, 24, 25, 26, 27, 28, 29, 30, 31, 32, 33, 34, 35, 36, 37] (by decide +kernel) (by decide +kernel)
set_option maxRecDepth 20000 in
theorem gX6_letters_X6_beginLetters : GoodIn wsX6_letters (wsV RX6 55 RX6 yX6_beginLetters wsX6_beginLetters) := goodIn_app (goodIn_of _ (by decide +kernel)) ggX6_letters_X6_beginLetters
theorem dX6_letters_0 : decode cX6_letters 0 = .ok (.iload_n 1, 1) := by decide +kernel
theorem dX6_letters_1 : decode cX6_letters 1 = .ok (.i2l, 1) := by decide +kernel
theorem dX6_letters_2 : decode cX6_letters 2 = .ok (.lconst 1, 1) := by decide +kernel
theorem dX6_letters_3 : decode cX6_letters 3 = .ok (.ldc2_w 206, 3) := by decide +kernel
theorem dX6_letters_6 : decode cX6_letters 6 = .ok (.invokestatic 63, 3) := by decide +kernel
theorem dX6_letters_9 : decode cX6_letters 9 = .ok (.ifCond .ne 6, 3) := by decide +kernel
theorem dX6_letters_12 : decode cX6_letters 12 = .ok (.ldc 197, 2) := by decide +kernel
theorem dX6_letters_14 : decode cX6_letters 14 = .ok (.ireturn, 1) := by decide +kernel
theorem dX6_letters_15 : decode cX6_letters 15 = .ok (.aload_n 0, 1) := by decide +kernel
theorem dX6_letters_16 : decode cX6_letters 16 = .ok (.invokevirtual 211, 3) := by decide +kernel
theorem dX6_letters_19 : decode cX6_letters 19 = .ok (.aload_n 0, 1) := by decide +kernel
theorem dX6_letters_20 : decode cX6_letters 20 = .ok (.getfield 7, 3) := by decide +kernel
theorem dX6_letters_23 : decode cX6_letters 23 = .ok (.bipush 60, 2) := by decide +kernel
theorem dX6_letters_25 : decode cX6_letters 25 = .ok (.iaload, 1) := by decide +kernel
theorem dX6_letters_26 : decode cX6_letters 26 = .ok (.istore_n 2, 1) := by decide +kernel
theorem dX6_letters_27 : decode cX6_letters 27 = .ok (.aload_n 0, 1) := by decide +kernel
theorem dX6_letters_28 : decode cX6_letters 28 = .ok (.iload_n 1, 1) := by decide +kernel
theorem dX6_letters_29 : decode cX6_letters 29 = .ok (.invokevirtual 55, 3) := by decide +kernel
theorem dX6_letters_32 : decode cX6_letters 32 = .ok (.aload_n 0, 1) := by decide +kernel
theorem dX6_letters_33 : decode cX6_letters 33 = .ok (.iconst 0, 1) := by decide +kernel
theorem dX6_letters_34 : decode cX6_letters 34 = .ok (.putfield 51, 3) := by decide +kernel
theorem dX6_letters_37 : decode cX6_letters 37 = .ok (.iload_n 2, 1) := by decide +kernel
theorem dX6_letters_38 : decode cX6_letters 38 = .ok (.ireturn, 1) := by decide +kernel
set_option maxRecDepth 20000 in
theorem ggX6_become_X6_remember : GoodIn wsX6_become wsX6_remember := goodIn_r _ [6, 7, 8, 1, 9, 10, 11, 12, 13, 14, 15, 16, 17, 18, 19, 20, 21, 22, 23, 24, 25] (by decide +kernel) (by decide +kernel)
set_option maxRecDepth 20000 in
theorem gX6_become_X6_remember : GoodIn wsX6_become (wsV RX6 211 RX6 yX6_remember wsX6_remember) := goodIn_app (goodIn_of _ (by decide +kernel)) ggX6_become_X6_remember
theorem dX6_become_0 : decode cX6_become 0 = .ok (.aload_n 0, 1) := by decide +kernel
theorem dX6_become_1 : decode cX6_become 1 = .ok (.invokevirtual 211, 3) := by decide +kernel
theorem dX6_become_4 : decode cX6_become 4 = .ok (.aload_n 0, 1) := by decide +kernel
theorem dX6_become_5 : decode cX6_become 5 = .ok (.getfield 7, 3) := by decide +kernel
theorem dX6_become_8 : decode cX6_become 8 = .ok (.iload_n 1, 1) := by decide +kernel
theorem dX6_become_9 : decode cX6_become 9 = .ok (.iaload, 1) := by decide +kernel
theorem dX6_become_10 : decode cX6_become 10 = .ok (.istore_n 3, 1) := by decide +kernel
theorem dX6_become_11 : decode cX6_become 11 = .ok (.aload_n 0, 1) := by decide +kernel
theorem dX6_become_12 : decode cX6_become 12 = .ok (.getfield 7, 3) := by decide +kernel
theorem dX6_become_15 : decode cX6_become 15 = .ok (.iload_n 1, 1) := by decide +kernel
theorem dX6_become_16 : decode cX6_become 16 = .ok (.iload_n 2, 1) := by decide +kernel
theorem dX6_become_17 : decode cX6_become 17 = .ok (.iastore, 1) := by decide +kernel
theorem dX6_become_18 : decode cX6_become 18 = .ok (.iload_n 3, 1) := by decide +kernel
theorem dX6_become_19 : decode cX6_become 19 = .ok (.ireturn, 1) := by decide +kernel
set_option maxRecDepth 20000 in
theorem ggX6_side_X6_isLetter : GoodIn wsX6_side wsX6_isLetter := goodIn_r _ [8, 9, 10, 11, 7, 12, 33, 34, 35, 36, 37, 38, 39, 40, 41, 42, 43, 44, 45, 46, 47, 48, 49] (by decide +kernel) (by decide +kernel)
set_option maxRecDepth 20000 in
theorem gX6_side_X6_isLetter : GoodIn wsX6_side (wsV RX6 187 RX6 yX6_isLetter wsX6_isLetter) := goodIn_app (goodIn_of _ (by decide +kernel)) ggX6_side_X6_isLetter
set_option maxRecDepth 20000 in
theorem ggX6_side_X6_isHeight : GoodIn wsX6_side wsX6_isHeight := goodIn_r _ [15, 16, 10, 11, 7, 12] (by decide +kernel) (by decide +kernel)
set_option maxRecDepth 20000 in
theorem gX6_side_X6_isHeight : GoodIn wsX6_side (va_wsS RX6 198 yX6_isHeight wsX6_isHeight) := goodIn_app (goodIn_of _ (by decide +kernel)) ggX6_side_X6_isHeight
set_option maxRecDepth 20000 in
theorem ggX6_side_X6_isSide : GoodIn wsX6_side wsX6_isSide := goodIn_r _ [19, 10, 11, 7, 12] (by decide +kernel) (by decide +kernel)
set_option maxRecDepth 20000 in
theorem gX6_side_X6_isSide : GoodIn wsX6_side (va_wsS RX6 201 yX6_isSide wsX6_isSide) := goodIn_app (goodIn_of _ (by decide +kernel)) ggX6_side_X6_isSide
set_option maxRecDepth 20000 in
theorem ggX6_side_X6_in : GoodIn wsX6_side wsX6_in := goodIn_r _ [12] (by decide +kernel) (by decide +kernel)
set_option maxRecDepth 20000 in
theorem gX6_side_X6_in : GoodIn wsX6_side (va_wsS RX6 63 yX6_in wsX6_in) := goodIn_app (goodIn_of _ (by decide +kernel)) ggX6_side_X6_in
set_option maxRecDepth 20000 in
theorem ggX6_side_X6_at : GoodIn wsX6_side wsX6_at := goodIn_r _ [22] (by decide +kernel) (by decide +kernel)
set_option maxRecDepth 20000 in
theorem gX6_side_X6_at : GoodIn wsX6_side (va_wsS RX6 69 yX6_at wsX6_at) := goodIn_app (goodIn_of _ (by decide +kernel)) ggX6_side_X6_at
set_option maxRecDepth 20000 in
theorem ggX6_side_X6_become : GoodIn wsX6_side wsX6_become := goodIn_r _ [26, 9, 27, 28, 29, 7, 30, 31, 32, 33, 34, 35, 36, 37, 38, 39, 40, 41, 42, 43, 44, 45, 46, 47, 48, 49] (by decide +kernel) (by decide +kernel)
set_option maxRecDepth 20000 in
theorem gX6_side_X6_become : GoodIn wsX6_side (wsV RX6 216 RX6 yX6_become wsX6_become) := goodIn_app (goodIn_of _ (by decide +kernel)) ggX6_side_X6_become
theorem dX6_side_0 : decode cX6_side 0 = .ok (.aload_n 0, 1) := by decide +kernel
theorem dX6_side_1 : decode cX6_side 1 = .ok (.iload_n 1, 1) := by decide +kernel
theorem dX6_side_2 : decode cX6_side 2 = .ok (.invokevirtual 187, 3) := by decide +kernel
theorem dX6_side_5 : decode cX6_side 5 = .ok (.ifCond .eq 10, 3) := by decide +kernel
theorem dX6_side_8 : decode cX6_side 8 = .ok (.iload_n 3, 1) := by decide +kernel
theorem dX6_side_9 : decode cX6_side 9 = .ok (.invokestatic 198, 3) := by decide +kernel
theorem dX6_side_12 : decode cX6_side 12 = .ok (.ifCond .ne 6, 3) := by decide +kernel
theorem dX6_side_15 : decode cX6_side 15 = .ok (.ldc 190, 2) := by decide +kernel
theorem dX6_side_17 : decode cX6_side 17 = .ok (.ireturn, 1) := by decide +kernel
theorem dX6_side_18 : decode cX6_side 18 = .ok (.iload_n 2, 1) := by decide +kernel
theorem dX6_side_19 : decode cX6_side 19 = .ok (.invokestatic 201, 3) := by decide +kernel
theorem dX6_side_22 : decode cX6_side 22 = .ok (.ifCond .eq 31, 3) := by decide +kernel
theorem dX6_side_25 : decode cX6_side 25 = .ok (.iload 4, 2) := by decide +kernel
theorem dX6_side_27 : decode cX6_side 27 = .ok (.i2l, 1) := by decide +kernel
theorem dX6_side_28 : decode cX6_side 28 = .ok (.lconst 0, 1) := by decide +kernel
theorem dX6_side_29 : decode cX6_side 29 = .ok (.ldc2_w 214, 3) := by decide +kernel
theorem dX6_side_32 : decode cX6_side 32 = .ok (.invokestatic 63, 3) := by decide +kernel
theorem dX6_side_35 : decode cX6_side 35 = .ok (.ifCond .eq 18, 3) := by decide +kernel
theorem dX6_side_38 : decode cX6_side 38 = .ok (.aload_n 0, 1) := by decide +kernel
theorem dX6_side_39 : decode cX6_side 39 = .ok (.iload_n 1, 1) := by decide +kernel
theorem dX6_side_40 : decode cX6_side 40 = .ok (.iload_n 2, 1) := by decide +kernel
theorem dX6_side_41 : decode cX6_side 41 = .ok (.iload_n 3, 1) := by decide +kernel
theorem dX6_side_42 : decode cX6_side 42 = .ok (.invokestatic 69, 3) := by decide +kernel
theorem dX6_side_45 : decode cX6_side 45 = .ok (.iload 4, 2) := by decide +kernel
theorem dX6_side_47 : decode cX6_side 47 = .ok (.invokevirtual 216, 3) := by decide +kernel
theorem dX6_side_50 : decode cX6_side 50 = .ok (.goto 5, 3) := by decide +kernel
theorem dX6_side_53 : decode cX6_side 53 = .ok (.ldc 197, 2) := by decide +kernel
theorem dX6_side_55 : decode cX6_side 55 = .ok (.ireturn, 1) := by decide +kernel
set_option maxRecDepth 20000 in
theorem ggX6_body_X6_isLetter : GoodIn wsX6_body wsX6_isLetter := goodIn_r _ [8, 9, 10, 11, 7, 12, 23, 24, 25, 26, 27, 28, 29, 30, 31, 32, 33, 34, 35, 36, 37, 38, 39] (by decide +kernel) (by decide +kernel)
set_option maxRecDepth 20000 in
theorem gX6_body_X6_isLetter : GoodIn wsX6_body (wsV RX6 187 RX6 yX6_isLetter wsX6_isLetter) := goodIn_app (goodIn_of _ (by decide +kernel)) ggX6_body_X6_isLetter
set_option maxRecDepth 20000 in
theorem ggX6_body_X6_in : GoodIn wsX6_body wsX6_in := goodIn_r _ [12] (by decide +kernel) (by decide +kernel)
set_option maxRecDepth 20000 in
theorem gX6_body_X6_in : GoodIn wsX6_body (va_wsS RX6 63 yX6_in wsX6_in) := goodIn_app (goodIn_of _ (by decide +kernel)) ggX6_body_X6_in
set_option maxRecDepth 20000 in
theorem ggX6_body_X6_become : GoodIn wsX6_body wsX6_become := goodIn_r _ [16, 9, 17, 18, 19, 7, 20, 21, 22, 23, 24, 25, 26, 27, 28, 29, 30, 31, 32, 33, 34, 35, 36, 37, 38, 39] (by decide +kernel) (by decide +kernel)
set_option maxRecDepth 20000 in
theorem gX6_body_X6_become : GoodIn wsX6_body (wsV RX6 216 RX6 yX6_become wsX6_become) := goodIn_app (goodIn_of _ (by decide +kernel)) ggX6_body_X6_become
theorem dX6_body_0 : decode cX6_body 0 = .ok (.aload_n 0, 1) := by decide +kernel
theorem dX6_body_1 : decode cX6_body 1 = .ok (.iload_n 1, 1) := by decide +kernel
theorem dX6_body_2 : decode cX6_body 2 = .ok (.invokevirtual 187, 3) := by decide +kernel
theorem dX6_body_5 : decode cX6_body 5 = .ok (.ifCond .ne 6, 3) := by decide +kernel
theorem dX6_body_8 : decode cX6_body 8 = .ok (.ldc 190, 2) := by decide +kernel
theorem dX6_body_10 : decode cX6_body 10 = .ok (.ireturn, 1) := by decide +kernel
theorem dX6_body_11 : decode cX6_body 11 = .ok (.iload_n 2, 1) := by decide +kernel
theorem dX6_body_12 : decode cX6_body 12 = .ok (.i2l, 1) := by decide +kernel
theorem dX6_body_13 : decode cX6_body 13 = .ok (.lconst 1, 1) := by decide +kernel
theorem dX6_body_14 : decode cX6_body 14 = .ok (.ldc2_w 61, 3) := by decide +kernel
theorem dX6_body_17 : decode cX6_body 17 = .ok (.invokestatic 63, 3) := by decide +kernel
theorem dX6_body_20 : decode cX6_body 20 = .ok (.ifCond .eq 15, 3) := by decide +kernel
theorem dX6_body_23 : decode cX6_body 23 = .ok (.aload_n 0, 1) := by decide +kernel
theorem dX6_body_24 : decode cX6_body 24 = .ok (.bipush 48, 2) := by decide +kernel
theorem dX6_body_26 : decode cX6_body 26 = .ok (.iload_n 1, 1) := by decide +kernel
theorem dX6_body_27 : decode cX6_body 27 = .ok (.iadd, 1) := by decide +kernel
theorem dX6_body_28 : decode cX6_body 28 = .ok (.iload_n 2, 1) := by decide +kernel
theorem dX6_body_29 : decode cX6_body 29 = .ok (.invokevirtual 216, 3) := by decide +kernel
theorem dX6_body_32 : decode cX6_body 32 = .ok (.goto 5, 3) := by decide +kernel
theorem dX6_body_35 : decode cX6_body 35 = .ok (.ldc 197, 2) := by decide +kernel
theorem dX6_body_37 : decode cX6_body 37 = .ok (.ireturn, 1) := by decide +kernel
set_option maxRecDepth 20000 in
theorem ggX6_bound_X6_in : GoodIn wsX6_bound wsX6_in := goodIn_r _ [7] (by decide +kernel) (by decide +kernel)
set_option maxRecDepth 20000 in
theorem gX6_bound_X6_in : GoodIn wsX6_bound (va_wsS RX6 63 yX6_in wsX6_in) := goodIn_app (goodIn_of _ (by decide +kernel)) ggX6_bound_X6_in
set_option maxRecDepth 20000 in
theorem ggX6_bound_X6_become : GoodIn wsX6_bound wsX6_become := goodIn_r _ [11, 12, 13, 14, 15, 6, 16, 17, 18, 19, 20, 21, 22, 23, 24, 25, 26, 27, 28, 29, 30, 31, 32, 33, 34, 35] (by decide +kernel) (by decide +kernel)
set_option maxRecDepth 20000 in
theorem gX6_bound_X6_become : GoodIn wsX6_bound (wsV RX6 216 RX6 yX6_become wsX6_become) := goodIn_app (goodIn_of _ (by decide +kernel)) ggX6_bound_X6_become
theorem dX6_bound_0 : decode cX6_bound 0 = .ok (.iload_n 1, 1) := by decide +kernel
theorem dX6_bound_1 : decode cX6_bound 1 = .ok (.i2l, 1) := by decide +kernel
theorem dX6_bound_2 : decode cX6_bound 2 = .ok (.lconst 0, 1) := by decide +kernel
theorem dX6_bound_3 : decode cX6_bound 3 = .ok (.lconst 1, 1) := by decide +kernel
theorem dX6_bound_4 : decode cX6_bound 4 = .ok (.invokestatic 63, 3) := by decide +kernel
theorem dX6_bound_7 : decode cX6_bound 7 = .ok (.ifCond .eq 33, 3) := by decide +kernel
theorem dX6_bound_10 : decode cX6_bound 10 = .ok (.iload_n 2, 1) := by decide +kernel
theorem dX6_bound_11 : decode cX6_bound 11 = .ok (.i2l, 1) := by decide +kernel
theorem dX6_bound_12 : decode cX6_bound 12 = .ok (.iload_n 1, 1) := by decide +kernel
theorem dX6_bound_13 : decode cX6_bound 13 = .ok (.ifCond .ne 7, 3) := by decide +kernel
theorem dX6_bound_16 : decode cX6_bound 16 = .ok (.lconst 1, 1) := by decide +kernel
theorem dX6_bound_17 : decode cX6_bound 17 = .ok (.goto 4, 3) := by decide +kernel
theorem dX6_bound_20 : decode cX6_bound 20 = .ok (.lconst 0, 1) := by decide +kernel
theorem dX6_bound_21 : decode cX6_bound 21 = .ok (.iload_n 1, 1) := by decide +kernel
theorem dX6_bound_22 : decode cX6_bound 22 = .ok (.ifCond .ne 9, 3) := by decide +kernel
theorem dX6_bound_25 : decode cX6_bound 25 = .ok (.ldc2_w 219, 3) := by decide +kernel
theorem dX6_bound_28 : decode cX6_bound 28 = .ok (.goto 6, 3) := by decide +kernel
theorem dX6_bound_31 : decode cX6_bound 31 = .ok (.ldc2_w 221, 3) := by decide +kernel
theorem dX6_bound_34 : decode cX6_bound 34 = .ok (.invokestatic 63, 3) := by decide +kernel
theorem dX6_bound_37 : decode cX6_bound 37 = .ok (.ifCond .ne 6, 3) := by decide +kernel
theorem dX6_bound_40 : decode cX6_bound 40 = .ok (.ldc 197, 2) := by decide +kernel
theorem dX6_bound_42 : decode cX6_bound 42 = .ok (.ireturn, 1) := by decide +kernel
theorem dX6_bound_43 : decode cX6_bound 43 = .ok (.aload_n 0, 1) := by decide +kernel
theorem dX6_bound_44 : decode cX6_bound 44 = .ok (.iload_n 1, 1) := by decide +kernel
theorem dX6_bound_45 : decode cX6_bound 45 = .ok (.ifCond .ne 8, 3) := by decide +kernel
theorem dX6_bound_48 : decode cX6_bound 48 = .ok (.bipush 61, 2) := by decide +kernel
theorem dX6_bound_50 : decode cX6_bound 50 = .ok (.goto 5, 3) := by decide +kernel
theorem dX6_bound_53 : decode cX6_bound 53 = .ok (.bipush 62, 2) := by decide +kernel
theorem dX6_bound_55 : decode cX6_bound 55 = .ok (.iload_n 2, 1) := by decide +kernel
theorem dX6_bound_56 : decode cX6_bound 56 = .ok (.invokevirtual 216, 3) := by decide +kernel
theorem dX6_bound_59 : decode cX6_bound 59 = .ok (.ireturn, 1) := by decide +kernel
set_option maxRecDepth 20000 in
theorem ggX6_weight_X6_isLetter : GoodIn wsX6_weight wsX6_isLetter := goodIn_r _ [8, 9, 10, 11, 7, 12, 23, 24, 25, 26, 27, 28, 29, 30, 31, 32, 33, 34, 35, 36, 37, 38, 39] (by decide +kernel) (by decide +kernel)
set_option maxRecDepth 20000 in
theorem gX6_weight_X6_isLetter : GoodIn wsX6_weight (wsV RX6 187 RX6 yX6_isLetter wsX6_isLetter) := goodIn_app (goodIn_of _ (by decide +kernel)) ggX6_weight_X6_isLetter
set_option maxRecDepth 20000 in
theorem ggX6_weight_X6_in : GoodIn wsX6_weight wsX6_in := goodIn_r _ [12] (by decide +kernel) (by decide +kernel)
set_option maxRecDepth 20000 in
theorem gX6_weight_X6_in : GoodIn wsX6_weight (va_wsS RX6 63 yX6_in wsX6_in) := goodIn_app (goodIn_of _ (by decide +kernel)) ggX6_weight_X6_in
set_option maxRecDepth 20000 in
theorem ggX6_weight_X6_become : GoodIn wsX6_weight wsX6_become := goodIn_r _ [16, 9, 17, 18, 19, 7, 20, 21, 22, 23, 24, 25, 26, 27, 28, 29, 30, 31, 32, 33, 34, 35, 36, 37, 38, 39] (by decide +kernel) (by decide +kernel)
set_option maxRecDepth 20000 in
theorem gX6_weight_X6_become : GoodIn wsX6_weight (wsV RX6 216 RX6 yX6_become wsX6_become) := goodIn_app (goodIn_of _ (by decide +kernel)) ggX6_weight_X6_become
theorem dX6_weight_0 : decode cX6_weight 0 = .ok (.aload_n 0, 1) := by decide +kernel
theorem dX6_weight_1 : decode cX6_weight 1 = .ok (.iload_n 1, 1) := by decide +kernel
theorem dX6_weight_2 : decode cX6_weight 2 = .ok (.invokevirtual 187, 3) := by decide +kernel
theorem dX6_weight_5 : decode cX6_weight 5 = .ok (.ifCond .eq 11, 3) := by decide +kernel
theorem dX6_weight_8 : decode cX6_weight 8 = .ok (.aload_n 0, 1) := by decide +kernel
theorem dX6_weight_9 : decode cX6_weight 9 = .ok (.iload_n 2, 1) := by decide +kernel
theorem dX6_weight_10 : decode cX6_weight 10 = .ok (.invokevirtual 187, 3) := by decide +kernel
theorem dX6_weight_13 : decode cX6_weight 13 = .ok (.ifCond .ne 6, 3) := by decide +kernel
theorem dX6_weight_16 : decode cX6_weight 16 = .ok (.ldc 190, 2) := by decide +kernel
theorem dX6_weight_18 : decode cX6_weight 18 = .ok (.ireturn, 1) := by decide +kernel
theorem dX6_weight_19 : decode cX6_weight 19 = .ok (.iload_n 3, 1) := by decide +kernel
theorem dX6_weight_20 : decode cX6_weight 20 = .ok (.i2l, 1) := by decide +kernel
theorem dX6_weight_21 : decode cX6_weight 21 = .ok (.lconst 0, 1) := by decide +kernel
theorem dX6_weight_22 : decode cX6_weight 22 = .ok (.ldc2_w 223, 3) := by decide +kernel
theorem dX6_weight_25 : decode cX6_weight 25 = .ok (.invokestatic 63, 3) := by decide +kernel
theorem dX6_weight_28 : decode cX6_weight 28 = .ok (.ifCond .eq 19, 3) := by decide +kernel
theorem dX6_weight_31 : decode cX6_weight 31 = .ok (.aload_n 0, 1) := by decide +kernel
theorem dX6_weight_32 : decode cX6_weight 32 = .ok (.bipush 51, 2) := by decide +kernel
theorem dX6_weight_34 : decode cX6_weight 34 = .ok (.iconst 3, 1) := by decide +kernel
theorem dX6_weight_35 : decode cX6_weight 35 = .ok (.iload_n 1, 1) := by decide +kernel
theorem dX6_weight_36 : decode cX6_weight 36 = .ok (.imul, 1) := by decide +kernel
theorem dX6_weight_37 : decode cX6_weight 37 = .ok (.iadd, 1) := by decide +kernel
theorem dX6_weight_38 : decode cX6_weight 38 = .ok (.iload_n 2, 1) := by decide +kernel
theorem dX6_weight_39 : decode cX6_weight 39 = .ok (.iadd, 1) := by decide +kernel
theorem dX6_weight_40 : decode cX6_weight 40 = .ok (.iload_n 3, 1) := by decide +kernel
theorem dX6_weight_41 : decode cX6_weight 41 = .ok (.invokevirtual 216, 3) := by decide +kernel
theorem dX6_weight_44 : decode cX6_weight 44 = .ok (.goto 5, 3) := by decide +kernel
theorem dX6_weight_47 : decode cX6_weight 47 = .ok (.ldc 197, 2) := by decide +kernel
theorem dX6_weight_49 : decode cX6_weight 49 = .ok (.ireturn, 1) := by decide +kernel
set_option maxRecDepth 20000 in
theorem ggX6_mirrorNow_X6_at : GoodIn wsX6_mirrorNow wsX6_at := goodIn_r _ [5] (by decide +kernel) (by decide +kernel)
set_option maxRecDepth 20000 in
theorem gX6_mirrorNow_X6_at : GoodIn wsX6_mirrorNow (va_wsS RX6 69 yX6_at wsX6_at) := goodIn_app (goodIn_of _ (by decide +kernel)) ggX6_mirrorNow_X6_at
theorem dX6_mirrorNow_0 : decode cX6_mirrorNow 0 = .ok (.iconst 0, 1) := by decide +kernel
theorem dX6_mirrorNow_1 : decode cX6_mirrorNow 1 = .ok (.istore_n 2, 1) := by decide +kernel
theorem dX6_mirrorNow_2 : decode cX6_mirrorNow 2 = .ok (.iload_n 2, 1) := by decide +kernel
theorem dX6_mirrorNow_3 : decode cX6_mirrorNow 3 = .ok (.bipush 8, 2) := by decide +kernel
theorem dX6_mirrorNow_5 : decode cX6_mirrorNow 5 = .ok (.if_icmp .ge 55, 3) := by decide +kernel
theorem dX6_mirrorNow_8 : decode cX6_mirrorNow 8 = .ok (.aload_n 0, 1) := by decide +kernel
theorem dX6_mirrorNow_9 : decode cX6_mirrorNow 9 = .ok (.getfield 7, 3) := by decide +kernel
theorem dX6_mirrorNow_12 : decode cX6_mirrorNow 12 = .ok (.iload_n 1, 1) := by decide +kernel
theorem dX6_mirrorNow_13 : decode cX6_mirrorNow 13 = .ok (.iconst 0, 1) := by decide +kernel
theorem dX6_mirrorNow_14 : decode cX6_mirrorNow 14 = .ok (.iload_n 2, 1) := by decide +kernel
theorem dX6_mirrorNow_15 : decode cX6_mirrorNow 15 = .ok (.invokestatic 69, 3) := by decide +kernel
theorem dX6_mirrorNow_18 : decode cX6_mirrorNow 18 = .ok (.iaload, 1) := by decide +kernel
theorem dX6_mirrorNow_19 : decode cX6_mirrorNow 19 = .ok (.istore_n 3, 1) := by decide +kernel
theorem dX6_mirrorNow_20 : decode cX6_mirrorNow 20 = .ok (.aload_n 0, 1) := by decide +kernel
theorem dX6_mirrorNow_21 : decode cX6_mirrorNow 21 = .ok (.getfield 7, 3) := by decide +kernel
theorem dX6_mirrorNow_24 : decode cX6_mirrorNow 24 = .ok (.iload_n 1, 1) := by decide +kernel
theorem dX6_mirrorNow_25 : decode cX6_mirrorNow 25 = .ok (.iconst 0, 1) := by decide +kernel
theorem dX6_mirrorNow_26 : decode cX6_mirrorNow 26 = .ok (.iload_n 2, 1) := by decide +kernel
theorem dX6_mirrorNow_27 : decode cX6_mirrorNow 27 = .ok (.invokestatic 69, 3) := by decide +kernel
theorem dX6_mirrorNow_30 : decode cX6_mirrorNow 30 = .ok (.aload_n 0, 1) := by decide +kernel
theorem dX6_mirrorNow_31 : decode cX6_mirrorNow 31 = .ok (.getfield 7, 3) := by decide +kernel
theorem dX6_mirrorNow_34 : decode cX6_mirrorNow 34 = .ok (.iload_n 1, 1) := by decide +kernel
theorem dX6_mirrorNow_35 : decode cX6_mirrorNow 35 = .ok (.iconst 1, 1) := by decide +kernel
theorem dX6_mirrorNow_36 : decode cX6_mirrorNow 36 = .ok (.iload_n 2, 1) := by decide +kernel
theorem dX6_mirrorNow_37 : decode cX6_mirrorNow 37 = .ok (.invokestatic 69, 3) := by decide +kernel
theorem dX6_mirrorNow_40 : decode cX6_mirrorNow 40 = .ok (.iaload, 1) := by decide +kernel
theorem dX6_mirrorNow_41 : decode cX6_mirrorNow 41 = .ok (.iastore, 1) := by decide +kernel
theorem dX6_mirrorNow_42 : decode cX6_mirrorNow 42 = .ok (.aload_n 0, 1) := by decide +kernel
theorem dX6_mirrorNow_43 : decode cX6_mirrorNow 43 = .ok (.getfield 7, 3) := by decide +kernel
theorem dX6_mirrorNow_46 : decode cX6_mirrorNow 46 = .ok (.iload_n 1, 1) := by decide +kernel
theorem dX6_mirrorNow_47 : decode cX6_mirrorNow 47 = .ok (.iconst 1, 1) := by decide +kernel
theorem dX6_mirrorNow_48 : decode cX6_mirrorNow 48 = .ok (.iload_n 2, 1) := by decide +kernel
theorem dX6_mirrorNow_49 : decode cX6_mirrorNow 49 = .ok (.invokestatic 69, 3) := by decide +kernel
theorem dX6_mirrorNow_52 : decode cX6_mirrorNow 52 = .ok (.iload_n 3, 1) := by decide +kernel
theorem dX6_mirrorNow_53 : decode cX6_mirrorNow 53 = .ok (.iastore, 1) := by decide +kernel
theorem dX6_mirrorNow_54 : decode cX6_mirrorNow 54 = .ok (.iinc 2 1, 3) := by decide +kernel
theorem dX6_mirrorNow_57 : decode cX6_mirrorNow 57 = .ok (.goto (-55), 3) := by decide +kernel
theorem dX6_mirrorNow_60 : decode cX6_mirrorNow 60 = .ok (.return_, 1) := by decide +kernel
set_option maxRecDepth 20000 in
theorem ggX6_mirror_X6_isLetter : GoodIn wsX6_mirror wsX6_isLetter := goodIn_r _ [6, 7, 8, 9, 5, 10, 28, 29, 30, 31, 32, 33, 34, 35, 36, 37, 38, 39, 40, 41, 42, 43, 44] (by decide +kernel) (by decide +kernel)
set_option maxRecDepth 20000 in
theorem gX6_mirror_X6_isLetter : GoodIn wsX6_mirror (wsV RX6 187 RX6 yX6_isLetter wsX6_isLetter) := goodIn_app (goodIn_of _ (by decide +kernel)) ggX6_mirror_X6_isLetter
set_option maxRecDepth 20000 in
theorem ggX6_mirror_X6_remember : GoodIn wsX6_mirror wsX6_remember := goodIn_r _ [14, 15, 16, 7, 28, 29, 30, 31, 32, 33, 34, 35, 36, 37, 38, 39, 40, 41, 42, 43, 44] (by decide +kernel) (by decide +kernel)
set_option maxRecDepth 20000 in
theorem gX6_mirror_X6_remember : GoodIn wsX6_mirror (wsV RX6 211 RX6 yX6_remember wsX6_remember) := goodIn_app (goodIn_of _ (by decide +kernel)) ggX6_mirror_X6_remember
set_option maxRecDepth 20000 in
theorem ggX6_mirror_X6_mirrorNow : GoodIn wsX6_mirror wsX6_mirrorNow := goodIn_r _ [20, 7, 21, 22, 5, 23, 28, 29, 30, 31, 32, 33, 34, 35, 36, 37, 38, 39, 40, 41, 42, 43, 44] (by decide +kernel) (by decide +kernel)
set_option maxRecDepth 20000 in
theorem gX6_mirror_X6_mirrorNow : GoodIn wsX6_mirror (wsV RX6 225 RX6 yX6_mirrorNow wsX6_mirrorNow) := goodIn_app (goodIn_of _ (by decide +kernel)) ggX6_mirror_X6_mirrorNow
set_option maxRecDepth 20000 in
theorem ggX6_mirror_X6_isAlike : GoodIn wsX6_mirror wsX6_isAlike := goodIn_r _ [27, 7, 21, 22, 5, 23, 28, 29, 30, 31, 32, 33, 34, 35, 36, 37, 38, 39, 40, 41, 42, 43, 44] (by decide +kernel) (by decide +kernel)
set_option maxRecDepth 20000 in
theorem gX6_mirror_X6_isAlike : GoodIn wsX6_mirror (wsV RX6 191 RX6 yX6_isAlike wsX6_isAlike) := goodIn_app (goodIn_of _ (by decide +kernel)) ggX6_mirror_X6_isAlike
theorem dX6_mirror_0 : decode cX6_mirror 0 = .ok (.aload_n 0, 1) := by decide +kernel
theorem dX6_mirror_1 : decode cX6_mirror 1 = .ok (.iload_n 1, 1) := by decide +kernel
theorem dX6_mirror_2 : decode cX6_mirror 2 = .ok (.invokevirtual 187, 3) := by decide +kernel
theorem dX6_mirror_5 : decode cX6_mirror 5 = .ok (.ifCond .ne 6, 3) := by decide +kernel
theorem dX6_mirror_8 : decode cX6_mirror 8 = .ok (.ldc 190, 2) := by decide +kernel
theorem dX6_mirror_10 : decode cX6_mirror 10 = .ok (.ireturn, 1) := by decide +kernel
theorem dX6_mirror_11 : decode cX6_mirror 11 = .ok (.aload_n 0, 1) := by decide +kernel
theorem dX6_mirror_12 : decode cX6_mirror 12 = .ok (.invokevirtual 211, 3) := by decide +kernel
theorem dX6_mirror_15 : decode cX6_mirror 15 = .ok (.aload_n 0, 1) := by decide +kernel
theorem dX6_mirror_16 : decode cX6_mirror 16 = .ok (.iload_n 1, 1) := by decide +kernel
theorem dX6_mirror_17 : decode cX6_mirror 17 = .ok (.invokevirtual 225, 3) := by decide +kernel
theorem dX6_mirror_20 : decode cX6_mirror 20 = .ok (.aload_n 0, 1) := by decide +kernel
theorem dX6_mirror_21 : decode cX6_mirror 21 = .ok (.iload_n 1, 1) := by decide +kernel
theorem dX6_mirror_22 : decode cX6_mirror 22 = .ok (.invokevirtual 191, 3) := by decide +kernel
theorem dX6_mirror_25 : decode cX6_mirror 25 = .ok (.ifCond .eq 7, 3) := by decide +kernel
theorem dX6_mirror_28 : decode cX6_mirror 28 = .ok (.iconst 0, 1) := by decide +kernel
theorem dX6_mirror_29 : decode cX6_mirror 29 = .ok (.goto 4, 3) := by decide +kernel
theorem dX6_mirror_32 : decode cX6_mirror 32 = .ok (.iconst 1, 1) := by decide +kernel
theorem dX6_mirror_33 : decode cX6_mirror 33 = .ok (.ireturn, 1) := by decide +kernel
set_option maxRecDepth 20000 in
theorem ggX6_turn_X6_remember : GoodIn wsX6_turn wsX6_remember := goodIn_r _ [6, 7, 8, 1, 20, 21, 22, 23, 24, 25, 26, 27, 28, 29, 30, 31, 32, 33, 34, 35, 36] (by decide +kernel) (by decide +kernel)
set_option maxRecDepth 20000 in
theorem gX6_turn_X6_remember : GoodIn wsX6_turn (wsV RX6 211 RX6 yX6_remember wsX6_remember) := goodIn_app (goodIn_of _ (by decide +kernel)) ggX6_turn_X6_remember
set_option maxRecDepth 20000 in
theorem ggX6_turn_X6_mirrorNow : GoodIn wsX6_turn wsX6_mirrorNow := goodIn_r _ [12, 1, 13, 14, 5, 15, 20, 21, 22, 23, 24, 25, 26, 27, 28, 29, 30, 31, 32, 33, 34, 35, 36] (by decide +kernel) (by decide +kernel)
set_option maxRecDepth 20000 in
theorem gX6_turn_X6_mirrorNow : GoodIn wsX6_turn (wsV RX6 225 RX6 yX6_mirrorNow wsX6_mirrorNow) := goodIn_app (goodIn_of _ (by decide +kernel)) ggX6_turn_X6_mirrorNow
set_option maxRecDepth 20000 in
theorem ggX6_turn_X6_weightOf : GoodIn wsX6_turn wsX6_weightOf := goodIn_r _ [19, 1, 20, 21, 22, 23, 24, 25, 26, 27, 28, 29, 30, 31, 32, 33, 34, 35, 36] (by decide +kernel) (by decide +kernel)
set_option maxRecDepth 20000 in
theorem gX6_turn_X6_weightOf : GoodIn wsX6_turn (wsV RX6 81 RX6 yX6_weightOf wsX6_weightOf) := goodIn_app (goodIn_of _ (by decide +kernel)) ggX6_turn_X6_weightOf
theorem dX6_turn_0 : decode cX6_turn 0 = .ok (.aload_n 0, 1) := by decide +kernel
theorem dX6_turn_1 : decode cX6_turn 1 = .ok (.invokevirtual 211, 3) := by decide +kernel
theorem dX6_turn_4 : decode cX6_turn 4 = .ok (.iconst 0, 1) := by decide +kernel
theorem dX6_turn_5 : decode cX6_turn 5 = .ok (.istore_n 1, 1) := by decide +kernel
theorem dX6_turn_6 : decode cX6_turn 6 = .ok (.iload_n 1, 1) := by decide +kernel
theorem dX6_turn_7 : decode cX6_turn 7 = .ok (.aload_n 0, 1) := by decide +kernel
theorem dX6_turn_8 : decode cX6_turn 8 = .ok (.getfield 7, 3) := by decide +kernel
theorem dX6_turn_11 : decode cX6_turn 11 = .ok (.bipush 60, 2) := by decide +kernel
theorem dX6_turn_13 : decode cX6_turn 13 = .ok (.iaload, 1) := by decide +kernel
theorem dX6_turn_14 : decode cX6_turn 14 = .ok (.if_icmp .ge 67, 3) := by decide +kernel
theorem dX6_turn_17 : decode cX6_turn 17 = .ok (.aload_n 0, 1) := by decide +kernel
theorem dX6_turn_18 : decode cX6_turn 18 = .ok (.iload_n 1, 1) := by decide +kernel
theorem dX6_turn_19 : decode cX6_turn 19 = .ok (.invokevirtual 225, 3) := by decide +kernel
theorem dX6_turn_22 : decode cX6_turn 22 = .ok (.iconst 0, 1) := by decide +kernel
theorem dX6_turn_23 : decode cX6_turn 23 = .ok (.istore_n 2, 1) := by decide +kernel
theorem dX6_turn_24 : decode cX6_turn 24 = .ok (.iload_n 2, 1) := by decide +kernel
theorem dX6_turn_25 : decode cX6_turn 25 = .ok (.iload_n 1, 1) := by decide +kernel
theorem dX6_turn_26 : decode cX6_turn 26 = .ok (.if_icmp .ge 49, 3) := by decide +kernel
theorem dX6_turn_29 : decode cX6_turn 29 = .ok (.aload_n 0, 1) := by decide +kernel
theorem dX6_turn_30 : decode cX6_turn 30 = .ok (.iload_n 1, 1) := by decide +kernel
theorem dX6_turn_31 : decode cX6_turn 31 = .ok (.iload_n 2, 1) := by decide +kernel
theorem dX6_turn_32 : decode cX6_turn 32 = .ok (.invokevirtual 81, 3) := by decide +kernel
theorem dX6_turn_35 : decode cX6_turn 35 = .ok (.istore_n 3, 1) := by decide +kernel
theorem dX6_turn_36 : decode cX6_turn 36 = .ok (.aload_n 0, 1) := by decide +kernel
theorem dX6_turn_37 : decode cX6_turn 37 = .ok (.getfield 7, 3) := by decide +kernel
theorem dX6_turn_40 : decode cX6_turn 40 = .ok (.bipush 51, 2) := by decide +kernel
theorem dX6_turn_42 : decode cX6_turn 42 = .ok (.iconst 3, 1) := by decide +kernel
theorem dX6_turn_43 : decode cX6_turn 43 = .ok (.iload_n 1, 1) := by decide +kernel
theorem dX6_turn_44 : decode cX6_turn 44 = .ok (.imul, 1) := by decide +kernel
theorem dX6_turn_45 : decode cX6_turn 45 = .ok (.iadd, 1) := by decide +kernel
theorem dX6_turn_46 : decode cX6_turn 46 = .ok (.iload_n 2, 1) := by decide +kernel
theorem dX6_turn_47 : decode cX6_turn 47 = .ok (.iadd, 1) := by decide +kernel
theorem dX6_turn_48 : decode cX6_turn 48 = .ok (.aload_n 0, 1) := by decide +kernel
theorem dX6_turn_49 : decode cX6_turn 49 = .ok (.iload_n 2, 1) := by decide +kernel
theorem dX6_turn_50 : decode cX6_turn 50 = .ok (.iload_n 1, 1) := by decide +kernel
theorem dX6_turn_51 : decode cX6_turn 51 = .ok (.invokevirtual 81, 3) := by decide +kernel
theorem dX6_turn_54 : decode cX6_turn 54 = .ok (.iastore, 1) := by decide +kernel
theorem dX6_turn_55 : decode cX6_turn 55 = .ok (.aload_n 0, 1) := by decide +kernel
theorem dX6_turn_56 : decode cX6_turn 56 = .ok (.getfield 7, 3) := by decide +kernel
theorem dX6_turn_59 : decode cX6_turn 59 = .ok (.bipush 51, 2) := by decide +kernel
theorem dX6_turn_61 : decode cX6_turn 61 = .ok (.iconst 3, 1) := by decide +kernel
theorem dX6_turn_62 : decode cX6_turn 62 = .ok (.iload_n 2, 1) := by decide +kernel
theorem dX6_turn_63 : decode cX6_turn 63 = .ok (.imul, 1) := by decide +kernel
theorem dX6_turn_64 : decode cX6_turn 64 = .ok (.iadd, 1) := by decide +kernel
theorem dX6_turn_65 : decode cX6_turn 65 = .ok (.iload_n 1, 1) := by decide +kernel
theorem dX6_turn_66 : decode cX6_turn 66 = .ok (.iadd, 1) := by decide +kernel
theorem dX6_turn_67 : decode cX6_turn 67 = .ok (.iload_n 3, 1) := by decide +kernel
theorem dX6_turn_68 : decode cX6_turn 68 = .ok (.iastore, 1) := by decide +kernel
theorem dX6_turn_69 : decode cX6_turn 69 = .ok (.iinc 2 1, 3) := by decide +kernel
theorem dX6_turn_72 : decode cX6_turn 72 = .ok (.goto (-48), 3) := by decide +kernel
theorem dX6_turn_75 : decode cX6_turn 75 = .ok (.iinc 1 1, 3) := by decide +kernel
theorem dX6_turn_78 : decode cX6_turn 78 = .ok (.goto (-72), 3) := by decide +kernel
theorem dX6_turn_81 : decode cX6_turn 81 = .ok (.aload_n 0, 1) := by decide +kernel
theorem dX6_turn_82 : decode cX6_turn 82 = .ok (.getfield 7, 3) := by decide +kernel
theorem dX6_turn_85 : decode cX6_turn 85 = .ok (.bipush 60, 2) := by decide +kernel
theorem dX6_turn_87 : decode cX6_turn 87 = .ok (.iaload, 1) := by decide +kernel
theorem dX6_turn_88 : decode cX6_turn 88 = .ok (.ireturn, 1) := by decide +kernel
set_option maxRecDepth 20000 in
theorem ggX6_copy_X6_isLetter : GoodIn wsX6_copy wsX6_isLetter := goodIn_r _ [7, 2, 8, 9, 6, 10, 17, 18, 19, 20, 21, 22, 23, 24, 25, 26, 27, 28, 29, 30, 31, 32, 33] (by decide +kernel) (by decide +kernel)
set_option maxRecDepth 20000 in
theorem gX6_copy_X6_isLetter : GoodIn wsX6_copy (wsV RX6 187 RX6 yX6_isLetter wsX6_isLetter) := goodIn_app (goodIn_of _ (by decide +kernel)) ggX6_copy_X6_isLetter
set_option maxRecDepth 20000 in
theorem ggX6_copy_X6_remember : GoodIn wsX6_copy wsX6_remember := goodIn_r _ [14, 15, 16, 2, 17, 18, 19, 20, 21, 22, 23, 24, 25, 26, 27, 28, 29, 30, 31, 32, 33] (by decide +kernel) (by decide +kernel)
set_option maxRecDepth 20000 in
theorem gX6_copy_X6_remember : GoodIn wsX6_copy (wsV RX6 211 RX6 yX6_remember wsX6_remember) := goodIn_app (goodIn_of _ (by decide +kernel)) ggX6_copy_X6_remember
theorem dX6_copy_0 : decode cX6_copy 0 = .ok (.aload_n 0, 1) := by decide +kernel
theorem dX6_copy_1 : decode cX6_copy 1 = .ok (.iload_n 1, 1) := by decide +kernel
theorem dX6_copy_2 : decode cX6_copy 2 = .ok (.invokevirtual 187, 3) := by decide +kernel
theorem dX6_copy_5 : decode cX6_copy 5 = .ok (.ifCond .eq 16, 3) := by decide +kernel
theorem dX6_copy_8 : decode cX6_copy 8 = .ok (.aload_n 0, 1) := by decide +kernel
theorem dX6_copy_9 : decode cX6_copy 9 = .ok (.iload_n 2, 1) := by decide +kernel
theorem dX6_copy_10 : decode cX6_copy 10 = .ok (.invokevirtual 187, 3) := by decide +kernel
theorem dX6_copy_13 : decode cX6_copy 13 = .ok (.ifCond .eq 8, 3) := by decide +kernel
theorem dX6_copy_16 : decode cX6_copy 16 = .ok (.iload_n 1, 1) := by decide +kernel
theorem dX6_copy_17 : decode cX6_copy 17 = .ok (.iload_n 2, 1) := by decide +kernel
theorem dX6_copy_18 : decode cX6_copy 18 = .ok (.if_icmp .ne 6, 3) := by decide +kernel
theorem dX6_copy_21 : decode cX6_copy 21 = .ok (.ldc 190, 2) := by decide +kernel
theorem dX6_copy_23 : decode cX6_copy 23 = .ok (.ireturn, 1) := by decide +kernel
theorem dX6_copy_24 : decode cX6_copy 24 = .ok (.aload_n 0, 1) := by decide +kernel
theorem dX6_copy_25 : decode cX6_copy 25 = .ok (.invokevirtual 211, 3) := by decide +kernel
theorem dX6_copy_28 : decode cX6_copy 28 = .ok (.aload_n 0, 1) := by decide +kernel
theorem dX6_copy_29 : decode cX6_copy 29 = .ok (.getfield 7, 3) := by decide +kernel
theorem dX6_copy_32 : decode cX6_copy 32 = .ok (.bipush 48, 2) := by decide +kernel
theorem dX6_copy_34 : decode cX6_copy 34 = .ok (.iload_n 1, 1) := by decide +kernel
theorem dX6_copy_35 : decode cX6_copy 35 = .ok (.iadd, 1) := by decide +kernel
theorem dX6_copy_36 : decode cX6_copy 36 = .ok (.iaload, 1) := by decide +kernel
theorem dX6_copy_37 : decode cX6_copy 37 = .ok (.aload_n 0, 1) := by decide +kernel
theorem dX6_copy_38 : decode cX6_copy 38 = .ok (.getfield 7, 3) := by decide +kernel
theorem dX6_copy_41 : decode cX6_copy 41 = .ok (.bipush 48, 2) := by decide +kernel
theorem dX6_copy_43 : decode cX6_copy 43 = .ok (.iload_n 2, 1) := by decide +kernel
theorem dX6_copy_44 : decode cX6_copy 44 = .ok (.iadd, 1) := by decide +kernel
theorem dX6_copy_45 : decode cX6_copy 45 = .ok (.iaload, 1) := by decide +kernel
theorem dX6_copy_46 : decode cX6_copy 46 = .ok (.if_icmp .ne 7, 3) := by decide +kernel
theorem dX6_copy_49 : decode cX6_copy 49 = .ok (.iconst 0, 1) := by decide +kernel
theorem dX6_copy_50 : decode cX6_copy 50 = .ok (.goto 4, 3) := by decide +kernel
theorem dX6_copy_53 : decode cX6_copy 53 = .ok (.iconst 1, 1) := by decide +kernel
theorem dX6_copy_54 : decode cX6_copy 54 = .ok (.istore_n 3, 1) := by decide +kernel
theorem dX6_copy_55 : decode cX6_copy 55 = .ok (.aload_n 0, 1) := by decide +kernel
theorem dX6_copy_56 : decode cX6_copy 56 = .ok (.getfield 7, 3) := by decide +kernel
theorem dX6_copy_59 : decode cX6_copy 59 = .ok (.bipush 48, 2) := by decide +kernel
theorem dX6_copy_61 : decode cX6_copy 61 = .ok (.iload_n 1, 1) := by decide +kernel
theorem dX6_copy_62 : decode cX6_copy 62 = .ok (.iadd, 1) := by decide +kernel
theorem dX6_copy_63 : decode cX6_copy 63 = .ok (.aload_n 0, 1) := by decide +kernel
theorem dX6_copy_64 : decode cX6_copy 64 = .ok (.getfield 7, 3) := by decide +kernel
theorem dX6_copy_67 : decode cX6_copy 67 = .ok (.bipush 48, 2) := by decide +kernel
theorem dX6_copy_69 : decode cX6_copy 69 = .ok (.iload_n 2, 1) := by decide +kernel
theorem dX6_copy_70 : decode cX6_copy 70 = .ok (.iadd, 1) := by decide +kernel
theorem dX6_copy_71 : decode cX6_copy 71 = .ok (.iaload, 1) := by decide +kernel
theorem dX6_copy_72 : decode cX6_copy 72 = .ok (.iastore, 1) := by decide +kernel
theorem dX6_copy_73 : decode cX6_copy 73 = .ok (.iconst 0, 1) := by decide +kernel
theorem dX6_copy_74 : decode cX6_copy 74 = .ok (.istore 4, 2) := by decide +kernel
theorem dX6_copy_76 : decode cX6_copy 76 = .ok (.iload 4, 2) := by decide +kernel
theorem dX6_copy_78 : decode cX6_copy 78 = .ok (.bipush 16, 2) := by decide +kernel
theorem dX6_copy_80 : decode cX6_copy 80 = .ok (.if_icmp .ge 68, 3) := by decide +kernel
theorem dX6_copy_83 : decode cX6_copy 83 = .ok (.iload_n 3, 1) := by decide +kernel
theorem dX6_copy_84 : decode cX6_copy 84 = .ok (.aload_n 0, 1) := by decide +kernel
theorem dX6_copy_85 : decode cX6_copy 85 = .ok (.getfield 7, 3) := by decide +kernel
theorem dX6_copy_88 : decode cX6_copy 88 = .ok (.bipush 16, 2) := by decide +kernel
theorem dX6_copy_90 : decode cX6_copy 90 = .ok (.iload_n 1, 1) := by decide +kernel
theorem dX6_copy_91 : decode cX6_copy 91 = .ok (.imul, 1) := by decide +kernel
theorem dX6_copy_92 : decode cX6_copy 92 = .ok (.iload 4, 2) := by decide +kernel
theorem dX6_copy_94 : decode cX6_copy 94 = .ok (.iadd, 1) := by decide +kernel
theorem dX6_copy_95 : decode cX6_copy 95 = .ok (.iaload, 1) := by decide +kernel
theorem dX6_copy_96 : decode cX6_copy 96 = .ok (.aload_n 0, 1) := by decide +kernel
theorem dX6_copy_97 : decode cX6_copy 97 = .ok (.getfield 7, 3) := by decide +kernel
theorem dX6_copy_100 : decode cX6_copy 100 = .ok (.bipush 16, 2) := by decide +kernel
theorem dX6_copy_102 : decode cX6_copy 102 = .ok (.iload_n 2, 1) := by decide +kernel
theorem dX6_copy_103 : decode cX6_copy 103 = .ok (.imul, 1) := by decide +kernel
theorem dX6_copy_104 : decode cX6_copy 104 = .ok (.iload 4, 2) := by decide +kernel
theorem dX6_copy_106 : decode cX6_copy 106 = .ok (.iadd, 1) := by decide +kernel
theorem dX6_copy_107 : decode cX6_copy 107 = .ok (.iaload, 1) := by decide +kernel
theorem dX6_copy_108 : decode cX6_copy 108 = .ok (.if_icmp .ne 7, 3) := by decide +kernel
theorem dX6_copy_111 : decode cX6_copy 111 = .ok (.iconst 0, 1) := by decide +kernel
theorem dX6_copy_112 : decode cX6_copy 112 = .ok (.goto 4, 3) := by decide +kernel
theorem dX6_copy_115 : decode cX6_copy 115 = .ok (.iconst 1, 1) := by decide +kernel
theorem dX6_copy_116 : decode cX6_copy 116 = .ok (.iadd, 1) := by decide +kernel
theorem dX6_copy_117 : decode cX6_copy 117 = .ok (.istore_n 3, 1) := by decide +kernel
theorem dX6_copy_118 : decode cX6_copy 118 = .ok (.aload_n 0, 1) := by decide +kernel
theorem dX6_copy_119 : decode cX6_copy 119 = .ok (.getfield 7, 3) := by decide +kernel
theorem dX6_copy_122 : decode cX6_copy 122 = .ok (.bipush 16, 2) := by decide +kernel
theorem dX6_copy_124 : decode cX6_copy 124 = .ok (.iload_n 1, 1) := by decide +kernel
theorem dX6_copy_125 : decode cX6_copy 125 = .ok (.imul, 1) := by decide +kernel
theorem dX6_copy_126 : decode cX6_copy 126 = .ok (.iload 4, 2) := by decide +kernel
theorem dX6_copy_128 : decode cX6_copy 128 = .ok (.iadd, 1) := by decide +kernel
theorem dX6_copy_129 : decode cX6_copy 129 = .ok (.aload_n 0, 1) := by decide +kernel
theorem dX6_copy_130 : decode cX6_copy 130 = .ok (.getfield 7, 3) := by decide +kernel
theorem dX6_copy_133 : decode cX6_copy 133 = .ok (.bipush 16, 2) := by decide +kernel
theorem dX6_copy_135 : decode cX6_copy 135 = .ok (.iload_n 2, 1) := by decide +kernel
theorem dX6_copy_136 : decode cX6_copy 136 = .ok (.imul, 1) := by decide +kernel
theorem dX6_copy_137 : decode cX6_copy 137 = .ok (.iload 4, 2) := by decide +kernel
theorem dX6_copy_139 : decode cX6_copy 139 = .ok (.iadd, 1) := by decide +kernel
theorem dX6_copy_140 : decode cX6_copy 140 = .ok (.iaload, 1) := by decide +kernel
theorem dX6_copy_141 : decode cX6_copy 141 = .ok (.iastore, 1) := by decide +kernel
theorem dX6_copy_142 : decode cX6_copy 142 = .ok (.iinc 4 1, 3) := by decide +kernel
theorem dX6_copy_145 : decode cX6_copy 145 = .ok (.goto (-69), 3) := by decide +kernel
theorem dX6_copy_148 : decode cX6_copy 148 = .ok (.iload_n 3, 1) := by decide +kernel
theorem dX6_copy_149 : decode cX6_copy 149 = .ok (.ireturn, 1) := by decide +kernel
set_option maxRecDepth 20000 in
theorem ggX6_drift_X6_in : GoodIn wsX6_drift wsX6_in := goodIn_r _ [11] (by decide +kernel) (by decide +kernel)
set_option maxRecDepth 20000 in
theorem gX6_drift_X6_in : GoodIn wsX6_drift (va_wsS RX6 63 yX6_in wsX6_in) := goodIn_app (goodIn_of _ (by decide +kernel)) ggX6_drift_X6_in
set_option maxRecDepth 20000 in
theorem ggX6_drift_X6_remember : GoodIn wsX6_drift wsX6_remember := goodIn_r _ [15, 16, 17, 3, 25, 26, 27, 28, 29, 30, 31, 32, 33, 34, 35, 36, 37, 38, 39, 40, 41] (by decide +kernel) (by decide +kernel)
set_option maxRecDepth 20000 in
theorem gX6_drift_X6_remember : GoodIn wsX6_drift (wsV RX6 211 RX6 yX6_remember wsX6_remember) := goodIn_app (goodIn_of _ (by decide +kernel)) ggX6_drift_X6_remember
set_option maxRecDepth 20000 in
theorem ggX6_drift_X6_bare : GoodIn wsX6_drift wsX6_bare := goodIn_r _ [21, 3, 22, 23, 10, 24, 25, 26, 27, 28, 29, 30, 31, 32, 33, 34, 35, 36, 37, 38, 39, 40, 41] (by decide +kernel) (by decide +kernel)
set_option maxRecDepth 20000 in
theorem gX6_drift_X6_bare : GoodIn wsX6_drift (wsV RX6 102 RX6 yX6_bare wsX6_bare) := goodIn_app (goodIn_of _ (by decide +kernel)) ggX6_drift_X6_bare
theorem dX6_drift_0 : decode cX6_drift 0 = .ok (.iload_n 1, 1) := by decide +kernel
theorem dX6_drift_1 : decode cX6_drift 1 = .ok (.i2l, 1) := by decide +kernel
theorem dX6_drift_2 : decode cX6_drift 2 = .ok (.lconst 1, 1) := by decide +kernel
theorem dX6_drift_3 : decode cX6_drift 3 = .ok (.ldc2_w 228, 3) := by decide +kernel
theorem dX6_drift_6 : decode cX6_drift 6 = .ok (.invokestatic 63, 3) := by decide +kernel
theorem dX6_drift_9 : decode cX6_drift 9 = .ok (.ifCond .ne 6, 3) := by decide +kernel
theorem dX6_drift_12 : decode cX6_drift 12 = .ok (.ldc 197, 2) := by decide +kernel
theorem dX6_drift_14 : decode cX6_drift 14 = .ok (.ireturn, 1) := by decide +kernel
theorem dX6_drift_15 : decode cX6_drift 15 = .ok (.aload_n 0, 1) := by decide +kernel
theorem dX6_drift_16 : decode cX6_drift 16 = .ok (.invokevirtual 211, 3) := by decide +kernel
theorem dX6_drift_19 : decode cX6_drift 19 = .ok (.iload_n 1, 1) := by decide +kernel
theorem dX6_drift_20 : decode cX6_drift 20 = .ok (.i2l, 1) := by decide +kernel
theorem dX6_drift_21 : decode cX6_drift 21 = .ok (.lstore_n 2, 1) := by decide +kernel
theorem dX6_drift_22 : decode cX6_drift 22 = .ok (.iconst 0, 1) := by decide +kernel
theorem dX6_drift_23 : decode cX6_drift 23 = .ok (.istore 4, 2) := by decide +kernel
theorem dX6_drift_25 : decode cX6_drift 25 = .ok (.iload 4, 2) := by decide +kernel
theorem dX6_drift_27 : decode cX6_drift 27 = .ok (.bipush 16, 2) := by decide +kernel
theorem dX6_drift_29 : decode cX6_drift 29 = .ok (.aload_n 0, 1) := by decide +kernel
theorem dX6_drift_30 : decode cX6_drift 30 = .ok (.getfield 7, 3) := by decide +kernel
theorem dX6_drift_33 : decode cX6_drift 33 = .ok (.bipush 60, 2) := by decide +kernel
theorem dX6_drift_35 : decode cX6_drift 35 = .ok (.iaload, 1) := by decide +kernel
theorem dX6_drift_36 : decode cX6_drift 36 = .ok (.imul, 1) := by decide +kernel
theorem dX6_drift_37 : decode cX6_drift 37 = .ok (.if_icmp .ge 32, 3) := by decide +kernel
theorem dX6_drift_40 : decode cX6_drift 40 = .ok (.lload_n 2, 1) := by decide +kernel
theorem dX6_drift_41 : decode cX6_drift 41 = .ok (.ldc2_w 230, 3) := by decide +kernel
theorem dX6_drift_44 : decode cX6_drift 44 = .ok (.lmul, 1) := by decide +kernel
theorem dX6_drift_45 : decode cX6_drift 45 = .ok (.ldc2_w 232, 3) := by decide +kernel
theorem dX6_drift_48 : decode cX6_drift 48 = .ok (.lrem, 1) := by decide +kernel
theorem dX6_drift_49 : decode cX6_drift 49 = .ok (.lstore_n 2, 1) := by decide +kernel
theorem dX6_drift_50 : decode cX6_drift 50 = .ok (.aload_n 0, 1) := by decide +kernel
theorem dX6_drift_51 : decode cX6_drift 51 = .ok (.getfield 7, 3) := by decide +kernel
theorem dX6_drift_54 : decode cX6_drift 54 = .ok (.iload 4, 2) := by decide +kernel
theorem dX6_drift_56 : decode cX6_drift 56 = .ok (.lload_n 2, 1) := by decide +kernel
theorem dX6_drift_57 : decode cX6_drift 57 = .ok (.ldc2_w 234, 3) := by decide +kernel
theorem dX6_drift_60 : decode cX6_drift 60 = .ok (.lrem, 1) := by decide +kernel
theorem dX6_drift_61 : decode cX6_drift 61 = .ok (.l2i, 1) := by decide +kernel
theorem dX6_drift_62 : decode cX6_drift 62 = .ok (.iastore, 1) := by decide +kernel
theorem dX6_drift_63 : decode cX6_drift 63 = .ok (.iinc 4 1, 3) := by decide +kernel
theorem dX6_drift_66 : decode cX6_drift 66 = .ok (.goto (-41), 3) := by decide +kernel
theorem dX6_drift_69 : decode cX6_drift 69 = .ok (.iconst 0, 1) := by decide +kernel
theorem dX6_drift_70 : decode cX6_drift 70 = .ok (.istore 4, 2) := by decide +kernel
theorem dX6_drift_72 : decode cX6_drift 72 = .ok (.iconst 0, 1) := by decide +kernel
theorem dX6_drift_73 : decode cX6_drift 73 = .ok (.istore 5, 2) := by decide +kernel
theorem dX6_drift_75 : decode cX6_drift 75 = .ok (.iload 5, 2) := by decide +kernel
theorem dX6_drift_77 : decode cX6_drift 77 = .ok (.aload_n 0, 1) := by decide +kernel
theorem dX6_drift_78 : decode cX6_drift 78 = .ok (.getfield 7, 3) := by decide +kernel
theorem dX6_drift_81 : decode cX6_drift 81 = .ok (.bipush 60, 2) := by decide +kernel
theorem dX6_drift_83 : decode cX6_drift 83 = .ok (.iaload, 1) := by decide +kernel
theorem dX6_drift_84 : decode cX6_drift 84 = .ok (.if_icmp .ge 74, 3) := by decide +kernel
theorem dX6_drift_87 : decode cX6_drift 87 = .ok (.iconst 0, 1) := by decide +kernel
theorem dX6_drift_88 : decode cX6_drift 88 = .ok (.istore 6, 2) := by decide +kernel
theorem dX6_drift_90 : decode cX6_drift 90 = .ok (.iload 6, 2) := by decide +kernel
theorem dX6_drift_92 : decode cX6_drift 92 = .ok (.aload_n 0, 1) := by decide +kernel
theorem dX6_drift_93 : decode cX6_drift 93 = .ok (.getfield 7, 3) := by decide +kernel
theorem dX6_drift_96 : decode cX6_drift 96 = .ok (.bipush 60, 2) := by decide +kernel
theorem dX6_drift_98 : decode cX6_drift 98 = .ok (.iaload, 1) := by decide +kernel
theorem dX6_drift_99 : decode cX6_drift 99 = .ok (.if_icmp .ge 53, 3) := by decide +kernel
theorem dX6_drift_102 : decode cX6_drift 102 = .ok (.lload_n 2, 1) := by decide +kernel
theorem dX6_drift_103 : decode cX6_drift 103 = .ok (.ldc2_w 230, 3) := by decide +kernel
theorem dX6_drift_106 : decode cX6_drift 106 = .ok (.lmul, 1) := by decide +kernel
theorem dX6_drift_107 : decode cX6_drift 107 = .ok (.ldc2_w 232, 3) := by decide +kernel
theorem dX6_drift_110 : decode cX6_drift 110 = .ok (.lrem, 1) := by decide +kernel
theorem dX6_drift_111 : decode cX6_drift 111 = .ok (.lstore_n 2, 1) := by decide +kernel
theorem dX6_drift_112 : decode cX6_drift 112 = .ok (.aload_n 0, 1) := by decide +kernel
theorem dX6_drift_113 : decode cX6_drift 113 = .ok (.getfield 7, 3) := by decide +kernel
theorem dX6_drift_116 : decode cX6_drift 116 = .ok (.bipush 51, 2) := by decide +kernel
theorem dX6_drift_118 : decode cX6_drift 118 = .ok (.iconst 3, 1) := by decide +kernel
theorem dX6_drift_119 : decode cX6_drift 119 = .ok (.iload 5, 2) := by decide +kernel
theorem dX6_drift_121 : decode cX6_drift 121 = .ok (.imul, 1) := by decide +kernel
theorem dX6_drift_122 : decode cX6_drift 122 = .ok (.iadd, 1) := by decide +kernel
theorem dX6_drift_123 : decode cX6_drift 123 = .ok (.iload 6, 2) := by decide +kernel
theorem dX6_drift_125 : decode cX6_drift 125 = .ok (.iadd, 1) := by decide +kernel
theorem dX6_drift_126 : decode cX6_drift 126 = .ok (.lload_n 2, 1) := by decide +kernel
theorem dX6_drift_127 : decode cX6_drift 127 = .ok (.ldc2_w 236, 3) := by decide +kernel
theorem dX6_drift_130 : decode cX6_drift 130 = .ok (.lrem, 1) := by decide +kernel
theorem dX6_drift_131 : decode cX6_drift 131 = .ok (.l2i, 1) := by decide +kernel
theorem dX6_drift_132 : decode cX6_drift 132 = .ok (.iastore, 1) := by decide +kernel
theorem dX6_drift_133 : decode cX6_drift 133 = .ok (.iload 4, 2) := by decide +kernel
theorem dX6_drift_135 : decode cX6_drift 135 = .ok (.aload_n 0, 1) := by decide +kernel
theorem dX6_drift_136 : decode cX6_drift 136 = .ok (.iload 5, 2) := by decide +kernel
theorem dX6_drift_138 : decode cX6_drift 138 = .ok (.iload 6, 2) := by decide +kernel
theorem dX6_drift_140 : decode cX6_drift 140 = .ok (.invokevirtual 102, 3) := by decide +kernel
theorem dX6_drift_143 : decode cX6_drift 143 = .ok (.iadd, 1) := by decide +kernel
theorem dX6_drift_144 : decode cX6_drift 144 = .ok (.istore 4, 2) := by decide +kernel
theorem dX6_drift_146 : decode cX6_drift 146 = .ok (.iinc 6 1, 3) := by decide +kernel
theorem dX6_drift_149 : decode cX6_drift 149 = .ok (.goto (-59), 3) := by decide +kernel
theorem dX6_drift_152 : decode cX6_drift 152 = .ok (.iinc 5 1, 3) := by decide +kernel
theorem dX6_drift_155 : decode cX6_drift 155 = .ok (.goto (-80), 3) := by decide +kernel
theorem dX6_drift_158 : decode cX6_drift 158 = .ok (.iload 4, 2) := by decide +kernel
theorem dX6_drift_160 : decode cX6_drift 160 = .ok (.ireturn, 1) := by decide +kernel
theorem dX6_undo_0 : decode cX6_undo 0 = .ok (.aload_n 0, 1) := by decide +kernel
theorem dX6_undo_1 : decode cX6_undo 1 = .ok (.getfield 182, 3) := by decide +kernel
theorem dX6_undo_4 : decode cX6_undo 4 = .ok (.ifCond .ne 6, 3) := by decide +kernel
theorem dX6_undo_7 : decode cX6_undo 7 = .ok (.ldc 238, 2) := by decide +kernel
theorem dX6_undo_9 : decode cX6_undo 9 = .ok (.ireturn, 1) := by decide +kernel
theorem dX6_undo_10 : decode cX6_undo 10 = .ok (.aload_n 0, 1) := by decide +kernel
theorem dX6_undo_11 : decode cX6_undo 11 = .ok (.dup, 1) := by decide +kernel
theorem dX6_undo_12 : decode cX6_undo 12 = .ok (.getfield 182, 3) := by decide +kernel
theorem dX6_undo_15 : decode cX6_undo 15 = .ok (.iconst 1, 1) := by decide +kernel
theorem dX6_undo_16 : decode cX6_undo 16 = .ok (.isub, 1) := by decide +kernel
theorem dX6_undo_17 : decode cX6_undo 17 = .ok (.putfield 182, 3) := by decide +kernel
theorem dX6_undo_20 : decode cX6_undo 20 = .ok (.aload_n 0, 1) := by decide +kernel
theorem dX6_undo_21 : decode cX6_undo 21 = .ok (.getfield 7, 3) := by decide +kernel
theorem dX6_undo_24 : decode cX6_undo 24 = .ok (.bipush 60, 2) := by decide +kernel
theorem dX6_undo_26 : decode cX6_undo 26 = .ok (.iaload, 1) := by decide +kernel
theorem dX6_undo_27 : decode cX6_undo 27 = .ok (.istore_n 1, 1) := by decide +kernel
theorem dX6_undo_28 : decode cX6_undo 28 = .ok (.iconst 0, 1) := by decide +kernel
theorem dX6_undo_29 : decode cX6_undo 29 = .ok (.istore_n 2, 1) := by decide +kernel
theorem dX6_undo_30 : decode cX6_undo 30 = .ok (.iload_n 2, 1) := by decide +kernel
theorem dX6_undo_31 : decode cX6_undo 31 = .ok (.bipush 63, 2) := by decide +kernel
theorem dX6_undo_33 : decode cX6_undo 33 = .ok (.if_icmp .ge 29, 3) := by decide +kernel
theorem dX6_undo_36 : decode cX6_undo 36 = .ok (.aload_n 0, 1) := by decide +kernel
theorem dX6_undo_37 : decode cX6_undo 37 = .ok (.getfield 7, 3) := by decide +kernel
theorem dX6_undo_40 : decode cX6_undo 40 = .ok (.iload_n 2, 1) := by decide +kernel
theorem dX6_undo_41 : decode cX6_undo 41 = .ok (.aload_n 0, 1) := by decide +kernel
theorem dX6_undo_42 : decode cX6_undo 42 = .ok (.getfield 42, 3) := by decide +kernel
theorem dX6_undo_45 : decode cX6_undo 45 = .ok (.bipush 63, 2) := by decide +kernel
theorem dX6_undo_47 : decode cX6_undo 47 = .ok (.aload_n 0, 1) := by decide +kernel
theorem dX6_undo_48 : decode cX6_undo 48 = .ok (.getfield 182, 3) := by decide +kernel
theorem dX6_undo_51 : decode cX6_undo 51 = .ok (.imul, 1) := by decide +kernel
theorem dX6_undo_52 : decode cX6_undo 52 = .ok (.iload_n 2, 1) := by decide +kernel
theorem dX6_undo_53 : decode cX6_undo 53 = .ok (.iadd, 1) := by decide +kernel
theorem dX6_undo_54 : decode cX6_undo 54 = .ok (.iaload, 1) := by decide +kernel
theorem dX6_undo_55 : decode cX6_undo 55 = .ok (.iastore, 1) := by decide +kernel
theorem dX6_undo_56 : decode cX6_undo 56 = .ok (.iinc 2 1, 3) := by decide +kernel
theorem dX6_undo_59 : decode cX6_undo 59 = .ok (.goto (-29), 3) := by decide +kernel
theorem dX6_undo_62 : decode cX6_undo 62 = .ok (.aload_n 0, 1) := by decide +kernel
theorem dX6_undo_63 : decode cX6_undo 63 = .ok (.aload_n 0, 1) := by decide +kernel
theorem dX6_undo_64 : decode cX6_undo 64 = .ok (.getfield 7, 3) := by decide +kernel
theorem dX6_undo_67 : decode cX6_undo 67 = .ok (.bipush 60, 2) := by decide +kernel
theorem dX6_undo_69 : decode cX6_undo 69 = .ok (.iaload, 1) := by decide +kernel
theorem dX6_undo_70 : decode cX6_undo 70 = .ok (.iload_n 1, 1) := by decide +kernel
theorem dX6_undo_71 : decode cX6_undo 71 = .ok (.if_icmp .ne 10, 3) := by decide +kernel
theorem dX6_undo_74 : decode cX6_undo 74 = .ok (.aload_n 0, 1) := by decide +kernel
theorem dX6_undo_75 : decode cX6_undo 75 = .ok (.getfield 51, 3) := by decide +kernel
theorem dX6_undo_78 : decode cX6_undo 78 = .ok (.goto 4, 3) := by decide +kernel
theorem dX6_undo_81 : decode cX6_undo 81 = .ok (.iconst 0, 1) := by decide +kernel
theorem dX6_undo_82 : decode cX6_undo 82 = .ok (.putfield 51, 3) := by decide +kernel
theorem dX6_undo_85 : decode cX6_undo 85 = .ok (.aload_n 0, 1) := by decide +kernel
theorem dX6_undo_86 : decode cX6_undo 86 = .ok (.getfield 182, 3) := by decide +kernel
theorem dX6_undo_89 : decode cX6_undo 89 = .ok (.ireturn, 1) := by decide +kernel
set_option maxRecDepth 20000 in
theorem ggX6_set_X6_isLetter : GoodIn wsX6_set wsX6_isLetter := goodIn_r _ [9, 10, 11, 12, 8, 13, 14, 15, 16, 17, 18, 19, 20, 21, 22, 23, 24, 25, 26, 27, 28, 29, 30] (by decide +kernel) (by decide +kernel)
set_option maxRecDepth 20000 in
theorem gX6_set_X6_isLetter : GoodIn wsX6_set (wsV RX6 187 RX6 yX6_isLetter wsX6_isLetter) := goodIn_app (goodIn_of _ (by decide +kernel)) ggX6_set_X6_isLetter
theorem dX6_set_0 : decode cX6_set 0 = .ok (.aload_n 0, 1) := by decide +kernel
theorem dX6_set_1 : decode cX6_set 1 = .ok (.iload_n 1, 1) := by decide +kernel
theorem dX6_set_2 : decode cX6_set 2 = .ok (.invokevirtual 187, 3) := by decide +kernel
theorem dX6_set_5 : decode cX6_set 5 = .ok (.ifCond .ne 6, 3) := by decide +kernel
theorem dX6_set_8 : decode cX6_set 8 = .ok (.ldc 190, 2) := by decide +kernel
theorem dX6_set_10 : decode cX6_set 10 = .ok (.ireturn, 1) := by decide +kernel
theorem dX6_set_11 : decode cX6_set 11 = .ok (.aload_n 0, 1) := by decide +kernel
theorem dX6_set_12 : decode cX6_set 12 = .ok (.getfield 51, 3) := by decide +kernel
theorem dX6_set_15 : decode cX6_set 15 = .ok (.bipush 16, 2) := by decide +kernel
theorem dX6_set_17 : decode cX6_set 17 = .ok (.if_icmp .ne 6, 3) := by decide +kernel
theorem dX6_set_20 : decode cX6_set 20 = .ok (.ldc 239, 2) := by decide +kernel
theorem dX6_set_22 : decode cX6_set 22 = .ok (.ireturn, 1) := by decide +kernel
theorem dX6_set_23 : decode cX6_set 23 = .ok (.aload_n 0, 1) := by decide +kernel
theorem dX6_set_24 : decode cX6_set 24 = .ok (.getfield 13, 3) := by decide +kernel
theorem dX6_set_27 : decode cX6_set 27 = .ok (.aload_n 0, 1) := by decide +kernel
theorem dX6_set_28 : decode cX6_set 28 = .ok (.getfield 51, 3) := by decide +kernel
theorem dX6_set_31 : decode cX6_set 31 = .ok (.iload_n 1, 1) := by decide +kernel
theorem dX6_set_32 : decode cX6_set 32 = .ok (.iastore, 1) := by decide +kernel
theorem dX6_set_33 : decode cX6_set 33 = .ok (.aload_n 0, 1) := by decide +kernel
theorem dX6_set_34 : decode cX6_set 34 = .ok (.dup, 1) := by decide +kernel
theorem dX6_set_35 : decode cX6_set 35 = .ok (.getfield 51, 3) := by decide +kernel
theorem dX6_set_38 : decode cX6_set 38 = .ok (.iconst 1, 1) := by decide +kernel
theorem dX6_set_39 : decode cX6_set 39 = .ok (.iadd, 1) := by decide +kernel
theorem dX6_set_40 : decode cX6_set 40 = .ok (.putfield 51, 3) := by decide +kernel
theorem dX6_set_43 : decode cX6_set 43 = .ok (.aload_n 0, 1) := by decide +kernel
theorem dX6_set_44 : decode cX6_set 44 = .ok (.getfield 51, 3) := by decide +kernel
theorem dX6_set_47 : decode cX6_set 47 = .ok (.ireturn, 1) := by decide +kernel
theorem dX6_wipe_0 : decode cX6_wipe 0 = .ok (.aload_n 0, 1) := by decide +kernel
theorem dX6_wipe_1 : decode cX6_wipe 1 = .ok (.getfield 51, 3) := by decide +kernel
theorem dX6_wipe_4 : decode cX6_wipe 4 = .ok (.istore_n 1, 1) := by decide +kernel
theorem dX6_wipe_5 : decode cX6_wipe 5 = .ok (.aload_n 0, 1) := by decide +kernel
theorem dX6_wipe_6 : decode cX6_wipe 6 = .ok (.iconst 0, 1) := by decide +kernel
theorem dX6_wipe_7 : decode cX6_wipe 7 = .ok (.putfield 51, 3) := by decide +kernel
theorem dX6_wipe_10 : decode cX6_wipe 10 = .ok (.iload_n 1, 1) := by decide +kernel
theorem dX6_wipe_11 : decode cX6_wipe 11 = .ok (.ireturn, 1) := by decide +kernel
theorem dX6_place_0 : decode cX6_place 0 = .ok (.iload_n 1, 1) := by decide +kernel
theorem dX6_place_1 : decode cX6_place 1 = .ok (.ifCond .ge 8, 3) := by decide +kernel
theorem dX6_place_4 : decode cX6_place 4 = .ok (.ldc 197, 2) := by decide +kernel
theorem dX6_place_6 : decode cX6_place 6 = .ok (.goto 21, 3) := by decide +kernel
theorem dX6_place_9 : decode cX6_place 9 = .ok (.iload_n 1, 1) := by decide +kernel
theorem dX6_place_10 : decode cX6_place 10 = .ok (.aload_n 0, 1) := by decide +kernel
theorem dX6_place_11 : decode cX6_place 11 = .ok (.getfield 51, 3) := by decide +kernel
theorem dX6_place_14 : decode cX6_place 14 = .ok (.if_icmp .ge 12, 3) := by decide +kernel
theorem dX6_place_17 : decode cX6_place 17 = .ok (.aload_n 0, 1) := by decide +kernel
theorem dX6_place_18 : decode cX6_place 18 = .ok (.getfield 13, 3) := by decide +kernel
theorem dX6_place_21 : decode cX6_place 21 = .ok (.iload_n 1, 1) := by decide +kernel
theorem dX6_place_22 : decode cX6_place 22 = .ok (.iaload, 1) := by decide +kernel
theorem dX6_place_23 : decode cX6_place 23 = .ok (.goto 4, 3) := by decide +kernel
theorem dX6_place_26 : decode cX6_place 26 = .ok (.iconst (-1), 1) := by decide +kernel
theorem dX6_place_27 : decode cX6_place 27 = .ok (.ireturn, 1) := by decide +kernel
set_option maxRecDepth 20000 in
theorem ggX6_sign_X6_writeLine : GoodIn wsX6_sign wsX6_writeLine := goodIn_r _ [8, 2, 9, 10, 11, 12, 13, 14, 15, 7, 16, 17, 18, 19, 20, 21, 22, 23, 24, 25, 26, 27, 28, 29, 30, 31, 32, 33, 34, 35, 36, 37, 38, 39, 40, 41, 42, 43, 44, 45, 46, 47, 48, 49, 50, 51, 52, 53, 54, 55, 56, 57, 58, 59, 60, 61, 62, 63, 64, 65, 66, 67, 68, 69, 3, 70, 71, 72, 73, 74, 75, 76, 77, 78, 79, 80, 81, 82, 83, 84, 85, 86, 87, 88, 89, 90, 91, 92, 93, 94, 95, 96, 97, 98, 99, 100, 101, 102, 103, 104, 105, 106, 107, 108, 109, 110, 111, 112, 113] (by decide +kernel) (by decide +kernel)
set_option maxRecDepth 20000 in
theorem gX6_sign_X6_writeLine : GoodIn wsX6_sign (wsV RX6 164 RX6 yX6_writeLine wsX6_writeLine) := goodIn_app (goodIn_of _ (by decide +kernel)) ggX6_sign_X6_writeLine
theorem dX6_sign_0 : decode cX6_sign 0 = .ok (.iload_n 1, 1) := by decide +kernel
theorem dX6_sign_1 : decode cX6_sign 1 = .ok (.ifCond .ge 6, 3) := by decide +kernel
theorem dX6_sign_4 : decode cX6_sign 4 = .ok (.ldc 197, 2) := by decide +kernel
theorem dX6_sign_6 : decode cX6_sign 6 = .ok (.ireturn, 1) := by decide +kernel
theorem dX6_sign_7 : decode cX6_sign 7 = .ok (.aload_n 0, 1) := by decide +kernel
theorem dX6_sign_8 : decode cX6_sign 8 = .ok (.invokevirtual 164, 3) := by decide +kernel
theorem dX6_sign_11 : decode cX6_sign 11 = .ok (.iload_n 1, 1) := by decide +kernel
theorem dX6_sign_12 : decode cX6_sign 12 = .ok (.aload_n 0, 1) := by decide +kernel
theorem dX6_sign_13 : decode cX6_sign 13 = .ok (.getfield 137, 3) := by decide +kernel
theorem dX6_sign_16 : decode cX6_sign 16 = .ok (.if_icmp .ge 12, 3) := by decide +kernel
theorem dX6_sign_19 : decode cX6_sign 19 = .ok (.aload_n 0, 1) := by decide +kernel
theorem dX6_sign_20 : decode cX6_sign 20 = .ok (.getfield 39, 3) := by decide +kernel
theorem dX6_sign_23 : decode cX6_sign 23 = .ok (.iload_n 1, 1) := by decide +kernel
theorem dX6_sign_24 : decode cX6_sign 24 = .ok (.iaload, 1) := by decide +kernel
theorem dX6_sign_25 : decode cX6_sign 25 = .ok (.goto 4, 3) := by decide +kernel
theorem dX6_sign_28 : decode cX6_sign 28 = .ok (.iconst (-1), 1) := by decide +kernel
theorem dX6_sign_29 : decode cX6_sign 29 = .ok (.ireturn, 1) := by decide +kernel
set_option maxRecDepth 20000 in
theorem ggX6_keep_X6_in : GoodIn wsX6_keep wsX6_in := goodIn_r _ [9] (by decide +kernel) (by decide +kernel)
set_option maxRecDepth 20000 in
theorem gX6_keep_X6_in : GoodIn wsX6_keep (va_wsS RX6 63 yX6_in wsX6_in) := goodIn_app (goodIn_of _ (by decide +kernel)) ggX6_keep_X6_in
theorem dX6_keep_0 : decode cX6_keep 0 = .ok (.iload_n 1, 1) := by decide +kernel
theorem dX6_keep_1 : decode cX6_keep 1 = .ok (.i2l, 1) := by decide +kernel
theorem dX6_keep_2 : decode cX6_keep 2 = .ok (.lconst 0, 1) := by decide +kernel
theorem dX6_keep_3 : decode cX6_keep 3 = .ok (.lconst 1, 1) := by decide +kernel
theorem dX6_keep_4 : decode cX6_keep 4 = .ok (.invokestatic 63, 3) := by decide +kernel
theorem dX6_keep_7 : decode cX6_keep 7 = .ok (.ifCond .ne 6, 3) := by decide +kernel
theorem dX6_keep_10 : decode cX6_keep 10 = .ok (.ldc 190, 2) := by decide +kernel
theorem dX6_keep_12 : decode cX6_keep 12 = .ok (.ireturn, 1) := by decide +kernel
theorem dX6_keep_13 : decode cX6_keep 13 = .ok (.iconst 0, 1) := by decide +kernel
theorem dX6_keep_14 : decode cX6_keep 14 = .ok (.istore_n 2, 1) := by decide +kernel
theorem dX6_keep_15 : decode cX6_keep 15 = .ok (.iload_n 2, 1) := by decide +kernel
theorem dX6_keep_16 : decode cX6_keep 16 = .ok (.bipush 63, 2) := by decide +kernel
theorem dX6_keep_18 : decode cX6_keep 18 = .ok (.if_icmp .ge 26, 3) := by decide +kernel
theorem dX6_keep_21 : decode cX6_keep 21 = .ok (.aload_n 0, 1) := by decide +kernel
theorem dX6_keep_22 : decode cX6_keep 22 = .ok (.getfield 45, 3) := by decide +kernel
theorem dX6_keep_25 : decode cX6_keep 25 = .ok (.bipush 63, 2) := by decide +kernel
theorem dX6_keep_27 : decode cX6_keep 27 = .ok (.iload_n 1, 1) := by decide +kernel
theorem dX6_keep_28 : decode cX6_keep 28 = .ok (.imul, 1) := by decide +kernel
theorem dX6_keep_29 : decode cX6_keep 29 = .ok (.iload_n 2, 1) := by decide +kernel
theorem dX6_keep_30 : decode cX6_keep 30 = .ok (.iadd, 1) := by decide +kernel
theorem dX6_keep_31 : decode cX6_keep 31 = .ok (.aload_n 0, 1) := by decide +kernel
theorem dX6_keep_32 : decode cX6_keep 32 = .ok (.getfield 7, 3) := by decide +kernel
theorem dX6_keep_35 : decode cX6_keep 35 = .ok (.iload_n 2, 1) := by decide +kernel
theorem dX6_keep_36 : decode cX6_keep 36 = .ok (.iaload, 1) := by decide +kernel
theorem dX6_keep_37 : decode cX6_keep 37 = .ok (.iastore, 1) := by decide +kernel
theorem dX6_keep_38 : decode cX6_keep 38 = .ok (.iinc 2 1, 3) := by decide +kernel
theorem dX6_keep_41 : decode cX6_keep 41 = .ok (.goto (-26), 3) := by decide +kernel
theorem dX6_keep_44 : decode cX6_keep 44 = .ok (.aload_n 0, 1) := by decide +kernel
theorem dX6_keep_45 : decode cX6_keep 45 = .ok (.getfield 48, 3) := by decide +kernel
theorem dX6_keep_48 : decode cX6_keep 48 = .ok (.iload_n 1, 1) := by decide +kernel
theorem dX6_keep_49 : decode cX6_keep 49 = .ok (.iconst 1, 1) := by decide +kernel
theorem dX6_keep_50 : decode cX6_keep 50 = .ok (.bastore, 1) := by decide +kernel
theorem dX6_keep_51 : decode cX6_keep 51 = .ok (.aload_n 0, 1) := by decide +kernel
theorem dX6_keep_52 : decode cX6_keep 52 = .ok (.iconst 0, 1) := by decide +kernel
theorem dX6_keep_53 : decode cX6_keep 53 = .ok (.putfield 182, 3) := by decide +kernel
theorem dX6_keep_56 : decode cX6_keep 56 = .ok (.aload_n 0, 1) := by decide +kernel
theorem dX6_keep_57 : decode cX6_keep 57 = .ok (.getfield 7, 3) := by decide +kernel
theorem dX6_keep_60 : decode cX6_keep 60 = .ok (.bipush 60, 2) := by decide +kernel
theorem dX6_keep_62 : decode cX6_keep 62 = .ok (.iaload, 1) := by decide +kernel
theorem dX6_keep_63 : decode cX6_keep 63 = .ok (.ireturn, 1) := by decide +kernel
set_option maxRecDepth 20000 in
theorem ggX6_goBack_X6_in : GoodIn wsX6_goBack wsX6_in := goodIn_r _ [11] (by decide +kernel) (by decide +kernel)
set_option maxRecDepth 20000 in
theorem gX6_goBack_X6_in : GoodIn wsX6_goBack (va_wsS RX6 63 yX6_in wsX6_in) := goodIn_app (goodIn_of _ (by decide +kernel)) ggX6_goBack_X6_in
theorem dX6_goBack_0 : decode cX6_goBack 0 = .ok (.iload_n 1, 1) := by decide +kernel
theorem dX6_goBack_1 : decode cX6_goBack 1 = .ok (.i2l, 1) := by decide +kernel
theorem dX6_goBack_2 : decode cX6_goBack 2 = .ok (.lconst 0, 1) := by decide +kernel
theorem dX6_goBack_3 : decode cX6_goBack 3 = .ok (.lconst 1, 1) := by decide +kernel
theorem dX6_goBack_4 : decode cX6_goBack 4 = .ok (.invokestatic 63, 3) := by decide +kernel
theorem dX6_goBack_7 : decode cX6_goBack 7 = .ok (.ifCond .ne 6, 3) := by decide +kernel
theorem dX6_goBack_10 : decode cX6_goBack 10 = .ok (.ldc 190, 2) := by decide +kernel
theorem dX6_goBack_12 : decode cX6_goBack 12 = .ok (.ireturn, 1) := by decide +kernel
theorem dX6_goBack_13 : decode cX6_goBack 13 = .ok (.aload_n 0, 1) := by decide +kernel
theorem dX6_goBack_14 : decode cX6_goBack 14 = .ok (.getfield 48, 3) := by decide +kernel
theorem dX6_goBack_17 : decode cX6_goBack 17 = .ok (.iload_n 1, 1) := by decide +kernel
theorem dX6_goBack_18 : decode cX6_goBack 18 = .ok (.baload, 1) := by decide +kernel
theorem dX6_goBack_19 : decode cX6_goBack 19 = .ok (.ifCond .ne 6, 3) := by decide +kernel
theorem dX6_goBack_22 : decode cX6_goBack 22 = .ok (.ldc 238, 2) := by decide +kernel
theorem dX6_goBack_24 : decode cX6_goBack 24 = .ok (.ireturn, 1) := by decide +kernel
theorem dX6_goBack_25 : decode cX6_goBack 25 = .ok (.iconst 0, 1) := by decide +kernel
theorem dX6_goBack_26 : decode cX6_goBack 26 = .ok (.istore_n 2, 1) := by decide +kernel
theorem dX6_goBack_27 : decode cX6_goBack 27 = .ok (.iload_n 2, 1) := by decide +kernel
theorem dX6_goBack_28 : decode cX6_goBack 28 = .ok (.bipush 63, 2) := by decide +kernel
theorem dX6_goBack_30 : decode cX6_goBack 30 = .ok (.if_icmp .ge 26, 3) := by decide +kernel
theorem dX6_goBack_33 : decode cX6_goBack 33 = .ok (.aload_n 0, 1) := by decide +kernel
theorem dX6_goBack_34 : decode cX6_goBack 34 = .ok (.getfield 7, 3) := by decide +kernel
theorem dX6_goBack_37 : decode cX6_goBack 37 = .ok (.iload_n 2, 1) := by decide +kernel
theorem dX6_goBack_38 : decode cX6_goBack 38 = .ok (.aload_n 0, 1) := by decide +kernel
theorem dX6_goBack_39 : decode cX6_goBack 39 = .ok (.getfield 45, 3) := by decide +kernel
theorem dX6_goBack_42 : decode cX6_goBack 42 = .ok (.bipush 63, 2) := by decide +kernel
theorem dX6_goBack_44 : decode cX6_goBack 44 = .ok (.iload_n 1, 1) := by decide +kernel
theorem dX6_goBack_45 : decode cX6_goBack 45 = .ok (.imul, 1) := by decide +kernel
theorem dX6_goBack_46 : decode cX6_goBack 46 = .ok (.iload_n 2, 1) := by decide +kernel
theorem dX6_goBack_47 : decode cX6_goBack 47 = .ok (.iadd, 1) := by decide +kernel
theorem dX6_goBack_48 : decode cX6_goBack 48 = .ok (.iaload, 1) := by decide +kernel
theorem dX6_goBack_49 : decode cX6_goBack 49 = .ok (.iastore, 1) := by decide +kernel
theorem dX6_goBack_50 : decode cX6_goBack 50 = .ok (.iinc 2 1, 3) := by decide +kernel
theorem dX6_goBack_53 : decode cX6_goBack 53 = .ok (.goto (-26), 3) := by decide +kernel
theorem dX6_goBack_56 : decode cX6_goBack 56 = .ok (.aload_n 0, 1) := by decide +kernel
theorem dX6_goBack_57 : decode cX6_goBack 57 = .ok (.iconst 0, 1) := by decide +kernel
theorem dX6_goBack_58 : decode cX6_goBack 58 = .ok (.putfield 51, 3) := by decide +kernel
theorem dX6_goBack_61 : decode cX6_goBack 61 = .ok (.aload_n 0, 1) := by decide +kernel
theorem dX6_goBack_62 : decode cX6_goBack 62 = .ok (.iconst 0, 1) := by decide +kernel
theorem dX6_goBack_63 : decode cX6_goBack 63 = .ok (.putfield 182, 3) := by decide +kernel
theorem dX6_goBack_66 : decode cX6_goBack 66 = .ok (.aload_n 0, 1) := by decide +kernel
theorem dX6_goBack_67 : decode cX6_goBack 67 = .ok (.getfield 7, 3) := by decide +kernel
theorem dX6_goBack_70 : decode cX6_goBack 70 = .ok (.bipush 60, 2) := by decide +kernel
theorem dX6_goBack_72 : decode cX6_goBack 72 = .ok (.iaload, 1) := by decide +kernel
theorem dX6_goBack_73 : decode cX6_goBack 73 = .ok (.ireturn, 1) := by decide +kernel
theorem dJ9_floorDiv_f86c9_0 : decode cJ9_floorDiv_f86c9 0 = .ok (.lload_n 0, 1) := by decide +kernel
theorem dJ9_floorDiv_f86c9_1 : decode cJ9_floorDiv_f86c9 1 = .ok (.lload_n 2, 1) := by decide +kernel
theorem dJ9_floorDiv_f86c9_2 : decode cJ9_floorDiv_f86c9 2 = .ok (.ldiv, 1) := by decide +kernel
theorem dJ9_floorDiv_f86c9_3 : decode cJ9_floorDiv_f86c9 3 = .ok (.lstore 4, 2) := by decide +kernel
theorem dJ9_floorDiv_f86c9_5 : decode cJ9_floorDiv_f86c9 5 = .ok (.lload_n 0, 1) := by decide +kernel
theorem dJ9_floorDiv_f86c9_6 : decode cJ9_floorDiv_f86c9 6 = .ok (.lload_n 2, 1) := by decide +kernel
theorem dJ9_floorDiv_f86c9_7 : decode cJ9_floorDiv_f86c9 7 = .ok (.lxor, 1) := by decide +kernel
theorem dJ9_floorDiv_f86c9_8 : decode cJ9_floorDiv_f86c9 8 = .ok (.lconst 0, 1) := by decide +kernel
theorem dJ9_floorDiv_f86c9_9 : decode cJ9_floorDiv_f86c9 9 = .ok (.lcmp, 1) := by decide +kernel
theorem dJ9_floorDiv_f86c9_10 : decode cJ9_floorDiv_f86c9 10 = .ok (.ifCond .ge 17, 3) := by decide +kernel
theorem dJ9_floorDiv_f86c9_13 : decode cJ9_floorDiv_f86c9 13 = .ok (.lload 4, 2) := by decide +kernel
theorem dJ9_floorDiv_f86c9_15 : decode cJ9_floorDiv_f86c9 15 = .ok (.lload_n 2, 1) := by decide +kernel
theorem dJ9_floorDiv_f86c9_16 : decode cJ9_floorDiv_f86c9 16 = .ok (.lmul, 1) := by decide +kernel
theorem dJ9_floorDiv_f86c9_17 : decode cJ9_floorDiv_f86c9 17 = .ok (.lload_n 0, 1) := by decide +kernel
theorem dJ9_floorDiv_f86c9_18 : decode cJ9_floorDiv_f86c9 18 = .ok (.lcmp, 1) := by decide +kernel
theorem dJ9_floorDiv_f86c9_19 : decode cJ9_floorDiv_f86c9 19 = .ok (.ifCond .eq 8, 3) := by decide +kernel
theorem dJ9_floorDiv_f86c9_22 : decode cJ9_floorDiv_f86c9 22 = .ok (.lload 4, 2) := by decide +kernel
theorem dJ9_floorDiv_f86c9_24 : decode cJ9_floorDiv_f86c9 24 = .ok (.lconst 1, 1) := by decide +kernel
theorem dJ9_floorDiv_f86c9_25 : decode cJ9_floorDiv_f86c9 25 = .ok (.lsub, 1) := by decide +kernel
theorem dJ9_floorDiv_f86c9_26 : decode cJ9_floorDiv_f86c9 26 = .ok (.lreturn, 1) := by decide +kernel
theorem dJ9_floorDiv_f86c9_27 : decode cJ9_floorDiv_f86c9 27 = .ok (.lload 4, 2) := by decide +kernel
theorem dJ9_floorDiv_f86c9_29 : decode cJ9_floorDiv_f86c9 29 = .ok (.lreturn, 1) := by decide +kernel
theorem dJ9_floorMod_f86c9_0 : decode cJ9_floorMod_f86c9 0 = .ok (.lload_n 0, 1) := by decide +kernel
theorem dJ9_floorMod_f86c9_1 : decode cJ9_floorMod_f86c9 1 = .ok (.lload_n 2, 1) := by decide +kernel
theorem dJ9_floorMod_f86c9_2 : decode cJ9_floorMod_f86c9 2 = .ok (.lrem, 1) := by decide +kernel
theorem dJ9_floorMod_f86c9_3 : decode cJ9_floorMod_f86c9 3 = .ok (.lstore 4, 2) := by decide +kernel
theorem dJ9_floorMod_f86c9_5 : decode cJ9_floorMod_f86c9 5 = .ok (.lload_n 0, 1) := by decide +kernel
theorem dJ9_floorMod_f86c9_6 : decode cJ9_floorMod_f86c9 6 = .ok (.lload_n 2, 1) := by decide +kernel
theorem dJ9_floorMod_f86c9_7 : decode cJ9_floorMod_f86c9 7 = .ok (.lxor, 1) := by decide +kernel
theorem dJ9_floorMod_f86c9_8 : decode cJ9_floorMod_f86c9 8 = .ok (.lconst 0, 1) := by decide +kernel
theorem dJ9_floorMod_f86c9_9 : decode cJ9_floorMod_f86c9 9 = .ok (.lcmp, 1) := by decide +kernel
theorem dJ9_floorMod_f86c9_10 : decode cJ9_floorMod_f86c9 10 = .ok (.ifCond .ge 15, 3) := by decide +kernel
theorem dJ9_floorMod_f86c9_13 : decode cJ9_floorMod_f86c9 13 = .ok (.lload 4, 2) := by decide +kernel
theorem dJ9_floorMod_f86c9_15 : decode cJ9_floorMod_f86c9 15 = .ok (.lconst 0, 1) := by decide +kernel
theorem dJ9_floorMod_f86c9_16 : decode cJ9_floorMod_f86c9 16 = .ok (.lcmp, 1) := by decide +kernel
theorem dJ9_floorMod_f86c9_17 : decode cJ9_floorMod_f86c9 17 = .ok (.ifCond .eq 8, 3) := by decide +kernel
theorem dJ9_floorMod_f86c9_20 : decode cJ9_floorMod_f86c9 20 = .ok (.lload 4, 2) := by decide +kernel
theorem dJ9_floorMod_f86c9_22 : decode cJ9_floorMod_f86c9 22 = .ok (.lload_n 2, 1) := by decide +kernel
theorem dJ9_floorMod_f86c9_23 : decode cJ9_floorMod_f86c9 23 = .ok (.ladd, 1) := by decide +kernel
theorem dJ9_floorMod_f86c9_24 : decode cJ9_floorMod_f86c9 24 = .ok (.lreturn, 1) := by decide +kernel
theorem dJ9_floorMod_f86c9_25 : decode cJ9_floorMod_f86c9 25 = .ok (.lload 4, 2) := by decide +kernel
theorem dJ9_floorMod_f86c9_27 : decode cJ9_floorMod_f86c9 27 = .ok (.lreturn, 1) := by decide +kernel
theorem dJ9_abs_067f4_0 : decode cJ9_abs_067f4 0 = .ok (.lload_n 0, 1) := by decide +kernel
theorem dJ9_abs_067f4_1 : decode cJ9_abs_067f4 1 = .ok (.lconst 0, 1) := by decide +kernel
theorem dJ9_abs_067f4_2 : decode cJ9_abs_067f4 2 = .ok (.lcmp, 1) := by decide +kernel
theorem dJ9_abs_067f4_3 : decode cJ9_abs_067f4 3 = .ok (.ifCond .ge 8, 3) := by decide +kernel
theorem dJ9_abs_067f4_6 : decode cJ9_abs_067f4 6 = .ok (.lload_n 0, 1) := by decide +kernel
theorem dJ9_abs_067f4_7 : decode cJ9_abs_067f4 7 = .ok (.lneg, 1) := by decide +kernel
theorem dJ9_abs_067f4_8 : decode cJ9_abs_067f4 8 = .ok (.goto 4, 3) := by decide +kernel
theorem dJ9_abs_067f4_11 : decode cJ9_abs_067f4 11 = .ok (.lload_n 0, 1) := by decide +kernel
theorem dJ9_abs_067f4_12 : decode cJ9_abs_067f4 12 = .ok (.lreturn, 1) := by decide +kernel
theorem dJ9_max_7cf53_0 : decode cJ9_max_7cf53 0 = .ok (.iload_n 0, 1) := by decide +kernel
theorem dJ9_max_7cf53_1 : decode cJ9_max_7cf53 1 = .ok (.iload_n 1, 1) := by decide +kernel
theorem dJ9_max_7cf53_2 : decode cJ9_max_7cf53 2 = .ok (.if_icmp .lt 7, 3) := by decide +kernel
theorem dJ9_max_7cf53_5 : decode cJ9_max_7cf53 5 = .ok (.iload_n 0, 1) := by decide +kernel
theorem dJ9_max_7cf53_6 : decode cJ9_max_7cf53 6 = .ok (.goto 4, 3) := by decide +kernel
theorem dJ9_max_7cf53_9 : decode cJ9_max_7cf53 9 = .ok (.iload_n 1, 1) := by decide +kernel
theorem dJ9_max_7cf53_10 : decode cJ9_max_7cf53 10 = .ok (.ireturn, 1) := by decide +kernel
theorem dJ9_max_f86c9_0 : decode cJ9_max_f86c9 0 = .ok (.lload_n 0, 1) := by decide +kernel
theorem dJ9_max_f86c9_1 : decode cJ9_max_f86c9 1 = .ok (.lload_n 2, 1) := by decide +kernel
theorem dJ9_max_f86c9_2 : decode cJ9_max_f86c9 2 = .ok (.lcmp, 1) := by decide +kernel
theorem dJ9_max_f86c9_3 : decode cJ9_max_f86c9 3 = .ok (.ifCond .lt 7, 3) := by decide +kernel
theorem dJ9_max_f86c9_6 : decode cJ9_max_f86c9 6 = .ok (.lload_n 0, 1) := by decide +kernel
theorem dJ9_max_f86c9_7 : decode cJ9_max_f86c9 7 = .ok (.goto 4, 3) := by decide +kernel
theorem dJ9_max_f86c9_10 : decode cJ9_max_f86c9 10 = .ok (.lload_n 2, 1) := by decide +kernel
theorem dJ9_max_f86c9_11 : decode cJ9_max_f86c9 11 = .ok (.lreturn, 1) := by decide +kernel
theorem dJ9_min_7cf53_0 : decode cJ9_min_7cf53 0 = .ok (.iload_n 0, 1) := by decide +kernel
theorem dJ9_min_7cf53_1 : decode cJ9_min_7cf53 1 = .ok (.iload_n 1, 1) := by decide +kernel
theorem dJ9_min_7cf53_2 : decode cJ9_min_7cf53 2 = .ok (.if_icmp .gt 7, 3) := by decide +kernel
theorem dJ9_min_7cf53_5 : decode cJ9_min_7cf53 5 = .ok (.iload_n 0, 1) := by decide +kernel
theorem dJ9_min_7cf53_6 : decode cJ9_min_7cf53 6 = .ok (.goto 4, 3) := by decide +kernel
theorem dJ9_min_7cf53_9 : decode cJ9_min_7cf53 9 = .ok (.iload_n 1, 1) := by decide +kernel
theorem dJ9_min_7cf53_10 : decode cJ9_min_7cf53 10 = .ok (.ireturn, 1) := by decide +kernel
end
section
/-! ===== the environment: class numbers of the worlds' objects and of the arrays, the nest's links ===== -/
abbrev xG : Type := va_G × ClassId × ClassId × ClassId × ClassId × ClassId
abbrev xD (E : xG) : va_G := E.1
abbrev xI (E : xG) : ClassId := E.2.1
abbrev xJ (E : xG) : ClassId := E.2.2.1
abbrev xZ (E : xG) : ClassId := E.2.2.2.1
abbrev xFo (E : xG) : ClassId := E.2.2.2.2.1
abbrev xRo (E : xG) : ClassId := E.2.2.2.2.2
abbrev xT (E : xG) : List (ClassId × FieldType) := [(xI E, .int), (xJ E, .long), (xZ E, .boolean), (xFo E, .object RX1), (xRo E, .array .long)]
def xK (E : xG) (U : State) : Prop := va_K (xD E) vwCl (xT E) U ∧ va_Nw (.methodLinkNest RX1 41 yX5_within RX5) U ∧ va_Nw (.methodLinkNest RX2 70 yX5_aboveOf RX5) U ∧ va_Nw (.methodLinkNest RX2 78 yX5_belowOf RX5) U ∧ va_Nw (.methodLinkNest RX2 34 yX5_within RX5) U ∧ va_Nw (.methodLinkNest RX4 31 yX5_within RX5) U
theorem xK.warm {E : xG} {s U : State} (hW : s.WarmedH U.vm) (h : xK E s) : xK E U := ⟨va_K.moved hW.alike h.1, va_Nw.warmM hW h.2.1, va_Nw.warmM hW h.2.2.1, va_Nw.warmM hW h.2.2.2.1, va_Nw.warmM hW h.2.2.2.2.1, va_Nw.warmM hW h.2.2.2.2.2⟩
theorem xK.calling {E : xG} {U : State} {g : JFrame} {mk : MethodId} {a : Array Value} (h : xK E U) : xK E (U.calling g mk a) := ⟨va_K.moved (u := U) (U := U.calling g mk a) (Vm.Alike.refl U.vm) h.1, va_Nw.same rfl rfl h.2.1, va_Nw.same rfl rfl h.2.2.1, va_Nw.same rfl rfl h.2.2.2.1, va_Nw.same rfl rfl h.2.2.2.2.1, va_Nw.same rfl rfl h.2.2.2.2.2⟩
/-! ===== the pure language: what a read, a write, a division may refuse ===== -/
def rdI (f : Nat → Int32) (n : Nat) (i : Int32) : Option Int32 := if i < 0 ∨ n ≤ i.toNatClampNeg then none else some (f i.toNatClampNeg)
def rdJ (f : Nat → Int64) (n : Nat) (i : Int32) : Option Int64 := if i < 0 ∨ n ≤ i.toNatClampNeg then none else some (f i.toNatClampNeg)
def wrI (f : Nat → Int32) (n : Nat) (i : Int32) (x : Int32) : Option (Nat → Int32) := if i < 0 ∨ n ≤ i.toNatClampNeg then none else some (upd f i.toNatClampNeg x)
def wrZ (f : Nat → Int32) (n : Nat) (i : Int32) (x : Int32) : Option (Nat → Int32) := if i < 0 ∨ n ≤ i.toNatClampNeg then none else some (upd f i.toNatClampNeg (vp_nar .boolean x))
def wrJ (f : Nat → Int64) (n : Nat) (i : Int32) (x : Int64) : Option (Nat → Int64) := if i < 0 ∨ n ≤ i.toNatClampNeg then none else some (vp_updL f i.toNatClampNeg x)
def rdX (n : Nat) (i : Int32) : Option Nat := if i < 0 ∨ n ≤ i.toNatClampNeg then none else some i.toNatClampNeg
def dvJ (x y : Int64) : Option Int64 := if y = 0 then none else some (x / y)
def rmJ (x y : Int64) : Option Int64 := if y = 0 then none else some (x - x / y * y)
def lp {σ ρ : Type} (g : (σ → Option ρ) → σ → Option ρ) : Nat → σ → Option ρ
  | 0 => fun _ => none
  | n + 1 => g (lp g n)
theorem ob {α β : Type} {o : Option α} {k : α → Option β} {r : β} (h : o.bind k = some r) : ∃ a, o = some a ∧ k a = some r := by
  cases o with
  | none => cases h
  | some a => exact ⟨a, rfl, h⟩
theorem rdI_ok {f : Nat → Int32} {n : Nat} {i v : Int32} (h : rdI f n i = some v) : vp_in i n ∧ f i.toNatClampNeg = v := by
  unfold rdI at h
  split at h
  · cases h
  · exact ⟨‹_›, Option.some.inj h⟩
theorem rdJ_ok {f : Nat → Int64} {n : Nat} {i : Int32} {v : Int64} (h : rdJ f n i = some v) : vp_in i n ∧ f i.toNatClampNeg = v := by
  unfold rdJ at h
  split at h
  · cases h
  · exact ⟨‹_›, Option.some.inj h⟩
theorem rdX_ok {n : Nat} {i : Int32} {v : Nat} (h : rdX n i = some v) : vp_in i n ∧ i.toNatClampNeg = v := by
  unfold rdX at h
  split at h
  · cases h
  · exact ⟨‹_›, Option.some.inj h⟩
theorem wrI_ok {f f' : Nat → Int32} {n : Nat} {i v : Int32} (h : wrI f n i v = some f') : vp_in i n ∧ upd f i.toNatClampNeg v = f' := by
  unfold wrI at h
  split at h
  · cases h
  · exact ⟨‹_›, Option.some.inj h⟩
theorem wrZ_ok {f f' : Nat → Int32} {n : Nat} {i v : Int32} (h : wrZ f n i v = some f') : vp_in i n ∧ upd f i.toNatClampNeg (vp_nar .boolean v) = f' := by
  unfold wrZ at h
  split at h
  · cases h
  · exact ⟨‹_›, Option.some.inj h⟩
theorem wrJ_ok {f f' : Nat → Int64} {n : Nat} {i : Int32} {v : Int64} (h : wrJ f n i v = some f') : vp_in i n ∧ vp_updL f i.toNatClampNeg v = f' := by
  unfold wrJ at h
  split at h
  · cases h
  · exact ⟨‹_›, Option.some.inj h⟩
theorem dvJ_ok {x y v : Int64} (h : dvJ x y = some v) : ¬ y = 0 ∧ x / y = v := by
  unfold dvJ at h
  split at h
  · cases h
  · exact ⟨‹_›, Option.some.inj h⟩
theorem rmJ_ok {x y v : Int64} (h : rmJ x y = some v) : ¬ y = 0 ∧ x - x / y * y = v := by
  unfold rmJ at h
  split at h
  · cases h
  · exact ⟨‹_›, Option.some.inj h⟩
/-! ===== contracts: read-only (the heap is the same), and changing (the world is another, nothing else) ===== -/
def xPre (E : xG) (av : List Value) (ws : va_W) : Array Value → State → Prop := fun v U => v = av.toArray ∧ va_P (xD E) vwCl ws U.heap ∧ xK E U
def xRet (rv : Value) : Array Value → State → Outcome → State → Prop := fun _ st o t => o = .returned (some rv) ∧ t.heap = st.heap
def xA (ws : va_W) : Nat → Prop := fun q => ∃ (k : Nat) (e : va_E), ws[k]? = some (q, e)
def xPreM (E : xG) (av : List Value) (ws : va_W) : Array Value → State → Prop := fun v U => v = av.toArray ∧ va_P (xD E) vwCl ws U.heap ∧ xK E U ∧ va_D (fun _ => True) ws
def xRetM (E : xG) (rv : Option Value) (ws w1 : va_W) : Array Value → State → Outcome → State → Prop := fun _ st o t => o = .returned rv ∧ va_P (xD E) vwCl w1 t.heap ∧ va_F (xA ws) st t
abbrev xPure (l : Launch) (y : MethodName) (wsY : List Cond) (rm : Room) (E : xG) (av : List Value) (ws : va_W) (rv : Value) : Prop := Met l y wsY rm (xPre E av ws) (xRet rv) 0 0 (fun _ => False)
abbrev xMut (l : Launch) (y : MethodName) (wsY : List Cond) (rm : Room) (E : xG) (av : List Value) (ws : va_W) (rv : Option Value) (w1 : va_W) : Prop := Met l y wsY rm (xPreM E av ws) (xRetM E rv ws w1) 0 0 (xA ws)
theorem xPre.blind {E : xG} {av : List Value} {ws : va_W} : FrameBlind (xPre E av ws) := fun _ _ _ _ q => ⟨q.1, q.2.1, q.2.2.calling⟩
theorem xPreM.blind {E : xG} {av : List Value} {ws : va_W} : FrameBlind (xPreM E av ws) := fun _ _ _ _ q => ⟨q.1, q.2.1, q.2.2.1.calling, q.2.2.2⟩
theorem xA.self {ws : va_W} {A : Nat → Prop} (h : va_D A ws) : va_D (xA ws) ws := ⟨h.1, fun k q hk => ⟨k, q.2, hk⟩⟩
/-- entries of ws at the places isC replaced by those of w1 -/
def x_put (ws : va_W) : List Nat → va_W → va_W
  | [], _ => ws
  | _, [] => ws
  | i :: is, e :: es => x_put (ws.set i e) is es
theorem x_put_at : ∀ (isC : List Nat) (w1 ws : va_W) (k : Nat) (q : Nat × va_E), isC.length = w1.length → (x_put ws isC w1)[k]? = some q → (∃ j : Nat, w1[j]? = some q ∧ isC[j]? = some k) ∨ (ws[k]? = some q ∧ k ∉ isC)
  | [], [], ws, k, q, _, h => Or.inr ⟨h, List.not_mem_nil⟩
  | [], _ :: _, _, _, _, hl, _ => by cases hl
  | _ :: _, [], _, _, _, hl, _ => by cases hl
  | i :: is, e :: es, ws, k, q, hl, h => by
    rcases x_put_at is es (ws.set i e) k q (by simpa using hl) h with ⟨j, h1, h2⟩ | ⟨h1, h2⟩
    · exact Or.inl ⟨j + 1, by simpa using h1, by simpa using h2⟩
    · by_cases hk : i = k
      · subst hk
        rw [List.getElem?_set] at h1
        split at h1
        · split at h1
          · exact Or.inl ⟨0, by simpa using h1, by simp⟩
          · cases h1
        · exact absurd rfl ‹_›
      · rw [List.getElem?_set_ne hk] at h1
        exact Or.inr ⟨h1, by
          intro hm
          rcases List.mem_cons.mp hm with h | h
          · exact hk h.symm
          · exact h2 h⟩
theorem x_at {is : List Nat} {ws w : va_W} (hs : is.map (fun i => ws[i]?) = w.map some) {k : Nat} {q : Nat × va_E} (hq : w[k]? = some q) : ∃ i, is[k]? = some i ∧ ws[i]? = some q := by
  have h1 : (is.map (fun i => ws[i]?))[k]? = some (some q) := by rw [hs, List.getElem?_map, hq]; rfl
  rw [List.getElem?_map] at h1
  cases hi : is[k]? with
  | none => rw [hi] at h1; cases h1
  | some i => rw [hi] at h1; exact ⟨i, rfl, Option.some.inj h1⟩
/-- behind a changing call: the caller's world with the callee's cells in their places -/
theorem x_join {A : Nat → Prop} {D : va_G} {cl : List vw_C} {ws wc w1 : va_W} {H H1 : Heap} (hP : va_P D cl ws H) (hD : va_D A ws) (isC : List Nat) (hC : isC.map (fun i => ws[i]?) = wc.map some) (ha : w1.map (fun q => q.1) = wc.map (fun q => q.1))
    (hk : ∀ q : Nat, q < H.size → ¬ xA wc q → H1[q]? = H[q]?) (hP1 : va_P D cl w1 H1) : va_P D cl (x_put ws isC w1) H1 ∧ va_D A (x_put ws isC w1) := by
  have hlen : isC.length = w1.length := by
    have h1 : isC.length = wc.length := by simpa using congrArg List.length hC
    have h2 : w1.length = wc.length := by simpa using congrArg List.length ha
    omega
  have old : ∀ (k : Nat) (q : Nat × va_E), (x_put ws isC w1)[k]? = some q → ∃ q0 : Nat × va_E, ws[k]? = some q0 ∧ q0.1 = q.1 := by
    intro k q h
    rcases x_put_at isC w1 ws k q hlen h with ⟨j, h1, h2⟩ | ⟨h1, -⟩
    · have h3 : (w1.map (fun q => q.1))[j]? = some q.1 := by rw [List.getElem?_map, h1]; rfl
      rw [ha, List.getElem?_map] at h3
      cases hw : wc[j]? with
      | none => rw [hw] at h3; cases h3
      | some q0 =>
        rw [hw] at h3
        obtain ⟨i, h4, h5⟩ := x_at hC hw
        rw [h2] at h4
        cases h4
        exact ⟨q0, h5, Option.some.inj h3⟩
    · exact ⟨q, h1, rfl⟩
  refine ⟨fun k q h => ?_, ?_, ?_⟩
  · rcases x_put_at isC w1 ws k q hlen h with ⟨j, h1, -⟩ | ⟨h1, h2⟩
    · exact hP1 j q h1
    · refine (hP k q h1).kept (hk q.1 (hP k q h1).lt ?_)
      rintro ⟨j, e, h3⟩
      obtain ⟨i, h4, h5⟩ := x_at hC h3
      have := hD.1 k i q (q.1, e) h1 h5 rfl
      subst this
      exact h2 (List.mem_of_getElem? h4)
  · intro i j p q hi hj hpq
    obtain ⟨p0, h1, h2⟩ := old i p hi
    obtain ⟨q0, h3, h4⟩ := old j q hj
    exact hD.1 i j p0 q0 h1 h3 (by rw [h2, h4, hpq])
  · intro k q h
    obtain ⟨q0, h1, h2⟩ := old k q h
    rw [← h2]
    exact hD.2 k q0 h1
section XR
variable {p : Program} {l : Launch} {e : Env} {R : Room} {s : State} {m : MethodId} {args : Array Value} {below : List Frame} {meth : Method} {c : Code} {H : Heap} {locs : List Loc} {cells slots : Nat} {Q : State → Prop}
variable {cc : ByteArray} {pc : Nat} {ls : Array Slot} {rest st0 : List Value} {E : xG} {A : Nat → Prop} {a : Nat} {ws : va_W} {H0 : Heap}
variable {y : MethodName} {bytes : ByteArray} {maxL nL n index : Nat} {ret : Option FieldType} {wsY : List Cond} {rm : Room} {Ts : List Cond} {own C host : String} {b : Addr} {As : List Value} {rv : Value} {wc : va_W}
theorem x_iald (hx : p.tables.exec = Jvm.exec) (hb : c.code = cc) (hK : xK E s) (hP : va_P (xD E) vwCl ws H) (q0 : Nat) {n : Nat} {f : Nat → Int32} (ha : ws[q0]? = some (a, .inl (xI E, n, .inl f))) {i v : Int32} (h : rdI f n i = some v) (hdg : decode cc pc = .ok (.iaload, 1))
    (kk : W p l e R s m args below meth c H locs cells slots Q (F0 m (pc + 1) ls (.int v :: rest))) : W p l e R s m args below meth c H locs cells slots Q (F0 m pc ls (.int i :: .ref a :: rest)) := by
  obtain ⟨h1, rfl⟩ := rdI_ok h
  exact va_iald hx hb hK.1 hP q0 0 ha rfl h1 hdg kk
theorem x_zald (hx : p.tables.exec = Jvm.exec) (hb : c.code = cc) (hK : xK E s) (hP : va_P (xD E) vwCl ws H) (q0 : Nat) {n : Nat} {f : Nat → Int32} (ha : ws[q0]? = some (a, .inl (xZ E, n, .inl f))) {i v : Int32} (h : rdI f n i = some v) (hdg : decode cc pc = .ok (.baload, 1))
    (kk : W p l e R s m args below meth c H locs cells slots Q (F0 m (pc + 1) ls (.int v :: rest))) : W p l e R s m args below meth c H locs cells slots Q (F0 m pc ls (.int i :: .ref a :: rest)) := by
  obtain ⟨h1, rfl⟩ := rdI_ok h
  exact va_zald hx hb hK.1 hP q0 2 ha rfl h1 hdg kk
theorem x_lald (hx : p.tables.exec = Jvm.exec) (hb : c.code = cc) (hK : xK E s) (hP : va_P (xD E) vwCl ws H) (q0 : Nat) {n : Nat} {f : Nat → Int64} (ha : ws[q0]? = some (a, .inl (xJ E, n, .inr (.inl f)))) {i : Int32} {v : Int64} (h : rdJ f n i = some v) (hdg : decode cc pc = .ok (.laload, 1))
    (kk : W p l e R s m args below meth c H locs cells slots Q (F0 m (pc + 1) ls (.long v :: rest))) : W p l e R s m args below meth c H locs cells slots Q (F0 m pc ls (.int i :: .ref a :: rest)) := by
  obtain ⟨h1, rfl⟩ := rdJ_ok h
  exact va_lald hx hb hK.1 hP q0 1 ha rfl h1 hdg kk
theorem x_iast (hx : p.tables.exec = Jvm.exec) (hb : c.code = cc) (hK : xK E s) (hP : va_P (xD E) vwCl ws H) (hD : va_D A ws) (hS : va_S A H0 H locs) (q0 : Nat) {n : Nat} {f f' : Nat → Int32} (ha : ws[q0]? = some (a, .inl (xI E, n, .inl f))) {i x : Int32} (h : wrI f n i x = some f') (hdg : decode cc pc = .ok (.iastore, 1))
    (kk : ∀ (H1 : Heap) (locs1 : List Loc), va_P (xD E) vwCl (ws.set q0 (a, .inl (xI E, n, .inl f'))) H1 → va_D A (ws.set q0 (a, .inl (xI E, n, .inl f'))) → va_S A H0 H1 locs1 → W p l e R s m args below meth c H1 locs1 cells slots Q (F0 m (pc + 1) ls rest)) : W p l e R s m args below meth c H locs cells slots Q (F0 m pc ls (.int x :: .int i :: .ref a :: rest)) := by
  obtain ⟨h1, rfl⟩ := wrI_ok h
  exact va_iast hx hb hK.1 hP hD hS q0 0 ha rfl h1 hdg kk
theorem x_zast (hx : p.tables.exec = Jvm.exec) (hb : c.code = cc) (hK : xK E s) (hP : va_P (xD E) vwCl ws H) (hD : va_D A ws) (hS : va_S A H0 H locs) (q0 : Nat) {n : Nat} {f f' : Nat → Int32} (ha : ws[q0]? = some (a, .inl (xZ E, n, .inl f))) {i x : Int32} (h : wrZ f n i x = some f') (hdg : decode cc pc = .ok (.bastore, 1))
    (kk : ∀ (H1 : Heap) (locs1 : List Loc), va_P (xD E) vwCl (ws.set q0 (a, .inl (xZ E, n, .inl f'))) H1 → va_D A (ws.set q0 (a, .inl (xZ E, n, .inl f'))) → va_S A H0 H1 locs1 → W p l e R s m args below meth c H1 locs1 cells slots Q (F0 m (pc + 1) ls rest)) : W p l e R s m args below meth c H locs cells slots Q (F0 m pc ls (.int x :: .int i :: .ref a :: rest)) := by
  obtain ⟨h1, rfl⟩ := wrZ_ok h
  exact va_zast hx hb hK.1 hP hD hS q0 2 ha rfl h1 hdg kk
theorem x_last (hx : p.tables.exec = Jvm.exec) (hb : c.code = cc) (hK : xK E s) (hP : va_P (xD E) vwCl ws H) (hD : va_D A ws) (hS : va_S A H0 H locs) (q0 : Nat) {n : Nat} {f f' : Nat → Int64} (ha : ws[q0]? = some (a, .inl (xJ E, n, .inr (.inl f)))) {i : Int32} {x : Int64} (h : wrJ f n i x = some f') (hdg : decode cc pc = .ok (.lastore, 1))
    (kk : ∀ (H1 : Heap) (locs1 : List Loc), va_P (xD E) vwCl (ws.set q0 (a, .inl (xJ E, n, .inr (.inl f')))) H1 → va_D A (ws.set q0 (a, .inl (xJ E, n, .inr (.inl f')))) → va_S A H0 H1 locs1 → W p l e R s m args below meth c H1 locs1 cells slots Q (F0 m (pc + 1) ls rest)) : W p l e R s m args below meth c H locs cells slots Q (F0 m pc ls (.long x :: .int i :: .ref a :: rest)) := by
  obtain ⟨h1, rfl⟩ := wrJ_ok h
  exact va_last hx hb hK.1 hP hD hS q0 1 ha rfl h1 hdg kk
theorem x_ldiv (hx : p.tables.exec = Jvm.exec) (hb : c.code = cc) {x y v : Int64} (h : dvJ x y = some v) (hdg : decode cc pc = .ok (.ldiv, 1))
    (kk : W p l e R s m args below meth c H locs cells slots Q (F0 m (pc + 1) ls (.long v :: rest))) : W p l e R s m args below meth c H locs cells slots Q (F0 m pc ls (.long y :: .long x :: rest)) := by
  obtain ⟨h1, rfl⟩ := dvJ_ok h
  exact lv_ldiv hx hb hdg h1 kk
theorem x_lrem (hx : p.tables.exec = Jvm.exec) (hb : c.code = cc) {x y v : Int64} (h : rmJ x y = some v) (hdg : decode cc pc = .ok (.lrem, 1))
    (kk : W p l e R s m args below meth c H locs cells slots Q (F0 m (pc + 1) ls (.long v :: rest))) : W p l e R s m args below meth c H locs cells slots Q (F0 m pc ls (.long y :: .long x :: rest)) := by
  obtain ⟨h1, rfl⟩ := rmJ_ok h
  exact lv_lrem hx hb hdg h1 kk
/-- arrays of founts, of rows: the address at a place -/
theorem x_aald (hx : p.tables.exec = Jvm.exec) (hb : c.code = cc) (hK : xK E s) (hP : va_P (xD E) vwCl ws H) (q0 : Nat) {n : Nat} {r : Nat → Nat} {f : Nat → Option Nat} (ha : ws[q0]? = some (a, .inl (xFo E, n, .inr (.inr (.inr (.inr f)))))) (hf : ∀ j, j < n → f j = some (r j)) {i : Int32} {v : Nat} (h : rdX n i = some v) (hdg : decode cc pc = .ok (.aaload, 1))
    (kk : v < n → W p l e R s m args below meth c H locs cells slots Q (F0 m (pc + 1) ls (.ref (r v) :: rest))) : W p l e R s m args below meth c H locs cells slots Q (F0 m pc ls (.int i :: .ref a :: rest)) := by
  obtain ⟨h1, rfl⟩ := rdX_ok h
  have hlt : i.toNatClampNeg < n := Nat.not_le.mp fun q => h1 (Or.inr q)
  refine va_aldq hx hb hK.1 hP q0 3 ha rfl h1 hdg ?_
  rw [hf _ hlt]
  exact kk hlt
theorem x_rald (hx : p.tables.exec = Jvm.exec) (hb : c.code = cc) (hK : xK E s) (hP : va_P (xD E) vwCl ws H) (q0 : Nat) {n : Nat} {r : Nat → Nat} {f : Nat → Option Nat} (ha : ws[q0]? = some (a, .inl (xRo E, n, .inr (.inr (.inr (.inr f)))))) (hf : ∀ j, j < n → f j = some (r j)) {i : Int32} {v : Nat} (h : rdX n i = some v) (hdg : decode cc pc = .ok (.aaload, 1))
    (kk : v < n → W p l e R s m args below meth c H locs cells slots Q (F0 m (pc + 1) ls (.ref (r v) :: rest))) : W p l e R s m args below meth c H locs cells slots Q (F0 m pc ls (.int i :: .ref a :: rest)) := by
  obtain ⟨h1, rfl⟩ := rdX_ok h
  have hlt : i.toNatClampNeg < n := Nat.not_le.mp fun q => h1 (Or.inr q)
  have h2 := kk hlt
  refine W.aald (v := va_rf (f i.toNatClampNeg)) (ty := .array .long) hx hb (hP q0 _ ha) ((hK.1.2 4 _ rfl).1 n (fun j => va_rf (f j))) rfl (fun q => by cases q) (by show ¬ (i < 0 ∨ (arrV _ _ _).slots.size ≤ _); rw [arrV_size]; exact h1) (by show (arrV _ _ _).slots[_]? = _; rw [arrV_read _ _ hlt]) rfl rfl hdg ?_
  rw [hf _ hlt]
  exact h2
theorem x_get (hx : p.tables.exec = Jvm.exec) (hb : c.code = cc) {T : u_T} {N ci : Nat} (hts : ∀ w ∈ Ts, w.before args s = true) (hin : ∀ w ∈ u_ws C T N, w ∈ Ts) (hown : s.vm.findClass own = some m.cls) (hK : xK E s) (hP : va_P (xD E) vwCl ws H) (q0 : Nat) {fs : List Value} (he : ws[q0]? = some (a, .inr (ci, fs))) (hc : vwCl[ci]? = some (C, T, N)) (k : Nat) (hk : k < N) (hm : Cond.fieldLink own index (T k).1 (T k).2.1 (T k).2.2.1 ∈ Ts) {v : Value} (hv : fs[k]? = some v) (hdg : decode cc pc = .ok (.getfield index, 3))
    (kk : W p l e R s m args below meth c H locs cells slots Q (F0 m (pc + 3) ls (v :: rest))) : W p l e R s m args below meth c H locs cells slots Q (F0 m pc ls (.ref a :: rest)) :=
  va_get hx hb hts hin hown hK.1 hP q0 he hc k hk (hts _ hm) (fun _ h9 => h9) hv hdg kk
theorem x_putf (hx : p.tables.exec = Jvm.exec) (hb : c.code = cc) {T : u_T} {N ci : Nat} (hts : ∀ w ∈ Ts, w.before args s = true) (hin : ∀ w ∈ u_ws C T N, w ∈ Ts) {ty0 : Nat → FieldType} (hty : ∀ k, k < N → parseFieldDescriptor (T k).2.2.1 = some (ty0 k)) (hnm : ∀ a, a < N → ∀ b, b < N → a ≠ b → (T a).2.1 ≠ (T b).2.1) (hown : s.vm.findClass own = some m.cls) (hK : xK E s) (hP : va_P (xD E) vwCl ws H) (hD : va_D A ws) (hS : va_S A H0 H locs) (q0 : Nat) {fs : List Value} (he : ws[q0]? = some (a, .inr (ci, fs))) (hc : vwCl[ci]? = some (C, T, N)) (k : Nat) (hk : k < N) (hm : Cond.fieldLink own index (T k).1 (T k).2.1 (T k).2.2.1 ∈ Ts) (hfin : (T k).2.2.2 = false) {v : Value} (hn : narrow (ty0 k) v = v) (hfit : fits (ty0 k) v = true) (hl : k < fs.length) (hdg : decode cc pc = .ok (.putfield index, 3))
    (kk : ∀ (H1 : Heap) (locs1 : List Loc), va_P (xD E) vwCl (ws.set q0 (a, .inr (ci, fs.set k v))) H1 → va_D A (ws.set q0 (a, .inr (ci, fs.set k v))) → va_S A H0 H1 locs1 → W p l e R s m args below meth c H1 locs1 cells slots Q (F0 m (pc + 3) ls rest)) : W p l e R s m args below meth c H locs cells slots Q (F0 m pc ls (v :: .ref a :: rest)) :=
  va_put hx hb hts hin ty0 hty hnm hown hK.1 hP hD hS q0 he hc k hk (hts _ hm) (fun _ h9 => h9) hfin (hty k hk) hn hfit hl hdg kk
/-- a read-only call: the heap is the same, the answer known -/
theorem x_pcall {mc ms : Nat} (hr : va_Run p l e R s m args below meth c H locs cells slots 0 0 (F0 m pc ls st0) rest (xRet rv As.toArray) (fun _ => False))
    (kk : W p l e R s m args below meth c H locs cells slots Q (F0 m (pc + 3) ls (rv :: rest))) : W p l e R s m args below meth c H locs cells slots Q (F0 m pc ls st0) := by
  intro T hT X
  obtain ⟨v, st₀, t, T', L, h0, X', hL, e1, e2, ⟨hv, hh⟩, st⟩ := hr T hT X
  cases hv
  have hL0 : L = [] := List.eq_nil_iff_forall_not_mem.mpr fun q hq => hL q hq
  subst hL0
  rw [List.append_nil] at X'
  obtain ⟨t2, a1, b1⟩ := kk T' (by rw [e1, hh, h0]) X'
  exact ⟨t2, st t2 a1, b1⟩
theorem x_pV (S : CallFix p m c cc nL s args Ts own) (hK : xK E s) (hM : xPure l y wsY rm E (.ref b :: As) wc rv) (cw : CallW R s args own C index y bytes maxL ret wsY rm 0 0 n) (hP : va_P (xD E) vwCl wc H) (q0 : Nat) {ci : Nat} {q : vw_C} {fs : List Value} (he : wc[q0]? = some (b, .inr (ci, fs))) (hc : vwCl[ci]? = some q) (hC : q.1 = C)
    (hn : As.length = n) (hsize : ls.size = nL) (hW : (rest.map fun v => v.category).sum ≤ 8) (hdg : decode cc pc = .ok (.invokevirtual index, 3)) (hst : st0 = As.reverse ++ .ref b :: rest) (hf : cells ≤ R.cells ∧ slots ≤ R.slots)
    (kk : W p l e R s m args below meth c H locs cells slots Q (F0 m (pc + 3) ls (rv :: rest))) : W p l e R s m args below meth c H locs cells slots Q (F0 m pc ls st0) := by
  subst hC
  exact x_pcall (As := .ref b :: As) (mc := 0) (ms := 0) (va_runV (g := F0 m pc ls st0) S hM cw ⟨xPre.blind, va_recv hK.1 hP hc he, fun U hU hW => ⟨rfl, by rw [hU]; exact hP, hK.warm hW⟩⟩ rfl hn hsize hst (lv_room (ls := ls) (m := m) (pc := pc) (rest := rest) hW) hdg hf) kk
theorem x_pS (S : CallFix p m c cc nL s args Ts own) (hK : xK E s) (hM : xPure l y wsY rm E As wc rv) (cw : CallB R s args own index y bytes maxL ret wsY rm 0 0 n ∧ (Cond.static y).before args s = true) (hP : va_P (xD E) vwCl wc H)
    (hn : As.length = n) (hsize : ls.size = nL) (hW : (rest.map fun v => v.category).sum ≤ 8) (hdg : decode cc pc = .ok (.invokestatic index, 3)) (hst : st0 = As.reverse ++ rest) (hf : cells ≤ R.cells ∧ slots ≤ R.slots)
    (kk : W p l e R s m args below meth c H locs cells slots Q (F0 m (pc + 3) ls (rv :: rest))) : W p l e R s m args below meth c H locs cells slots Q (F0 m pc ls st0) :=
  x_pcall (As := As) (mc := 0) (ms := 0) (va_runS (g := F0 m pc ls st0) S hM cw ⟨xPre.blind, fun U hU hW => ⟨rfl, by rw [hU]; exact hP, hK.warm hW⟩⟩ rfl hn hsize hst (lv_room (ls := ls) (m := m) (pc := pc) (rest := rest) hW) hdg hf) kk
theorem x_pN (S : CallFix p m c cc nL s args Ts own) (hK : xK E s) (hM : xPure l y wsY rm E As wc rv) (cw : va_CN R s args own index y host bytes maxL ret wsY rm 0 0 n ∧ (Cond.static y).before args s = true ∧ True) (hP : va_P (xD E) vwCl wc H)
    (hn : As.length = n) (hsize : ls.size = nL) (hW : (rest.map fun v => v.category).sum ≤ 8) (hdg : decode cc pc = .ok (.invokestatic index, 3)) (hst : st0 = As.reverse ++ rest) (hf : cells ≤ R.cells ∧ slots ≤ R.slots)
    (kk : W p l e R s m args below meth c H locs cells slots Q (F0 m (pc + 3) ls (rv :: rest))) : W p l e R s m args below meth c H locs cells slots Q (F0 m pc ls st0) :=
  x_pcall (As := As) (mc := 0) (ms := 0) (va_runSN (g := F0 m pc ls st0) S hM cw ⟨xPre.blind, fun U hU hW => ⟨rfl, by rw [hU]; exact hP, hK.warm hW⟩⟩ rfl hn hsize hst (lv_room (ls := ls) (m := m) (pc := pc) (rest := rest) hW) hdg hf) kk
/-- a changing call on a part of the caller's world -/
theorem x_mV {w1 ws' : va_W} {ro : Option Value} (S : CallFix p m c cc nL s args Ts own) (hK : xK E s) (hM : xMut l y wsY rm E (.ref b :: As) wc ro w1) (cw : CallW R s args own C index y bytes maxL ret wsY rm 0 0 n) (hP : va_P (xD E) vwCl ws H) (hD : va_D A ws) (hS : va_S A H0 H locs) (isC : List Nat) (hnd : va_nd isC = true) (hC : isC.map (fun i => ws[i]?) = wc.map some) (ha : w1.map (fun q => q.1) = wc.map (fun q => q.1)) (q0 : Nat) {ci : Nat} {q : vw_C} {fs : List Value} (he : wc[q0]? = some (b, .inr (ci, fs))) (hc : vwCl[ci]? = some q) (hCl : q.1 = C)
    (hn : As.length = n) (hsize : ls.size = nL) (hW : (rest.map fun v => v.category).sum ≤ 8) (hdg : decode cc pc = .ok (.invokevirtual index, 3)) (hst : st0 = As.reverse ++ .ref b :: rest) (hf : cells ≤ R.cells ∧ slots ≤ R.slots) (hset : x_put ws isC w1 = ws')
    (kk : ∀ (H1 : Heap) (locs1 : List Loc), va_P (xD E) vwCl ws' H1 → va_D A ws' → va_S A H0 H1 locs1 → W p l e R s m args below meth c H1 locs1 cells slots Q (F0 m (pc + 3) ls (ro.toList ++ rest))) : W p l e R s m args below meth c H locs cells slots Q (F0 m pc ls st0) := by
  subst hCl
  subst hset
  have hDc : va_D A wc := hD.sub isC hnd hC
  have hPc : va_P (xD E) vwCl wc H := fun k q hq => by
    obtain ⟨i, -, h5⟩ := x_at hC hq
    exact hP i q h5
  have hAc : ∀ q, xA wc q → A q := fun q h => by
    obtain ⟨k, e, h⟩ := h
    exact hDc.2 k (q, e) h
  have hr := va_runV (g := F0 m pc ls st0) (H := H) (locs := locs) (cells := cells) (slots := slots) (e := e) (below := below) (meth := meth) S hM cw ⟨xPreM.blind, va_recv hK.1 hPc hc he, fun U hU hW => ⟨rfl, by rw [hU]; exact hPc, hK.warm hW, hDc.weaken (fun _ _ _ _ => trivial)⟩⟩ rfl hn hsize hst (lv_room (ls := ls) (m := m) (pc := pc) (rest := rest) hW) hdg hf
  intro T hT X
  obtain ⟨v, st₀, t, T', L, h0, X', hL, e1, e2, ⟨hv, hp, hz, hk⟩, st⟩ := hr T hT X
  cases hv
  rw [h0] at hz hk
  obtain ⟨hP1, hD1⟩ := x_join hP hD isC hC ha hk hp
  obtain ⟨t2, a1, b1⟩ := kk T'.heap (locs ++ L) (by rw [e1]; exact hP1) hD1
    ⟨Nat.le_trans hS.1 (by rw [e1]; exact hz), fun q h1 h2 => by rw [e1, hk q (Nat.lt_of_lt_of_le h1 hS.1) (fun z => h2 (hAc q z))]; exact hS.2.1 q h1 h2, fun q hq => by
      rcases List.mem_append.mp hq with h | h
      · exact hS.2.2 q h
      · exact hAc _ (hL q h)⟩ T' rfl X'
  exact ⟨t2, st t2 a1, b1⟩
theorem x_iret {free : Addr → Prop} {ty : FieldType} {v : Int32} (hx : p.tables.exec = Jvm.exec) (hb : c.code = cc) (hr : meth.sig.returnType = some ty) (hlk : meth.locks = false) (hn : narrow ty (.int v) = .int v) (hdg : decode cc pc = .ok (.ireturn, 1)) : W p l e R s m args below meth c s.heap [] cells slots (MQ below (xRet (.int v)) args s cells slots free) (F0 m pc ls [.int v]) :=
  W.zret hx hb hr hn (fun t ht _ => ⟨rfl, ht⟩) (fun _ h => by cases h) hdg hlk
theorem x_lret {free : Addr → Prop} {v : Int64} (hx : p.tables.exec = Jvm.exec) (hb : c.code = cc) (hr : meth.sig.returnType = some .long) (hlk : meth.locks = false) (hdg : decode cc pc = .ok (.lreturn, 1)) : W p l e R s m args below meth c s.heap [] cells slots (MQ below (xRet (.long v)) args s cells slots free) (F0 m pc ls [.long v]) :=
  W.lret hx hb hr (fun t ht _ => ⟨rfl, ht⟩) (fun _ h => by cases h) hdg hlk
theorem x_vretM {w0 w1 : va_W} (hx : p.tables.exec = Jvm.exec) (hb : c.code = cc) (hr : meth.sig.returnType = none) (hlk : meth.locks = false) (hP : va_P (xD E) vwCl w1 H) (hS : va_S (xA w0) s.heap H locs) (hdg : decode cc pc = .ok (.return_, 1)) : W p l e R s m args below meth c H locs cells slots (MQ below (xRetM E none w0 w1) args s cells slots (xA w0)) (F0 m pc ls []) :=
  W.vret hx hb hr (fun t ht _ => ⟨rfl, by rw [ht]; exact hP, hS.F ht⟩) hS.2.2 hdg hlk
theorem x_iretM {w0 w1 : va_W} {ty : FieldType} {v : Int32} (hx : p.tables.exec = Jvm.exec) (hb : c.code = cc) (hr : meth.sig.returnType = some ty) (hlk : meth.locks = false) (hn : narrow ty (.int v) = .int v) (hP : va_P (xD E) vwCl w1 H) (hS : va_S (xA w0) s.heap H locs) (hdg : decode cc pc = .ok (.ireturn, 1)) : W p l e R s m args below meth c H locs cells slots (MQ below (xRetM E (some (.int v)) w0 w1) args s cells slots (xA w0)) (F0 m pc ls [.int v]) :=
  W.zret hx hb hr hn (fun t ht _ => ⟨rfl, by rw [ht]; exact hP, hS.F ht⟩) hS.2.2 hdg hlk
theorem x_lretM {w0 w1 : va_W} {v : Int64} (hx : p.tables.exec = Jvm.exec) (hb : c.code = cc) (hr : meth.sig.returnType = some .long) (hlk : meth.locks = false) (hP : va_P (xD E) vwCl w1 H) (hS : va_S (xA w0) s.heap H locs) (hdg : decode cc pc = .ok (.lreturn, 1)) : W p l e R s m args below meth c H locs cells slots (MQ below (xRetM E (some (.long v)) w0 w1) args s cells slots (xA w0)) (F0 m pc ls [.long v]) :=
  W.lret hx hb hr (fun t ht _ => ⟨rfl, by rw [ht]; exact hP, hS.F ht⟩) hS.2.2 hdg hlk
theorem x_lif_ge (hx : p.tables.exec = Jvm.exec) (hb : c.code = cc) {x y : Int64} {off : Int} {tgt : Nat} (hd1 : decode cc pc = .ok (.lcmp, 1)) (hdg : decode cc (pc + 1) = .ok (.ifCond .ge off, 3)) (ht : ((pc + 1 : Nat) : Int) + off = (tgt : Int))
    (kt : y ≤ x → W p l e R s m args below meth c H locs cells slots Q (F0 m tgt ls rest)) (kf : ¬ y ≤ x → W p l e R s m args below meth c H locs cells slots Q (F0 m (pc + 1 + 3) ls rest)) : W p l e R s m args below meth c H locs cells slots Q (F0 m pc ls (.long y :: .long x :: rest)) :=
  W.lcmp hx hb hd1 (lv_if_ge (tgt := tgt) hx hb hdg ht (fun h => kt ((lg_cmp_ge x y).mp h)) (fun h => kf (fun q => h ((lg_cmp_ge x y).mpr q))))
theorem x_lif_le (hx : p.tables.exec = Jvm.exec) (hb : c.code = cc) {x y : Int64} {off : Int} {tgt : Nat} (hd1 : decode cc pc = .ok (.lcmp, 1)) (hdg : decode cc (pc + 1) = .ok (.ifCond .le off, 3)) (ht : ((pc + 1 : Nat) : Int) + off = (tgt : Int))
    (kt : x ≤ y → W p l e R s m args below meth c H locs cells slots Q (F0 m tgt ls rest)) (kf : ¬ x ≤ y → W p l e R s m args below meth c H locs cells slots Q (F0 m (pc + 1 + 3) ls rest)) : W p l e R s m args below meth c H locs cells slots Q (F0 m pc ls (.long y :: .long x :: rest)) :=
  W.lcmp hx hb hd1 (lv_if_le (tgt := tgt) hx hb hdg ht (fun h => kt ((lg_cmp_le x y).mp h)) (fun h => kf (fun q => h ((lg_cmp_le x y).mpr q))))
theorem x_lif_gt (hx : p.tables.exec = Jvm.exec) (hb : c.code = cc) {x y : Int64} {off : Int} {tgt : Nat} (hd1 : decode cc pc = .ok (.lcmp, 1)) (hdg : decode cc (pc + 1) = .ok (.ifCond .gt off, 3)) (ht : ((pc + 1 : Nat) : Int) + off = (tgt : Int))
    (kt : y < x → W p l e R s m args below meth c H locs cells slots Q (F0 m tgt ls rest)) (kf : ¬ y < x → W p l e R s m args below meth c H locs cells slots Q (F0 m (pc + 1 + 3) ls rest)) : W p l e R s m args below meth c H locs cells slots Q (F0 m pc ls (.long y :: .long x :: rest)) :=
  W.lcmp hx hb hd1 (lv_if_gt (tgt := tgt) hx hb hdg ht (fun h => kt ((lg_cmp_gt x y).mp h)) (fun h => kf (fun q => h ((lg_cmp_gt x y).mpr q))))
theorem x_lif_lt (hx : p.tables.exec = Jvm.exec) (hb : c.code = cc) {x y : Int64} {off : Int} {tgt : Nat} (hd1 : decode cc pc = .ok (.lcmp, 1)) (hdg : decode cc (pc + 1) = .ok (.ifCond .lt off, 3)) (ht : ((pc + 1 : Nat) : Int) + off = (tgt : Int))
    (kt : x < y → W p l e R s m args below meth c H locs cells slots Q (F0 m tgt ls rest)) (kf : ¬ x < y → W p l e R s m args below meth c H locs cells slots Q (F0 m (pc + 1 + 3) ls rest)) : W p l e R s m args below meth c H locs cells slots Q (F0 m pc ls (.long y :: .long x :: rest)) :=
  W.lcmp hx hb hd1 (lv_if_lt (tgt := tgt) hx hb hdg ht (fun h => kt ((lg_cmp_lt x y).mp h)) (fun h => kf (fun q => h ((lg_cmp_lt x y).mpr q))))
theorem x_lif_eq (hx : p.tables.exec = Jvm.exec) (hb : c.code = cc) {x y : Int64} {off : Int} {tgt : Nat} (hd1 : decode cc pc = .ok (.lcmp, 1)) (hdg : decode cc (pc + 1) = .ok (.ifCond .eq off, 3)) (ht : ((pc + 1 : Nat) : Int) + off = (tgt : Int))
    (kt : x = y → W p l e R s m args below meth c H locs cells slots Q (F0 m tgt ls rest)) (kf : ¬ x = y → W p l e R s m args below meth c H locs cells slots Q (F0 m (pc + 1 + 3) ls rest)) : W p l e R s m args below meth c H locs cells slots Q (F0 m pc ls (.long y :: .long x :: rest)) :=
  W.lcmp hx hb hd1 (lv_if_eq (tgt := tgt) hx hb hdg ht (fun h => kt ((lg_cmp_eq x y).mp h)) (fun h => kf (fun q => h ((lg_cmp_eq x y).mpr q))))
theorem x_lif_ne (hx : p.tables.exec = Jvm.exec) (hb : c.code = cc) {x y : Int64} {off : Int} {tgt : Nat} (hd1 : decode cc pc = .ok (.lcmp, 1)) (hdg : decode cc (pc + 1) = .ok (.ifCond .ne off, 3)) (ht : ((pc + 1 : Nat) : Int) + off = (tgt : Int))
    (kt : ¬ x = y → W p l e R s m args below meth c H locs cells slots Q (F0 m tgt ls rest)) (kf : x = y → W p l e R s m args below meth c H locs cells slots Q (F0 m (pc + 1 + 3) ls rest)) : W p l e R s m args below meth c H locs cells slots Q (F0 m pc ls (.long y :: .long x :: rest)) :=
  W.lcmp hx hb hd1 (lv_if_ne (tgt := tgt) hx hb hdg ht (fun h => kt (fun q => h ((lg_cmp_eq x y).mpr q))) (fun h => kf ((lg_cmp_eq x y).mp h)))
end XR
end
