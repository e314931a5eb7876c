section
-- ===== PART A: goes FIRST, ahead of the names: the tables' words, and 'selects' of the private methods out of them =====
/-- a private method of a class that the tables say can be made, by its rows of tables_1 -/
def lw_okq (q : MethodName × Nat) : Prop := (q.1.cls ≠ "java/lang/invoke/MethodHandle" ∧ q.1.cls ≠ "java/lang/invoke/VarHandle") ∧ Cond.instantiable q.1.cls q.2 ∈ tables_1 ∧ Cond.privateMethod q.1 ∈ tables_1 ∧ Cond.instanceMethod q.1 ∈ tables_1
theorem lw_p0 : lw_okq (⟨"NineLands", "refuse", "(I)I"⟩, 8) := ⟨⟨by decide +kernel, by decide +kernel⟩, List.mem_of_getElem? (i := 15) (by decide +kernel), List.mem_of_getElem? (i := 154) (by decide +kernel), List.mem_of_getElem? (i := 155) (by decide +kernel)⟩
theorem lw_p1 : lw_okq (⟨"NineLands$Tape", "readInto", "([I)Z"⟩, 3) := ⟨⟨by decide +kernel, by decide +kernel⟩, List.mem_of_getElem? (i := 23) (by decide +kernel), List.mem_of_getElem? (i := 163) (by decide +kernel), List.mem_of_getElem? (i := 164) (by decide +kernel)⟩
theorem lw_p2 : lw_okq (⟨"NineLands$Tape", "readChoice", "([IILjava/lang/String;)Z"⟩, 3) := ⟨⟨by decide +kernel, by decide +kernel⟩, List.mem_of_getElem? (i := 23) (by decide +kernel), List.mem_of_getElem? (i := 168) (by decide +kernel), List.mem_of_getElem? (i := 169) (by decide +kernel)⟩
theorem lw_p3 : lw_okq (⟨"NineLands$Tape", "readNumber", "([II)Z"⟩, 3) := ⟨⟨by decide +kernel, by decide +kernel⟩, List.mem_of_getElem? (i := 23) (by decide +kernel), List.mem_of_getElem? (i := 259) (by decide +kernel), List.mem_of_getElem? (i := 260) (by decide +kernel)⟩
theorem lw_p4 : lw_okq (⟨"NineLands$Tape", "readSign", "(C)Z"⟩, 3) := ⟨⟨by decide +kernel, by decide +kernel⟩, List.mem_of_getElem? (i := 23) (by decide +kernel), List.mem_of_getElem? (i := 263) (by decide +kernel), List.mem_of_getElem? (i := 264) (by decide +kernel)⟩
theorem lw_p5 : lw_okq (⟨"NineLands$Tape", "readTill", "([I)Z"⟩, 3) := ⟨⟨by decide +kernel, by decide +kernel⟩, List.mem_of_getElem? (i := 23) (by decide +kernel), List.mem_of_getElem? (i := 267) (by decide +kernel), List.mem_of_getElem? (i := 268) (by decide +kernel)⟩
theorem lw_p6 : lw_okq (⟨"NineLands", "isSpell", "(I)Z"⟩, 8) := ⟨⟨by decide +kernel, by decide +kernel⟩, List.mem_of_getElem? (i := 15) (by decide +kernel), List.mem_of_getElem? (i := 276) (by decide +kernel), List.mem_of_getElem? (i := 277) (by decide +kernel)⟩
theorem lw_p7 : lw_okq (⟨"NineLands$Sums", "reckon", "(LNineLands$Book;)V"⟩, 10) := ⟨⟨by decide +kernel, by decide +kernel⟩, List.mem_of_getElem? (i := 80) (by decide +kernel), List.mem_of_getElem? (i := 308) (by decide +kernel), List.mem_of_getElem? (i := 309) (by decide +kernel)⟩
theorem lw_p8 : lw_okq (⟨"NineLands$Sums", "clear", "()V"⟩, 10) := ⟨⟨by decide +kernel, by decide +kernel⟩, List.mem_of_getElem? (i := 80) (by decide +kernel), List.mem_of_getElem? (i := 312) (by decide +kernel), List.mem_of_getElem? (i := 313) (by decide +kernel)⟩
theorem lw_p9 : lw_okq (⟨"NineLands$Book", "nextChange", "(I)I"⟩, 5) := ⟨⟨by decide +kernel, by decide +kernel⟩, List.mem_of_getElem? (i := 43) (by decide +kernel), List.mem_of_getElem? (i := 319) (by decide +kernel), List.mem_of_getElem? (i := 320) (by decide +kernel)⟩
theorem lw_p10 : lw_okq (⟨"NineLands$Sums", "addStretch", "(LNineLands$Book;II)V"⟩, 10) := ⟨⟨by decide +kernel, by decide +kernel⟩, List.mem_of_getElem? (i := 80) (by decide +kernel), List.mem_of_getElem? (i := 324) (by decide +kernel), List.mem_of_getElem? (i := 325) (by decide +kernel)⟩
theorem lw_p11 : lw_okq (⟨"NineLands$Book", "payAt", "(II)I"⟩, 5) := ⟨⟨by decide +kernel, by decide +kernel⟩, List.mem_of_getElem? (i := 43) (by decide +kernel), List.mem_of_getElem? (i := 328) (by decide +kernel), List.mem_of_getElem? (i := 329) (by decide +kernel)⟩
theorem lw_p12 : lw_okq (⟨"NineLands$Book", "workCounts", "(II)Z"⟩, 5) := ⟨⟨by decide +kernel, by decide +kernel⟩, List.mem_of_getElem? (i := 43) (by decide +kernel), List.mem_of_getElem? (i := 332) (by decide +kernel), List.mem_of_getElem? (i := 333) (by decide +kernel)⟩
theorem lw_p13 : lw_okq (⟨"NineLands$Book", "isHeld", "(II)Z"⟩, 5) := ⟨⟨by decide +kernel, by decide +kernel⟩, List.mem_of_getElem? (i := 43) (by decide +kernel), List.mem_of_getElem? (i := 336) (by decide +kernel), List.mem_of_getElem? (i := 337) (by decide +kernel)⟩
theorem lw_p14 : lw_okq (⟨"NineLands$Sums", "addOwn", "(II)V"⟩, 10) := ⟨⟨by decide +kernel, by decide +kernel⟩, List.mem_of_getElem? (i := 80) (by decide +kernel), List.mem_of_getElem? (i := 341) (by decide +kernel), List.mem_of_getElem? (i := 342) (by decide +kernel)⟩
theorem lw_p15 : lw_okq (⟨"NineLands$Sums", "addPut", "(LNineLands$Book;II)V"⟩, 10) := ⟨⟨by decide +kernel, by decide +kernel⟩, List.mem_of_getElem? (i := 80) (by decide +kernel), List.mem_of_getElem? (i := 345) (by decide +kernel), List.mem_of_getElem? (i := 346) (by decide +kernel)⟩
def lw_privs_1 : List (MethodName × Nat) := [(⟨"NineLands", "refuse", "(I)I"⟩, 8), (⟨"NineLands$Tape", "readInto", "([I)Z"⟩, 3), (⟨"NineLands$Tape", "readChoice", "([IILjava/lang/String;)Z"⟩, 3), (⟨"NineLands$Tape", "readNumber", "([II)Z"⟩, 3), (⟨"NineLands$Tape", "readSign", "(C)Z"⟩, 3), (⟨"NineLands$Tape", "readTill", "([I)Z"⟩, 3), (⟨"NineLands", "isSpell", "(I)Z"⟩, 8), (⟨"NineLands$Sums", "reckon", "(LNineLands$Book;)V"⟩, 10), (⟨"NineLands$Sums", "clear", "()V"⟩, 10), (⟨"NineLands$Book", "nextChange", "(I)I"⟩, 5), (⟨"NineLands$Sums", "addStretch", "(LNineLands$Book;II)V"⟩, 10), (⟨"NineLands$Book", "payAt", "(II)I"⟩, 5), (⟨"NineLands$Book", "workCounts", "(II)Z"⟩, 5), (⟨"NineLands$Book", "isHeld", "(II)Z"⟩, 5), (⟨"NineLands$Sums", "addOwn", "(II)V"⟩, 10), (⟨"NineLands$Sums", "addPut", "(LNineLands$Book;II)V"⟩, 10)]
theorem lw_r1 : ∀ q ∈ lw_privs_1, lw_okq q := List.forall_mem_cons.mpr ⟨lw_p0, List.forall_mem_cons.mpr ⟨lw_p1, List.forall_mem_cons.mpr ⟨lw_p2, List.forall_mem_cons.mpr ⟨lw_p3, List.forall_mem_cons.mpr ⟨lw_p4, List.forall_mem_cons.mpr ⟨lw_p5, List.forall_mem_cons.mpr ⟨lw_p6, List.forall_mem_cons.mpr ⟨lw_p7, List.forall_mem_cons.mpr ⟨lw_p8, List.forall_mem_cons.mpr ⟨lw_p9, List.forall_mem_cons.mpr ⟨lw_p10, List.forall_mem_cons.mpr ⟨lw_p11, List.forall_mem_cons.mpr ⟨lw_p12, List.forall_mem_cons.mpr ⟨lw_p13, List.forall_mem_cons.mpr ⟨lw_p14, List.forall_mem_cons.mpr ⟨lw_p15, fun _ h => absurd h List.not_mem_nil⟩⟩⟩⟩⟩⟩⟩⟩⟩⟩⟩⟩⟩⟩⟩⟩
theorem lw_p16 : lw_okq (⟨"NineLands$Sums", "payPut", "(LNineLands$Book;I)I"⟩, 10) := ⟨⟨by decide +kernel, by decide +kernel⟩, List.mem_of_getElem? (i := 80) (by decide +kernel), List.mem_of_getElem? (i := 349) (by decide +kernel), List.mem_of_getElem? (i := 350) (by decide +kernel)⟩
theorem lw_p17 : lw_okq (⟨"NineLands$Book", "holders", "(I)I"⟩, 5) := ⟨⟨by decide +kernel, by decide +kernel⟩, List.mem_of_getElem? (i := 43) (by decide +kernel), List.mem_of_getElem? (i := 353) (by decide +kernel), List.mem_of_getElem? (i := 354) (by decide +kernel)⟩
theorem lw_p18 : lw_okq (⟨"NineLands$Sums", "dueBy", "(LNineLands$Book;III)I"⟩, 10) := ⟨⟨by decide +kernel, by decide +kernel⟩, List.mem_of_getElem? (i := 80) (by decide +kernel), List.mem_of_getElem? (i := 370) (by decide +kernel), List.mem_of_getElem? (i := 371) (by decide +kernel)⟩
theorem lw_p19 : lw_okq (⟨"NineLands$Sums", "dueWhole", "([III)I"⟩, 10) := ⟨⟨by decide +kernel, by decide +kernel⟩, List.mem_of_getElem? (i := 80) (by decide +kernel), List.mem_of_getElem? (i := 374) (by decide +kernel), List.mem_of_getElem? (i := 375) (by decide +kernel)⟩
theorem lw_p20 : lw_okq (⟨"NineLands$Sums", "duePut", "([II)I"⟩, 10) := ⟨⟨by decide +kernel, by decide +kernel⟩, List.mem_of_getElem? (i := 80) (by decide +kernel), List.mem_of_getElem? (i := 386) (by decide +kernel), List.mem_of_getElem? (i := 387) (by decide +kernel)⟩
theorem lw_p21 : lw_okq (⟨"NineLands", "owedByAll", "()I"⟩, 8) := ⟨⟨by decide +kernel, by decide +kernel⟩, List.mem_of_getElem? (i := 15) (by decide +kernel), List.mem_of_getElem? (i := 402) (by decide +kernel), List.mem_of_getElem? (i := 403) (by decide +kernel)⟩
theorem lw_p22 : lw_okq (⟨"NineLands$Sums", "settle", "(LNineLands$Book;)I"⟩, 10) := ⟨⟨by decide +kernel, by decide +kernel⟩, List.mem_of_getElem? (i := 80) (by decide +kernel), List.mem_of_getElem? (i := 406) (by decide +kernel), List.mem_of_getElem? (i := 407) (by decide +kernel)⟩
theorem lw_p23 : lw_okq (⟨"NineLands$Sums", "changesInTurn", "(LNineLands$Book;)Z"⟩, 10) := ⟨⟨by decide +kernel, by decide +kernel⟩, List.mem_of_getElem? (i := 80) (by decide +kernel), List.mem_of_getElem? (i := 410) (by decide +kernel), List.mem_of_getElem? (i := 411) (by decide +kernel)⟩
theorem lw_p24 : lw_okq (⟨"NineLands", "paidFrom", "(III)I"⟩, 8) := ⟨⟨by decide +kernel, by decide +kernel⟩, List.mem_of_getElem? (i := 15) (by decide +kernel), List.mem_of_getElem? (i := 429) (by decide +kernel), List.mem_of_getElem? (i := 430) (by decide +kernel)⟩
theorem lw_p25 : lw_okq (⟨"NineLands", "paidLivingIn", "(I)I"⟩, 8) := ⟨⟨by decide +kernel, by decide +kernel⟩, List.mem_of_getElem? (i := 15) (by decide +kernel), List.mem_of_getElem? (i := 441) (by decide +kernel), List.mem_of_getElem? (i := 442) (by decide +kernel)⟩
theorem lw_p26 : lw_okq (⟨"NineLands$Book", "behind", "()I"⟩, 5) := ⟨⟨by decide +kernel, by decide +kernel⟩, List.mem_of_getElem? (i := 43) (by decide +kernel), List.mem_of_getElem? (i := 453) (by decide +kernel), List.mem_of_getElem? (i := 454) (by decide +kernel)⟩
theorem lw_p27 : lw_okq (⟨"NineLands$Sums", "addBench", "(LNineLands$Book;III)V"⟩, 10) := ⟨⟨by decide +kernel, by decide +kernel⟩, List.mem_of_getElem? (i := 80) (by decide +kernel), List.mem_of_getElem? (i := 458) (by decide +kernel), List.mem_of_getElem? (i := 459) (by decide +kernel)⟩
theorem lw_p28 : lw_okq (⟨"NineLands", "owedByAllIf", "(II)I"⟩, 8) := ⟨⟨by decide +kernel, by decide +kernel⟩, List.mem_of_getElem? (i := 15) (by decide +kernel), List.mem_of_getElem? (i := 467) (by decide +kernel), List.mem_of_getElem? (i := 468) (by decide +kernel)⟩
theorem lw_p29 : lw_okq (⟨"NineLands", "refuseSum", "(I)I"⟩, 8) := ⟨⟨by decide +kernel, by decide +kernel⟩, List.mem_of_getElem? (i := 15) (by decide +kernel), List.mem_of_getElem? (i := 475) (by decide +kernel), List.mem_of_getElem? (i := 476) (by decide +kernel)⟩
theorem lw_p30 : lw_okq (⟨"NineLands", "owedByAllWithYear", "(II)I"⟩, 8) := ⟨⟨by decide +kernel, by decide +kernel⟩, List.mem_of_getElem? (i := 15) (by decide +kernel), List.mem_of_getElem? (i := 480) (by decide +kernel), List.mem_of_getElem? (i := 481) (by decide +kernel)⟩
theorem lw_p31 : lw_okq (⟨"NineLands$Book", "copyFrom", "(LNineLands$Book;)V"⟩, 5) := ⟨⟨by decide +kernel, by decide +kernel⟩, List.mem_of_getElem? (i := 43) (by decide +kernel), List.mem_of_getElem? (i := 507) (by decide +kernel), List.mem_of_getElem? (i := 508) (by decide +kernel)⟩
def lw_privs_2 : List (MethodName × Nat) := [(⟨"NineLands$Sums", "payPut", "(LNineLands$Book;I)I"⟩, 10), (⟨"NineLands$Book", "holders", "(I)I"⟩, 5), (⟨"NineLands$Sums", "dueBy", "(LNineLands$Book;III)I"⟩, 10), (⟨"NineLands$Sums", "dueWhole", "([III)I"⟩, 10), (⟨"NineLands$Sums", "duePut", "([II)I"⟩, 10), (⟨"NineLands", "owedByAll", "()I"⟩, 8), (⟨"NineLands$Sums", "settle", "(LNineLands$Book;)I"⟩, 10), (⟨"NineLands$Sums", "changesInTurn", "(LNineLands$Book;)Z"⟩, 10), (⟨"NineLands", "paidFrom", "(III)I"⟩, 8), (⟨"NineLands", "paidLivingIn", "(I)I"⟩, 8), (⟨"NineLands$Book", "behind", "()I"⟩, 5), (⟨"NineLands$Sums", "addBench", "(LNineLands$Book;III)V"⟩, 10), (⟨"NineLands", "owedByAllIf", "(II)I"⟩, 8), (⟨"NineLands", "refuseSum", "(I)I"⟩, 8), (⟨"NineLands", "owedByAllWithYear", "(II)I"⟩, 8), (⟨"NineLands$Book", "copyFrom", "(LNineLands$Book;)V"⟩, 5)]
theorem lw_r2 : ∀ q ∈ lw_privs_2, lw_okq q := List.forall_mem_cons.mpr ⟨lw_p16, List.forall_mem_cons.mpr ⟨lw_p17, List.forall_mem_cons.mpr ⟨lw_p18, List.forall_mem_cons.mpr ⟨lw_p19, List.forall_mem_cons.mpr ⟨lw_p20, List.forall_mem_cons.mpr ⟨lw_p21, List.forall_mem_cons.mpr ⟨lw_p22, List.forall_mem_cons.mpr ⟨lw_p23, List.forall_mem_cons.mpr ⟨lw_p24, List.forall_mem_cons.mpr ⟨lw_p25, List.forall_mem_cons.mpr ⟨lw_p26, List.forall_mem_cons.mpr ⟨lw_p27, List.forall_mem_cons.mpr ⟨lw_p28, List.forall_mem_cons.mpr ⟨lw_p29, List.forall_mem_cons.mpr ⟨lw_p30, List.forall_mem_cons.mpr ⟨lw_p31, fun _ h => absurd h List.not_mem_nil⟩⟩⟩⟩⟩⟩⟩⟩⟩⟩⟩⟩⟩⟩⟩⟩
theorem lw_p32 : lw_okq (⟨"NineLands$Book", "shownSpells", "()I"⟩, 5) := ⟨⟨by decide +kernel, by decide +kernel⟩, List.mem_of_getElem? (i := 43) (by decide +kernel), List.mem_of_getElem? (i := 519) (by decide +kernel), List.mem_of_getElem? (i := 520) (by decide +kernel)⟩
theorem lw_p33 : lw_okq (⟨"NineLands$Book", "madePacts", "()I"⟩, 5) := ⟨⟨by decide +kernel, by decide +kernel⟩, List.mem_of_getElem? (i := 43) (by decide +kernel), List.mem_of_getElem? (i := 523) (by decide +kernel), List.mem_of_getElem? (i := 524) (by decide +kernel)⟩
theorem lw_p34 : lw_okq (⟨"NineLandsModel", "no", "(I)I"⟩, 30) := ⟨⟨by decide +kernel, by decide +kernel⟩, List.mem_of_getElem? (i := 527) (by decide +kernel), List.mem_of_getElem? (i := 631) (by decide +kernel), List.mem_of_getElem? (i := 632) (by decide +kernel)⟩
theorem lw_p35 : lw_okq (⟨"NineLandsModel", "reads", "()Z"⟩, 30) := ⟨⟨by decide +kernel, by decide +kernel⟩, List.mem_of_getElem? (i := 527) (by decide +kernel), List.mem_of_getElem? (i := 640) (by decide +kernel), List.mem_of_getElem? (i := 641) (by decide +kernel)⟩
theorem lw_p36 : lw_okq (⟨"NineLandsModel", "sign", "()I"⟩, 30) := ⟨⟨by decide +kernel, by decide +kernel⟩, List.mem_of_getElem? (i := 527) (by decide +kernel), List.mem_of_getElem? (i := 644) (by decide +kernel), List.mem_of_getElem? (i := 645) (by decide +kernel)⟩
theorem lw_p37 : lw_okq (⟨"NineLandsModel", "number", "()I"⟩, 30) := ⟨⟨by decide +kernel, by decide +kernel⟩, List.mem_of_getElem? (i := 527) (by decide +kernel), List.mem_of_getElem? (i := 651) (by decide +kernel), List.mem_of_getElem? (i := 652) (by decide +kernel)⟩
theorem lw_p38 : lw_okq (⟨"NineLandsModel", "takes", "(I)Z"⟩, 30) := ⟨⟨by decide +kernel, by decide +kernel⟩, List.mem_of_getElem? (i := 527) (by decide +kernel), List.mem_of_getElem? (i := 658) (by decide +kernel), List.mem_of_getElem? (i := 659) (by decide +kernel)⟩
theorem lw_p39 : lw_okq (⟨"NineLandsModel", "isSpell", "(I)Z"⟩, 30) := ⟨⟨by decide +kernel, by decide +kernel⟩, List.mem_of_getElem? (i := 527) (by decide +kernel), List.mem_of_getElem? (i := 666) (by decide +kernel), List.mem_of_getElem? (i := 667) (by decide +kernel)⟩
theorem lw_p40 : lw_okq (⟨"NineLandsModel", "findMonths", "(I)V"⟩, 30) := ⟨⟨by decide +kernel, by decide +kernel⟩, List.mem_of_getElem? (i := 527) (by decide +kernel), List.mem_of_getElem? (i := 690) (by decide +kernel), List.mem_of_getElem? (i := 691) (by decide +kernel)⟩
theorem lw_p41 : lw_okq (⟨"NineLandsModel", "lawOf", "(II)I"⟩, 30) := ⟨⟨by decide +kernel, by decide +kernel⟩, List.mem_of_getElem? (i := 527) (by decide +kernel), List.mem_of_getElem? (i := 694) (by decide +kernel), List.mem_of_getElem? (i := 695) (by decide +kernel)⟩
theorem lw_p42 : lw_okq (⟨"NineLandsModel", "sums", "(I)V"⟩, 30) := ⟨⟨by decide +kernel, by decide +kernel⟩, List.mem_of_getElem? (i := 527) (by decide +kernel), List.mem_of_getElem? (i := 698) (by decide +kernel), List.mem_of_getElem? (i := 699) (by decide +kernel)⟩
theorem lw_p43 : lw_okq (⟨"NineLandsModel", "putPay", "(II)I"⟩, 30) := ⟨⟨by decide +kernel, by decide +kernel⟩, List.mem_of_getElem? (i := 527) (by decide +kernel), List.mem_of_getElem? (i := 702) (by decide +kernel), List.mem_of_getElem? (i := 703) (by decide +kernel)⟩
theorem lw_p44 : lw_okq (⟨"NineLandsModel", "says", "(III)I"⟩, 30) := ⟨⟨by decide +kernel, by decide +kernel⟩, List.mem_of_getElem? (i := 527) (by decide +kernel), List.mem_of_getElem? (i := 718) (by decide +kernel), List.mem_of_getElem? (i := 719) (by decide +kernel)⟩
theorem lw_p45 : lw_okq (⟨"NineLandsModel", "isRight", "(II)Z"⟩, 30) := ⟨⟨by decide +kernel, by decide +kernel⟩, List.mem_of_getElem? (i := 527) (by decide +kernel), List.mem_of_getElem? (i := 722) (by decide +kernel), List.mem_of_getElem? (i := 723) (by decide +kernel)⟩
theorem lw_p46 : lw_okq (⟨"NineLandsModel", "byRate", "(II)I"⟩, 30) := ⟨⟨by decide +kernel, by decide +kernel⟩, List.mem_of_getElem? (i := 527) (by decide +kernel), List.mem_of_getElem? (i := 726) (by decide +kernel), List.mem_of_getElem? (i := 727) (by decide +kernel)⟩
theorem lw_p47 : lw_okq (⟨"NineLandsModel", "leastOf", "(I)I"⟩, 30) := ⟨⟨by decide +kernel, by decide +kernel⟩, List.mem_of_getElem? (i := 527) (by decide +kernel), List.mem_of_getElem? (i := 730) (by decide +kernel), List.mem_of_getElem? (i := 731) (by decide +kernel)⟩
def lw_privs_3 : List (MethodName × Nat) := [(⟨"NineLands$Book", "shownSpells", "()I"⟩, 5), (⟨"NineLands$Book", "madePacts", "()I"⟩, 5), (⟨"NineLandsModel", "no", "(I)I"⟩, 30), (⟨"NineLandsModel", "reads", "()Z"⟩, 30), (⟨"NineLandsModel", "sign", "()I"⟩, 30), (⟨"NineLandsModel", "number", "()I"⟩, 30), (⟨"NineLandsModel", "takes", "(I)Z"⟩, 30), (⟨"NineLandsModel", "isSpell", "(I)Z"⟩, 30), (⟨"NineLandsModel", "findMonths", "(I)V"⟩, 30), (⟨"NineLandsModel", "lawOf", "(II)I"⟩, 30), (⟨"NineLandsModel", "sums", "(I)V"⟩, 30), (⟨"NineLandsModel", "putPay", "(II)I"⟩, 30), (⟨"NineLandsModel", "says", "(III)I"⟩, 30), (⟨"NineLandsModel", "isRight", "(II)Z"⟩, 30), (⟨"NineLandsModel", "byRate", "(II)I"⟩, 30), (⟨"NineLandsModel", "leastOf", "(I)I"⟩, 30)]
theorem lw_r3 : ∀ q ∈ lw_privs_3, lw_okq q := List.forall_mem_cons.mpr ⟨lw_p32, List.forall_mem_cons.mpr ⟨lw_p33, List.forall_mem_cons.mpr ⟨lw_p34, List.forall_mem_cons.mpr ⟨lw_p35, List.forall_mem_cons.mpr ⟨lw_p36, List.forall_mem_cons.mpr ⟨lw_p37, List.forall_mem_cons.mpr ⟨lw_p38, List.forall_mem_cons.mpr ⟨lw_p39, List.forall_mem_cons.mpr ⟨lw_p40, List.forall_mem_cons.mpr ⟨lw_p41, List.forall_mem_cons.mpr ⟨lw_p42, List.forall_mem_cons.mpr ⟨lw_p43, List.forall_mem_cons.mpr ⟨lw_p44, List.forall_mem_cons.mpr ⟨lw_p45, List.forall_mem_cons.mpr ⟨lw_p46, List.forall_mem_cons.mpr ⟨lw_p47, fun _ h => absurd h List.not_mem_nil⟩⟩⟩⟩⟩⟩⟩⟩⟩⟩⟩⟩⟩⟩⟩⟩
theorem lw_p48 : lw_okq (⟨"NineLandsModel", "putOf", "(I)I"⟩, 30) := ⟨⟨by decide +kernel, by decide +kernel⟩, List.mem_of_getElem? (i := 527) (by decide +kernel), List.mem_of_getElem? (i := 737) (by decide +kernel), List.mem_of_getElem? (i := 738) (by decide +kernel)⟩
theorem lw_p49 : lw_okq (⟨"NineLandsModel", "finds", "(I)V"⟩, 30) := ⟨⟨by decide +kernel, by decide +kernel⟩, List.mem_of_getElem? (i := 527) (by decide +kernel), List.mem_of_getElem? (i := 749) (by decide +kernel), List.mem_of_getElem? (i := 750) (by decide +kernel)⟩
theorem lw_p50 : lw_okq (⟨"NineLandsModel", "sumOf", "([I)I"⟩, 30) := ⟨⟨by decide +kernel, by decide +kernel⟩, List.mem_of_getElem? (i := 527) (by decide +kernel), List.mem_of_getElem? (i := 753) (by decide +kernel), List.mem_of_getElem? (i := 754) (by decide +kernel)⟩
theorem lw_p51 : lw_okq (⟨"NineLandsModel", "paid", "(III)I"⟩, 30) := ⟨⟨by decide +kernel, by decide +kernel⟩, List.mem_of_getElem? (i := 527) (by decide +kernel), List.mem_of_getElem? (i := 769) (by decide +kernel), List.mem_of_getElem? (i := 770) (by decide +kernel)⟩
theorem lw_p52 : lw_okq (⟨"NineLandsModel", "livingIn", "(I)I"⟩, 30) := ⟨⟨by decide +kernel, by decide +kernel⟩, List.mem_of_getElem? (i := 527) (by decide +kernel), List.mem_of_getElem? (i := 781) (by decide +kernel), List.mem_of_getElem? (i := 782) (by decide +kernel)⟩
theorem lw_p53 : lw_okq (⟨"NineLandsModel", "behind", "()I"⟩, 30) := ⟨⟨by decide +kernel, by decide +kernel⟩, List.mem_of_getElem? (i := 527) (by decide +kernel), List.mem_of_getElem? (i := 793) (by decide +kernel), List.mem_of_getElem? (i := 794) (by decide +kernel)⟩
theorem lw_p54 : lw_okq (⟨"NineLandsModel", "findsWith", "(IIII)V"⟩, 30) := ⟨⟨by decide +kernel, by decide +kernel⟩, List.mem_of_getElem? (i := 527) (by decide +kernel), List.mem_of_getElem? (i := 797) (by decide +kernel), List.mem_of_getElem? (i := 798) (by decide +kernel)⟩
theorem lw_p55 : lw_okq (⟨"NineLandsModel", "less", "(I)I"⟩, 30) := ⟨⟨by decide +kernel, by decide +kernel⟩, List.mem_of_getElem? (i := 527) (by decide +kernel), List.mem_of_getElem? (i := 809) (by decide +kernel), List.mem_of_getElem? (i := 810) (by decide +kernel)⟩
theorem lw_p56 : lw_okq (⟨"NineLandsModel", "passesAll", "()V"⟩, 30) := ⟨⟨by decide +kernel, by decide +kernel⟩, List.mem_of_getElem? (i := 527) (by decide +kernel), List.mem_of_getElem? (i := 830) (by decide +kernel), List.mem_of_getElem? (i := 831) (by decide +kernel)⟩
theorem lw_p57 : lw_okq (⟨"NineLandsModel", "passes", "([I)V"⟩, 30) := ⟨⟨by decide +kernel, by decide +kernel⟩, List.mem_of_getElem? (i := 527) (by decide +kernel), List.mem_of_getElem? (i := 834) (by decide +kernel), List.mem_of_getElem? (i := 835) (by decide +kernel)⟩
def lw_privs_4 : List (MethodName × Nat) := [(⟨"NineLandsModel", "putOf", "(I)I"⟩, 30), (⟨"NineLandsModel", "finds", "(I)V"⟩, 30), (⟨"NineLandsModel", "sumOf", "([I)I"⟩, 30), (⟨"NineLandsModel", "paid", "(III)I"⟩, 30), (⟨"NineLandsModel", "livingIn", "(I)I"⟩, 30), (⟨"NineLandsModel", "behind", "()I"⟩, 30), (⟨"NineLandsModel", "findsWith", "(IIII)V"⟩, 30), (⟨"NineLandsModel", "less", "(I)I"⟩, 30), (⟨"NineLandsModel", "passesAll", "()V"⟩, 30), (⟨"NineLandsModel", "passes", "([I)V"⟩, 30)]
theorem lw_r4 : ∀ q ∈ lw_privs_4, lw_okq q := List.forall_mem_cons.mpr ⟨lw_p48, List.forall_mem_cons.mpr ⟨lw_p49, List.forall_mem_cons.mpr ⟨lw_p50, List.forall_mem_cons.mpr ⟨lw_p51, List.forall_mem_cons.mpr ⟨lw_p52, List.forall_mem_cons.mpr ⟨lw_p53, List.forall_mem_cons.mpr ⟨lw_p54, List.forall_mem_cons.mpr ⟨lw_p55, List.forall_mem_cons.mpr ⟨lw_p56, List.forall_mem_cons.mpr ⟨lw_p57, fun _ h => absurd h List.not_mem_nil⟩⟩⟩⟩⟩⟩⟩⟩⟩⟩
def lw_privs : List (MethodName × Nat) := lw_privs_1 ++ (lw_privs_2 ++ (lw_privs_3 ++ (lw_privs_4)))
def lw_tbl : List Cond := k2_sels lw_privs ++ tables_1
theorem lw_privs_ok : ∀ q ∈ lw_privs, lw_okq q := by
  show ∀ q ∈ lw_privs_1 ++ (lw_privs_2 ++ (lw_privs_3 ++ (lw_privs_4))), lw_okq q
  exact List.forall_mem_append.mpr ⟨lw_r1, List.forall_mem_append.mpr ⟨lw_r2, List.forall_mem_append.mpr ⟨lw_r3, lw_r4⟩⟩⟩

def RX0 : String := "NineLands$Book"
def TX0 : u_T := fun k => match k with
  | 0 => ("NineLands$Book", "spells", "[[I", true)
  | 1 => ("NineLands$Book", "laws", "[[I", true)
  | 2 => ("NineLands$Book", "kinds", "[I", true)
  | 3 => ("NineLands$Book", "pacts", "[[I", true)
  | _ => ("NineLands$Book", "written", "I", false)
def tyX0 : Nat → FieldType := fun k => match k with
  | 0 => .array (.array .int)
  | 1 => .array (.array .int)
  | 2 => .array .int
  | 3 => .array (.array .int)
  | _ => .int
abbrev wsX00 : List Cond := u_ws RX0 TX0 5
theorem nmX0 : ∀ a, a < 5 → ∀ b, b < 5 → a ≠ b → (TX0 a).2.1 ≠ (TX0 b).2.1 := by decide +kernel
theorem tyX0_ok : ∀ k, k < 5 → parseFieldDescriptor (TX0 k).2.2.1 = some (tyX0 k) := by decide +kernel
abbrev cX0_init : ByteArray := prog_2_method_1_code
def yX0_init : MethodName := ⟨RX0, "<init>", "()V"⟩
abbrev cX0_copyFrom : ByteArray := prog_2_method_2_code
def yX0_copyFrom : MethodName := ⟨RX0, "copyFrom", "(LNineLands$Book;)V"⟩
abbrev cX0_shownSpells : ByteArray := prog_2_method_3_code
def yX0_shownSpells : MethodName := ⟨RX0, "shownSpells", "()I"⟩
abbrev cX0_madePacts : ByteArray := prog_2_method_4_code
def yX0_madePacts : MethodName := ⟨RX0, "madePacts", "()I"⟩
abbrev cX0_behind : ByteArray := prog_2_method_5_code
def yX0_behind : MethodName := ⟨RX0, "behind", "()I"⟩
abbrev cX0_nextChange : ByteArray := prog_2_method_6_code
def yX0_nextChange : MethodName := ⟨RX0, "nextChange", "(I)I"⟩
abbrev cX0_isHeld : ByteArray := prog_2_method_7_code
def yX0_isHeld : MethodName := ⟨RX0, "isHeld", "(II)Z"⟩
abbrev cX0_holders : ByteArray := prog_2_method_8_code
def yX0_holders : MethodName := ⟨RX0, "holders", "(I)I"⟩
abbrev cX0_workCounts : ByteArray := prog_2_method_9_code
def yX0_workCounts : MethodName := ⟨RX0, "workCounts", "(II)Z"⟩
abbrev cX0_payAt : ByteArray := prog_2_method_10_code
def yX0_payAt : MethodName := ⟨RX0, "payAt", "(II)I"⟩
def RX1 : String := "NineLands$Sums"
def TX1 : u_T := fun k => match k with
  | 0 => ("NineLands$Sums", "payHere", "[I", true)
  | 1 => ("NineLands$Sums", "months", "[I", true)
  | 2 => ("NineLands$Sums", "pays", "[I", true)
  | 3 => ("NineLands$Sums", "putMonths", "[I", true)
  | 4 => ("NineLands$Sums", "putPays", "[I", true)
  | 5 => ("NineLands$Sums", "whole", "[I", true)
  | 6 => ("NineLands$Sums", "owes", "[I", true)
  | 7 => ("NineLands$Sums", "overMonths", "I", false)
  | 8 => ("NineLands$Sums", "firstOver", "I", false)
  | _ => ("NineLands$Sums", "isAtRest", "Z", false)
def tyX1 : Nat → FieldType := fun k => match k with
  | 0 => .array .int
  | 1 => .array .int
  | 2 => .array .int
  | 3 => .array .int
  | 4 => .array .int
  | 5 => .array .int
  | 6 => .array .int
  | 7 => .int
  | 8 => .int
  | _ => .boolean
abbrev wsX10 : List Cond := u_ws RX1 TX1 10
theorem nmX1 : ∀ a, a < 10 → ∀ b, b < 10 → a ≠ b → (TX1 a).2.1 ≠ (TX1 b).2.1 := by decide +kernel
theorem tyX1_ok : ∀ k, k < 10 → parseFieldDescriptor (TX1 k).2.2.1 = some (tyX1 k) := by decide +kernel
abbrev cX1_init : ByteArray := prog_3_method_1_code
def yX1_init : MethodName := ⟨RX1, "<init>", "()V"⟩
abbrev cX1_reckon : ByteArray := prog_3_method_2_code
def yX1_reckon : MethodName := ⟨RX1, "reckon", "(LNineLands$Book;)V"⟩
abbrev cX1_clear : ByteArray := prog_3_method_3_code
def yX1_clear : MethodName := ⟨RX1, "clear", "()V"⟩
abbrev cX1_addStretch : ByteArray := prog_3_method_4_code
def yX1_addStretch : MethodName := ⟨RX1, "addStretch", "(LNineLands$Book;II)V"⟩
abbrev cX1_addOwn : ByteArray := prog_3_method_5_code
def yX1_addOwn : MethodName := ⟨RX1, "addOwn", "(II)V"⟩
abbrev cX1_addPut : ByteArray := prog_3_method_6_code
def yX1_addPut : MethodName := ⟨RX1, "addPut", "(LNineLands$Book;II)V"⟩
abbrev cX1_payPut : ByteArray := prog_3_method_7_code
def yX1_payPut : MethodName := ⟨RX1, "payPut", "(LNineLands$Book;I)I"⟩
abbrev cX1_addBench : ByteArray := prog_3_method_8_code
def yX1_addBench : MethodName := ⟨RX1, "addBench", "(LNineLands$Book;III)V"⟩
abbrev cX1_settle : ByteArray := prog_3_method_9_code
def yX1_settle : MethodName := ⟨RX1, "settle", "(LNineLands$Book;)I"⟩
abbrev cX1_changesInTurn : ByteArray := prog_3_method_10_code
def yX1_changesInTurn : MethodName := ⟨RX1, "changesInTurn", "(LNineLands$Book;)Z"⟩
abbrev cX1_dueBy : ByteArray := prog_3_method_11_code
def yX1_dueBy : MethodName := ⟨RX1, "dueBy", "(LNineLands$Book;III)I"⟩
abbrev cX1_dueWhole : ByteArray := prog_3_method_12_code
def yX1_dueWhole : MethodName := ⟨RX1, "dueWhole", "([III)I"⟩
abbrev cX1_duePut : ByteArray := prog_3_method_13_code
def yX1_duePut : MethodName := ⟨RX1, "duePut", "([II)I"⟩
abbrev cX1_hasRight : ByteArray := prog_3_method_14_code
def yX1_hasRight : MethodName := ⟨RX1, "hasRight", "([II)Z"⟩
abbrev cX1_byRate : ByteArray := prog_3_method_15_code
def yX1_byRate : MethodName := ⟨RX1, "byRate", "([II)I"⟩
abbrev cX1_lessOthers : ByteArray := prog_3_method_16_code
def yX1_lessOthers : MethodName := ⟨RX1, "lessOthers", "([IIII)I"⟩
def RX2 : String := "NineLands$Tape"
def TX2 : u_T := fun k => match k with
  | 0 => ("NineLands$Tape", "bytes", "[I", true)
  | 1 => ("NineLands$Tape", "length", "I", false)
  | _ => ("NineLands$Tape", "place", "I", false)
def tyX2 : Nat → FieldType := fun k => match k with
  | 0 => .array .int
  | 1 => .int
  | _ => .int
abbrev wsX20 : List Cond := u_ws RX2 TX2 3
theorem nmX2 : ∀ a, a < 3 → ∀ b, b < 3 → a ≠ b → (TX2 a).2.1 ≠ (TX2 b).2.1 := by decide +kernel
theorem tyX2_ok : ∀ k, k < 3 → parseFieldDescriptor (TX2 k).2.2.1 = some (tyX2 k) := by decide +kernel
abbrev cX2_init : ByteArray := prog_4_method_1_code
def yX2_init : MethodName := ⟨RX2, "<init>", "()V"⟩
abbrev cX2_readInto : ByteArray := prog_4_method_2_code
def yX2_readInto : MethodName := ⟨RX2, "readInto", "([I)Z"⟩
abbrev cX2_readChoice : ByteArray := prog_4_method_3_code
def yX2_readChoice : MethodName := ⟨RX2, "readChoice", "([IILjava/lang/String;)Z"⟩
abbrev cX2_readSign : ByteArray := prog_4_method_4_code
def yX2_readSign : MethodName := ⟨RX2, "readSign", "(C)Z"⟩
abbrev cX2_readNumber : ByteArray := prog_4_method_5_code
def yX2_readNumber : MethodName := ⟨RX2, "readNumber", "([II)Z"⟩
abbrev cX2_readTill : ByteArray := prog_4_method_6_code
def yX2_readTill : MethodName := ⟨RX2, "readTill", "([I)Z"⟩
def RX3 : String := "NineLands"
def TX3 : u_T := fun k => match k with
  | 0 => ("NineLands", "tape", "LNineLands$Tape;", true)
  | 1 => ("NineLands", "book", "LNineLands$Book;", true)
  | 2 => ("NineLands", "kept", "LNineLands$Book;", true)
  | 3 => ("NineLands", "sums", "LNineLands$Sums;", true)
  | 4 => ("NineLands", "row", "[I", true)
  | 5 => ("NineLands", "refused", "[I", true)
  | 6 => ("NineLands", "rowLength", "I", false)
  | _ => ("NineLands", "hasKept", "Z", false)
def tyX3 : Nat → FieldType := fun k => match k with
  | 0 => .object "NineLands$Tape"
  | 1 => .object "NineLands$Book"
  | 2 => .object "NineLands$Book"
  | 3 => .object "NineLands$Sums"
  | 4 => .array .int
  | 5 => .array .int
  | 6 => .int
  | _ => .boolean
abbrev wsX30 : List Cond := u_ws RX3 TX3 8
theorem nmX3 : ∀ a, a < 8 → ∀ b, b < 8 → a ≠ b → (TX3 a).2.1 ≠ (TX3 b).2.1 := by decide +kernel
theorem tyX3_ok : ∀ k, k < 8 → parseFieldDescriptor (TX3 k).2.2.1 = some (tyX3 k) := by decide +kernel
abbrev cX3_init : ByteArray := prog_1_method_1_code
def yX3_init : MethodName := ⟨RX3, "<init>", "()V"⟩
abbrev cX3_feed : ByteArray := prog_1_method_2_code
def yX3_feed : MethodName := ⟨RX3, "feed", "(IJ)I"⟩
abbrev cX3_spell : ByteArray := prog_1_method_3_code
def yX3_spell : MethodName := ⟨RX3, "spell", "()I"⟩
abbrev cX3_spellOf : ByteArray := prog_1_method_4_code
def yX3_spellOf : MethodName := ⟨RX3, "spellOf", "(II)I"⟩
abbrev cX3_show : ByteArray := prog_1_method_5_code
def yX3_show : MethodName := ⟨RX3, "show", "(IZ)I"⟩
abbrev cX3_law : ByteArray := prog_1_method_6_code
def yX3_law : MethodName := ⟨RX3, "law", "(III)I"⟩
abbrev cX3_kind : ByteArray := prog_1_method_7_code
def yX3_kind : MethodName := ⟨RX3, "kind", "(II)I"⟩
abbrev cX3_pact : ByteArray := prog_1_method_8_code
def yX3_pact : MethodName := ⟨RX3, "pact", "(IIZ)I"⟩
abbrev cX3_counts : ByteArray := prog_1_method_9_code
def yX3_counts : MethodName := ⟨RX3, "counts", "(II)I"⟩
abbrev cX3_month : ByteArray := prog_1_method_10_code
def yX3_month : MethodName := ⟨RX3, "month", "(II)I"⟩
abbrev cX3_over : ByteArray := prog_1_method_11_code
def yX3_over : MethodName := ⟨RX3, "over", "(I)I"⟩
abbrev cX3_alone : ByteArray := prog_1_method_12_code
def yX3_alone : MethodName := ⟨RX3, "alone", "(II)I"⟩
abbrev cX3_lacks : ByteArray := prog_1_method_13_code
def yX3_lacks : MethodName := ⟨RX3, "lacks", "(IZ)I"⟩
abbrev cX3_owed : ByteArray := prog_1_method_14_code
def yX3_owed : MethodName := ⟨RX3, "owed", "(I)I"⟩
abbrev cX3_rests : ByteArray := prog_1_method_15_code
def yX3_rests : MethodName := ⟨RX3, "rests", "()I"⟩
abbrev cX3_all : ByteArray := prog_1_method_16_code
def yX3_all : MethodName := ⟨RX3, "all", "()I"⟩
abbrev cX3_asks : ByteArray := prog_1_method_17_code
def yX3_asks : MethodName := ⟨RX3, "asks", "(III)I"⟩
abbrev cX3_when : ByteArray := prog_1_method_18_code
def yX3_when : MethodName := ⟨RX3, "when", "(II)I"⟩
abbrev cX3_lives : ByteArray := prog_1_method_19_code
def yX3_lives : MethodName := ⟨RX3, "lives", "(I)I"⟩
abbrev cX3_where : ByteArray := prog_1_method_20_code
def yX3_where : MethodName := ⟨RX3, "where", "()I"⟩
abbrev cX3_edge : ByteArray := prog_1_method_21_code
def yX3_edge : MethodName := ⟨RX3, "edge", "(II)I"⟩
abbrev cX3_hangs : ByteArray := prog_1_method_22_code
def yX3_hangs : MethodName := ⟨RX3, "hangs", "()I"⟩
abbrev cX3_year : ByteArray := prog_1_method_23_code
def yX3_year : MethodName := ⟨RX3, "year", "(II)I"⟩
abbrev cX3_proof : ByteArray := prog_1_method_24_code
def yX3_proof : MethodName := ⟨RX3, "proof", "(I)I"⟩
abbrev cX3_put : ByteArray := prog_1_method_25_code
def yX3_put : MethodName := ⟨RX3, "put", "(I)I"⟩
abbrev cX3_judge : ByteArray := prog_1_method_26_code
def yX3_judge : MethodName := ⟨RX3, "judge", "()I"⟩
abbrev cX3_image : ByteArray := prog_1_method_27_code
def yX3_image : MethodName := ⟨RX3, "image", "()I"⟩
abbrev cX3_on : ByteArray := prog_1_method_28_code
def yX3_on : MethodName := ⟨RX3, "on", "()I"⟩
abbrev cX3_count : ByteArray := prog_1_method_29_code
def yX3_count : MethodName := ⟨RX3, "count", "(I)I"⟩
abbrev cX3_refuse : ByteArray := prog_1_method_30_code
def yX3_refuse : MethodName := ⟨RX3, "refuse", "(I)I"⟩
abbrev cX3_refuseSum : ByteArray := prog_1_method_31_code
def yX3_refuseSum : MethodName := ⟨RX3, "refuseSum", "(I)I"⟩
abbrev cX3_isSpell : ByteArray := prog_1_method_32_code
def yX3_isSpell : MethodName := ⟨RX3, "isSpell", "(I)Z"⟩
abbrev cX3_isLand : ByteArray := prog_1_method_33_code
def yX3_isLand : MethodName := ⟨RX3, "isLand", "(I)Z"⟩
abbrev cX3_isKind : ByteArray := prog_1_method_34_code
def yX3_isKind : MethodName := ⟨RX3, "isKind", "(I)Z"⟩
abbrev cX3_owedByAll : ByteArray := prog_1_method_35_code
def yX3_owedByAll : MethodName := ⟨RX3, "owedByAll", "()I"⟩
abbrev cX3_owedByAllIf : ByteArray := prog_1_method_36_code
def yX3_owedByAllIf : MethodName := ⟨RX3, "owedByAllIf", "(II)I"⟩
abbrev cX3_owedByAllWithYear : ByteArray := prog_1_method_37_code
def yX3_owedByAllWithYear : MethodName := ⟨RX3, "owedByAllWithYear", "(II)I"⟩
abbrev cX3_paidFrom : ByteArray := prog_1_method_38_code
def yX3_paidFrom : MethodName := ⟨RX3, "paidFrom", "(III)I"⟩
abbrev cX3_paidLivingIn : ByteArray := prog_1_method_39_code
def yX3_paidLivingIn : MethodName := ⟨RX3, "paidLivingIn", "(I)I"⟩
abbrev cX3_sumOf : ByteArray := prog_1_method_40_code
def yX3_sumOf : MethodName := ⟨RX3, "sumOf", "([I)I"⟩
def RX4 : String := "NineLandsModel"
def TX4 : u_T := fun k => match k with
  | 0 => ("NineLandsModel", "refused", "[I", true)
  | 1 => ("NineLandsModel", "tape", "[I", true)
  | 2 => ("NineLandsModel", "landOf", "[I", true)
  | 3 => ("NineLandsModel", "work", "[I", true)
  | 4 => ("NineLandsModel", "from", "[I", true)
  | 5 => ("NineLandsModel", "till", "[I", true)
  | 6 => ("NineLandsModel", "pay", "[I", true)
  | 7 => ("NineLandsModel", "paidIn", "[I", true)
  | 8 => ("NineLandsModel", "shown", "[I", true)
  | 9 => ("NineLandsModel", "law", "[I", true)
  | 10 => ("NineLandsModel", "kind", "[I", true)
  | 11 => ("NineLandsModel", "pact", "[I", true)
  | 12 => ("NineLandsModel", "top", "[I", true)
  | 13 => ("NineLandsModel", "taped", "I", false)
  | 14 => ("NineLandsModel", "at", "I", false)
  | 15 => ("NineLandsModel", "spells", "I", false)
  | 16 => ("NineLandsModel", "without", "I", false)
  | 17 => ("NineLandsModel", "month", "[I", true)
  | 18 => ("NineLandsModel", "many", "[I", true)
  | 19 => ("NineLandsModel", "pays", "[I", true)
  | 20 => ("NineLandsModel", "putMany", "[I", true)
  | 21 => ("NineLandsModel", "putPays", "[I", true)
  | 22 => ("NineLandsModel", "owes", "[I", true)
  | 23 => ("NineLandsModel", "isResting", "Z", false)
  | 24 => ("NineLandsModel", "row", "[I", true)
  | 25 => ("NineLandsModel", "rowMany", "I", false)
  | 26 => ("NineLandsModel", "kept", "[I", true)
  | 27 => ("NineLandsModel", "hasImage", "Z", false)
  | 28 => ("NineLandsModel", "isKeeping", "Z", false)
  | _ => ("NineLandsModel", "cursor", "I", false)
def tyX4 : Nat → FieldType := fun k => match k with
  | 0 => .array .int
  | 1 => .array .int
  | 2 => .array .int
  | 3 => .array .int
  | 4 => .array .int
  | 5 => .array .int
  | 6 => .array .int
  | 7 => .array .int
  | 8 => .array .int
  | 9 => .array .int
  | 10 => .array .int
  | 11 => .array .int
  | 12 => .array .int
  | 13 => .int
  | 14 => .int
  | 15 => .int
  | 16 => .int
  | 17 => .array .int
  | 18 => .array .int
  | 19 => .array .int
  | 20 => .array .int
  | 21 => .array .int
  | 22 => .array .int
  | 23 => .boolean
  | 24 => .array .int
  | 25 => .int
  | 26 => .array .int
  | 27 => .boolean
  | 28 => .boolean
  | _ => .int
abbrev wsX40 : List Cond := u_ws RX4 TX4 30
theorem nmX4 : ∀ a, a < 30 → ∀ b, b < 30 → a ≠ b → (TX4 a).2.1 ≠ (TX4 b).2.1 := by decide +kernel
theorem tyX4_ok : ∀ k, k < 30 → parseFieldDescriptor (TX4 k).2.2.1 = some (tyX4 k) := by decide +kernel
abbrev cX4_init : ByteArray := prog_6_method_1_code
def yX4_init : MethodName := ⟨RX4, "<init>", "()V"⟩
abbrev cX4_no : ByteArray := prog_6_method_2_code
def yX4_no : MethodName := ⟨RX4, "no", "(I)I"⟩
abbrev cX4_less : ByteArray := prog_6_method_3_code
def yX4_less : MethodName := ⟨RX4, "less", "(I)I"⟩
abbrev cX4_isIn : ByteArray := prog_6_method_4_code
def yX4_isIn : MethodName := ⟨RX4, "isIn", "(III)Z"⟩
abbrev cX4_out : ByteArray := prog_6_method_5_code
def yX4_out : MethodName := ⟨RX4, "out", "(III)I"⟩
abbrev cX4_isLand : ByteArray := prog_6_method_6_code
def yX4_isLand : MethodName := ⟨RX4, "isLand", "(I)Z"⟩
abbrev cX4_feed : ByteArray := prog_6_method_7_code
def yX4_feed : MethodName := ⟨RX4, "feed", "(IJ)I"⟩
abbrev cX4_sign : ByteArray := prog_6_method_8_code
def yX4_sign : MethodName := ⟨RX4, "sign", "()I"⟩
abbrev cX4_takes : ByteArray := prog_6_method_9_code
def yX4_takes : MethodName := ⟨RX4, "takes", "(I)Z"⟩
abbrev cX4_number : ByteArray := prog_6_method_10_code
def yX4_number : MethodName := ⟨RX4, "number", "()I"⟩
abbrev cX4_reads : ByteArray := prog_6_method_11_code
def yX4_reads : MethodName := ⟨RX4, "reads", "()Z"⟩
abbrev cX4_spell : ByteArray := prog_6_method_12_code
def yX4_spell : MethodName := ⟨RX4, "spell", "()I"⟩
abbrev cX4_isSpell : ByteArray := prog_6_method_13_code
def yX4_isSpell : MethodName := ⟨RX4, "isSpell", "(I)Z"⟩
abbrev cX4_spellOf : ByteArray := prog_6_method_14_code
def yX4_spellOf : MethodName := ⟨RX4, "spellOf", "(II)I"⟩
abbrev cX4_show : ByteArray := prog_6_method_15_code
def yX4_show : MethodName := ⟨RX4, "show", "(IZ)I"⟩
abbrev cX4_law : ByteArray := prog_6_method_16_code
def yX4_law : MethodName := ⟨RX4, "law", "(III)I"⟩
abbrev cX4_lawOf : ByteArray := prog_6_method_17_code
def yX4_lawOf : MethodName := ⟨RX4, "lawOf", "(II)I"⟩
abbrev cX4_kind : ByteArray := prog_6_method_18_code
def yX4_kind : MethodName := ⟨RX4, "kind", "(II)I"⟩
abbrev cX4_pact : ByteArray := prog_6_method_19_code
def yX4_pact : MethodName := ⟨RX4, "pact", "(IIZ)I"⟩
abbrev cX4_findMonths : ByteArray := prog_6_method_20_code
def yX4_findMonths : MethodName := ⟨RX4, "findMonths", "(I)V"⟩
abbrev cX4_putPay : ByteArray := prog_6_method_21_code
def yX4_putPay : MethodName := ⟨RX4, "putPay", "(II)I"⟩
abbrev cX4_sums : ByteArray := prog_6_method_22_code
def yX4_sums : MethodName := ⟨RX4, "sums", "(I)V"⟩
abbrev cX4_counts : ByteArray := prog_6_method_23_code
def yX4_counts : MethodName := ⟨RX4, "counts", "(II)I"⟩
abbrev cX4_month : ByteArray := prog_6_method_24_code
def yX4_month : MethodName := ⟨RX4, "month", "(II)I"⟩
abbrev cX4_over : ByteArray := prog_6_method_25_code
def yX4_over : MethodName := ⟨RX4, "over", "(I)I"⟩
abbrev cX4_greater : ByteArray := prog_6_method_26_code
def yX4_greater : MethodName := ⟨RX4, "greater", "(II)I"⟩
abbrev cX4_isRight : ByteArray := prog_6_method_27_code
def yX4_isRight : MethodName := ⟨RX4, "isRight", "(II)Z"⟩
abbrev cX4_byRate : ByteArray := prog_6_method_28_code
def yX4_byRate : MethodName := ⟨RX4, "byRate", "(II)I"⟩
abbrev cX4_leastOf : ByteArray := prog_6_method_29_code
def yX4_leastOf : MethodName := ⟨RX4, "leastOf", "(I)I"⟩
abbrev cX4_putOf : ByteArray := prog_6_method_30_code
def yX4_putOf : MethodName := ⟨RX4, "putOf", "(I)I"⟩
abbrev cX4_says : ByteArray := prog_6_method_31_code
def yX4_says : MethodName := ⟨RX4, "says", "(III)I"⟩
abbrev cX4_sumOf : ByteArray := prog_6_method_32_code
def yX4_sumOf : MethodName := ⟨RX4, "sumOf", "([I)I"⟩
abbrev cX4_finds : ByteArray := prog_6_method_33_code
def yX4_finds : MethodName := ⟨RX4, "finds", "(I)V"⟩
abbrev cX4_alone : ByteArray := prog_6_method_34_code
def yX4_alone : MethodName := ⟨RX4, "alone", "(II)I"⟩
abbrev cX4_lacks : ByteArray := prog_6_method_35_code
def yX4_lacks : MethodName := ⟨RX4, "lacks", "(IZ)I"⟩
abbrev cX4_owed : ByteArray := prog_6_method_36_code
def yX4_owed : MethodName := ⟨RX4, "owed", "(I)I"⟩
abbrev cX4_rests : ByteArray := prog_6_method_37_code
def yX4_rests : MethodName := ⟨RX4, "rests", "()I"⟩
abbrev cX4_all : ByteArray := prog_6_method_38_code
def yX4_all : MethodName := ⟨RX4, "all", "()I"⟩
abbrev cX4_paid : ByteArray := prog_6_method_39_code
def yX4_paid : MethodName := ⟨RX4, "paid", "(III)I"⟩
abbrev cX4_asks : ByteArray := prog_6_method_40_code
def yX4_asks : MethodName := ⟨RX4, "asks", "(III)I"⟩
abbrev cX4_when : ByteArray := prog_6_method_41_code
def yX4_when : MethodName := ⟨RX4, "when", "(II)I"⟩
abbrev cX4_livingIn : ByteArray := prog_6_method_42_code
def yX4_livingIn : MethodName := ⟨RX4, "livingIn", "(I)I"⟩
abbrev cX4_lives : ByteArray := prog_6_method_43_code
def yX4_lives : MethodName := ⟨RX4, "lives", "(I)I"⟩
abbrev cX4_where : ByteArray := prog_6_method_44_code
def yX4_where : MethodName := ⟨RX4, "where", "()I"⟩
abbrev cX4_behind : ByteArray := prog_6_method_45_code
def yX4_behind : MethodName := ⟨RX4, "behind", "()I"⟩
abbrev cX4_findsWith : ByteArray := prog_6_method_46_code
def yX4_findsWith : MethodName := ⟨RX4, "findsWith", "(IIII)V"⟩
abbrev cX4_edge : ByteArray := prog_6_method_47_code
def yX4_edge : MethodName := ⟨RX4, "edge", "(II)I"⟩
abbrev cX4_hangs : ByteArray := prog_6_method_48_code
def yX4_hangs : MethodName := ⟨RX4, "hangs", "()I"⟩
abbrev cX4_year : ByteArray := prog_6_method_49_code
def yX4_year : MethodName := ⟨RX4, "year", "(II)I"⟩
abbrev cX4_proof : ByteArray := prog_6_method_50_code
def yX4_proof : MethodName := ⟨RX4, "proof", "(I)I"⟩
abbrev cX4_put : ByteArray := prog_6_method_51_code
def yX4_put : MethodName := ⟨RX4, "put", "(I)I"⟩
abbrev cX4_judge : ByteArray := prog_6_method_52_code
def yX4_judge : MethodName := ⟨RX4, "judge", "()I"⟩
abbrev cX4_passes : ByteArray := prog_6_method_53_code
def yX4_passes : MethodName := ⟨RX4, "passes", "([I)V"⟩
abbrev cX4_passesAll : ByteArray := prog_6_method_54_code
def yX4_passesAll : MethodName := ⟨RX4, "passesAll", "()V"⟩
abbrev cX4_image : ByteArray := prog_6_method_55_code
def yX4_image : MethodName := ⟨RX4, "image", "()I"⟩
abbrev cX4_on : ByteArray := prog_6_method_56_code
def yX4_on : MethodName := ⟨RX4, "on", "()I"⟩
abbrev cX4_count : ByteArray := prog_6_method_57_code
def yX4_count : MethodName := ⟨RX4, "count", "(I)I"⟩
def RJx145de : String := "java/io/Serializable"
def TJx145de : u_T := fun k => match k with
  | _ => ("", "", "", false)
def tyJx145de : Nat → FieldType := fun k => match k with
  | _ => .int
abbrev wsJx145de0 : List Cond := u_ws RJx145de TJx145de 0
theorem nmJx145de : ∀ a, a < 0 → ∀ b, b < 0 → a ≠ b → (TJx145de a).2.1 ≠ (TJx145de b).2.1 := by decide +kernel
theorem tyJx145de_ok : ∀ k, k < 0 → parseFieldDescriptor (TJx145de k).2.2.1 = some (tyJx145de k) := by decide +kernel
def RJx9f9b0 : String := "java/lang/CharSequence"
def TJx9f9b0 : u_T := fun k => match k with
  | _ => ("", "", "", false)
def tyJx9f9b0 : Nat → FieldType := fun k => match k with
  | _ => .int
abbrev wsJx9f9b00 : List Cond := u_ws RJx9f9b0 TJx9f9b0 0
theorem nmJx9f9b0 : ∀ a, a < 0 → ∀ b, b < 0 → a ≠ b → (TJx9f9b0 a).2.1 ≠ (TJx9f9b0 b).2.1 := by decide +kernel
theorem tyJx9f9b0_ok : ∀ k, k < 0 → parseFieldDescriptor (TJx9f9b0 k).2.2.1 = some (tyJx9f9b0 k) := by decide +kernel
def RJ11 : String := "java/lang/Character"
def TJ11 : u_T := fun k => match k with
  | _ => ("", "", "", false)
def tyJ11 : Nat → FieldType := fun k => match k with
  | _ => .int
abbrev wsJ110 : List Cond := u_ws RJ11 TJ11 0
theorem nmJ11 : ∀ a, a < 0 → ∀ b, b < 0 → a ≠ b → (TJ11 a).2.1 ≠ (TJ11 b).2.1 := by decide +kernel
theorem tyJ11_ok : ∀ k, k < 0 → parseFieldDescriptor (TJ11 k).2.2.1 = some (tyJ11 k) := by decide +kernel
abbrev cJ11_isValidCodePoint_9a6ad : ByteArray := prog_7_method_11_code
def yJ11_isValidCodePoint_9a6ad : MethodName := ⟨RJ11, "isValidCodePoint", "(I)Z"⟩
abbrev cJ11_highSurrogate_5068e : ByteArray := prog_7_method_28_code
def yJ11_highSurrogate_5068e : MethodName := ⟨RJ11, "highSurrogate", "(I)C"⟩
abbrev cJ11_lowSurrogate_5068e : ByteArray := prog_7_method_29_code
def yJ11_lowSurrogate_5068e : MethodName := ⟨RJ11, "lowSurrogate", "(I)C"⟩
def RJxb160c : String := "java/lang/Comparable"
def TJxb160c : u_T := fun k => match k with
  | _ => ("", "", "", false)
def tyJxb160c : Nat → FieldType := fun k => match k with
  | _ => .int
abbrev wsJxb160c0 : List Cond := u_ws RJxb160c TJxb160c 0
theorem nmJxb160c : ∀ a, a < 0 → ∀ b, b < 0 → a ≠ b → (TJxb160c a).2.1 ≠ (TJxb160c b).2.1 := by decide +kernel
theorem tyJxb160c_ok : ∀ k, k < 0 → parseFieldDescriptor (TJxb160c k).2.2.1 = some (tyJxb160c k) := by decide +kernel
def RJ9 : String := "java/lang/Math"
def TJ9 : u_T := fun k => match k with
  | _ => ("", "", "", false)
def tyJ9 : Nat → FieldType := fun k => match k with
  | _ => .int
abbrev wsJ90 : List Cond := u_ws RJ9 TJ9 0
theorem nmJ9 : ∀ a, a < 0 → ∀ b, b < 0 → a ≠ b → (TJ9 a).2.1 ≠ (TJ9 b).2.1 := by decide +kernel
theorem tyJ9_ok : ∀ k, k < 0 → parseFieldDescriptor (TJ9 k).2.2.1 = some (tyJ9 k) := by decide +kernel
abbrev cJ9_max_7cf53 : ByteArray := prog_8_method_65_code
def yJ9_max_7cf53 : MethodName := ⟨RJ9, "max", "(II)I"⟩
abbrev cJ9_min_7cf53 : ByteArray := prog_8_method_69_code
def yJ9_min_7cf53 : MethodName := ⟨RJ9, "min", "(II)I"⟩
def RJ0 : String := "java/lang/String"
def TJ0 : u_T := fun k => match k with
  | _ => ("", "", "", false)
def tyJ0 : Nat → FieldType := fun k => match k with
  | _ => .int
abbrev wsJ00 : List Cond := u_ws RJ0 TJ0 0
theorem nmJ0 : ∀ a, a < 0 → ∀ b, b < 0 → a ≠ b → (TJ0 a).2.1 ≠ (TJ0 b).2.1 := by decide +kernel
theorem tyJ0_ok : ∀ k, k < 0 → parseFieldDescriptor (TJ0 k).2.2.1 = some (tyJ0 k) := by decide +kernel
abbrev cJ0_length_8abf5 : ByteArray := prog_9_method_54_code
def yJ0_length_8abf5 : MethodName := ⟨RJ0, "length", "()I"⟩
abbrev cJ0_indexOf_0f7a4 : ByteArray := prog_9_method_79_code
def yJ0_indexOf_0f7a4 : MethodName := ⟨RJ0, "indexOf", "(I)I"⟩
abbrev cJ0_indexOf_7cf53 : ByteArray := prog_9_method_80_code
def yJ0_indexOf_7cf53 : MethodName := ⟨RJ0, "indexOf", "(II)I"⟩
abbrev cJ0_coder_7d493 : ByteArray := prog_9_method_152_code
def yJ0_coder_7d493 : MethodName := ⟨RJ0, "coder", "()B"⟩
abbrev cJ0_isLatin1_aae02 : ByteArray := prog_9_method_154_code
def yJ0_isLatin1_aae02 : MethodName := ⟨RJ0, "isLatin1", "()Z"⟩
abbrev cJ0_checkBoundsBeginEnd_23922 : ByteArray := prog_9_method_158_code
def yJ0_checkBoundsBeginEnd_23922 : MethodName := ⟨RJ0, "checkBoundsBeginEnd", "(III)V"⟩
def RJ1 : String := "java/lang/StringLatin1"
def TJ1 : u_T := fun k => match k with
  | _ => ("", "", "", false)
def tyJ1 : Nat → FieldType := fun k => match k with
  | _ => .int
abbrev wsJ10 : List Cond := u_ws RJ1 TJ1 0
theorem nmJ1 : ∀ a, a < 0 → ∀ b, b < 0 → a ≠ b → (TJ1 a).2.1 ≠ (TJ1 b).2.1 := by decide +kernel
theorem tyJ1_ok : ∀ k, k < 0 → parseFieldDescriptor (TJ1 k).2.2.1 = some (tyJ1 k) := by decide +kernel
abbrev cJ1_canEncode_9a6ad : ByteArray := prog_10_method_4_code
def yJ1_canEncode_9a6ad : MethodName := ⟨RJ1, "canEncode", "(I)Z"⟩
abbrev cJ1_indexOf_4cfef : ByteArray := prog_10_method_22_code
def yJ1_indexOf_4cfef : MethodName := ⟨RJ1, "indexOf", "([BIII)I"⟩
abbrev cJ1_indexOfChar_4cfef : ByteArray := prog_10_method_23_code
def yJ1_indexOfChar_4cfef : MethodName := ⟨RJ1, "indexOfChar", "([BIII)I"⟩
def RJ2 : String := "java/lang/StringUTF16"
def TJ2 : u_T := fun k => match k with
  | _ => ("", "", "", false)
def tyJ2 : Nat → FieldType := fun k => match k with
  | _ => .int
abbrev wsJ20 : List Cond := u_ws RJ2 TJ2 0
theorem nmJ2 : ∀ a, a < 0 → ∀ b, b < 0 → a ≠ b → (TJ2 a).2.1 ≠ (TJ2 b).2.1 := by decide +kernel
theorem tyJ2_ok : ∀ k, k < 0 → parseFieldDescriptor (TJ2 k).2.2.1 = some (tyJ2 k) := by decide +kernel
abbrev cJ2_getChar_3b067 : ByteArray := prog_11_method_5_code
def yJ2_getChar_3b067 : MethodName := ⟨RJ2, "getChar", "([BI)C"⟩
abbrev cJ2_length_9d52b : ByteArray := prog_11_method_6_code
def yJ2_length_9d52b : MethodName := ⟨RJ2, "length", "([B)I"⟩
abbrev cJ2_indexOf_4cfef : ByteArray := prog_11_method_40_code
def yJ2_indexOf_4cfef : MethodName := ⟨RJ2, "indexOf", "([BIII)I"⟩
abbrev cJ2_indexOfChar_4cfef : ByteArray := prog_11_method_47_code
def yJ2_indexOfChar_4cfef : MethodName := ⟨RJ2, "indexOfChar", "([BIII)I"⟩
abbrev cJ2_indexOfCharUnsafe_4cfef : ByteArray := prog_11_method_48_code
def yJ2_indexOfCharUnsafe_4cfef : MethodName := ⟨RJ2, "indexOfCharUnsafe", "([BIII)I"⟩
abbrev cJ2_indexOfSupplementary_4cfef : ByteArray := prog_11_method_49_code
def yJ2_indexOfSupplementary_4cfef : MethodName := ⟨RJ2, "indexOfSupplementary", "([BIII)I"⟩
abbrev cJ2_checkBoundsBeginEnd_d044e : ByteArray := prog_11_method_93_code
def yJ2_checkBoundsBeginEnd_d044e : MethodName := ⟨RJ2, "checkBoundsBeginEnd", "(II[B)V"⟩
def RJ10 : String := "java/lang/System"
def TJ10 : u_T := fun k => match k with
  | _ => ("", "", "", false)
def tyJ10 : Nat → FieldType := fun k => match k with
  | _ => .int
abbrev wsJ100 : List Cond := u_ws RJ10 TJ10 0
theorem nmJ10 : ∀ a, a < 0 → ∀ b, b < 0 → a ≠ b → (TJ10 a).2.1 ≠ (TJ10 b).2.1 := by decide +kernel
theorem tyJ10_ok : ∀ k, k < 0 → parseFieldDescriptor (TJ10 k).2.2.1 = some (tyJ10 k) := by decide +kernel
def RJxfd54e : String := "java/lang/constant/Constable"
def TJxfd54e : u_T := fun k => match k with
  | _ => ("", "", "", false)
def tyJxfd54e : Nat → FieldType := fun k => match k with
  | _ => .int
abbrev wsJxfd54e0 : List Cond := u_ws RJxfd54e TJxfd54e 0
theorem nmJxfd54e : ∀ a, a < 0 → ∀ b, b < 0 → a ≠ b → (TJxfd54e a).2.1 ≠ (TJxfd54e b).2.1 := by decide +kernel
theorem tyJxfd54e_ok : ∀ k, k < 0 → parseFieldDescriptor (TJxfd54e k).2.2.1 = some (tyJxfd54e k) := by decide +kernel
def RJx3cf43 : String := "java/lang/constant/ConstantDesc"
def TJx3cf43 : u_T := fun k => match k with
  | _ => ("", "", "", false)
def tyJx3cf43 : Nat → FieldType := fun k => match k with
  | _ => .int
abbrev wsJx3cf430 : List Cond := u_ws RJx3cf43 TJx3cf43 0
theorem nmJx3cf43 : ∀ a, a < 0 → ∀ b, b < 0 → a ≠ b → (TJx3cf43 a).2.1 ≠ (TJx3cf43 b).2.1 := by decide +kernel
theorem tyJx3cf43_ok : ∀ k, k < 0 → parseFieldDescriptor (TJx3cf43 k).2.2.1 = some (tyJx3cf43 k) := by decide +kernel
def RJ7 : String := "java/util/Arrays"
def TJ7 : u_T := fun k => match k with
  | _ => ("", "", "", false)
def tyJ7 : Nat → FieldType := fun k => match k with
  | _ => .int
abbrev wsJ70 : List Cond := u_ws RJ7 TJ7 0
theorem nmJ7 : ∀ a, a < 0 → ∀ b, b < 0 → a ≠ b → (TJ7 a).2.1 ≠ (TJ7 b).2.1 := by decide +kernel
theorem tyJ7_ok : ∀ k, k < 0 → parseFieldDescriptor (TJ7 k).2.2.1 = some (tyJ7 k) := by decide +kernel
abbrev cJ7_rangeCheck_23922 : ByteArray := prog_13_method_30_code
def yJ7_rangeCheck_23922 : MethodName := ⟨RJ7, "rangeCheck", "(III)V"⟩
abbrev cJ7_fill_53178 : ByteArray := prog_13_method_103_code
def yJ7_fill_53178 : MethodName := ⟨RJ7, "fill", "([II)V"⟩
abbrev cJ7_fill_fda19 : ByteArray := prog_13_method_104_code
def yJ7_fill_fda19 : MethodName := ⟨RJ7, "fill", "([IIII)V"⟩
def RJ3 : String := "jdk/internal/util/Preconditions"
def TJ3 : u_T := fun k => match k with
  | _ => ("", "", "", false)
def tyJ3 : Nat → FieldType := fun k => match k with
  | _ => .int
abbrev wsJ30 : List Cond := u_ws RJ3 TJ3 0
theorem nmJ3 : ∀ a, a < 0 → ∀ b, b < 0 → a ≠ b → (TJ3 a).2.1 ≠ (TJ3 b).2.1 := by decide +kernel
theorem tyJ3_ok : ∀ k, k < 0 → parseFieldDescriptor (TJ3 k).2.2.1 = some (tyJ3 k) := by decide +kernel
abbrev cJ3_checkFromToIndex_8c36e : ByteArray := prog_14_method_12_code
def yJ3_checkFromToIndex_8c36e : MethodName := ⟨RJ3, "checkFromToIndex", "(IIILjava/util/function/BiFunction;)I"⟩
def RL : String := "NineLandsLaw"
abbrev cL_law : ByteArray := code
def yL_law : MethodName := ⟨RL, "law", "([I)Z"⟩
end
section
/-! THE WORLD OF THIS PROGRAM: 109 cells at addresses ad 0 .. ad 108; its state one function: S 0 the numbers in objects, S a (1 .. 97) the int array a. -/
abbrev vS : Type := Nat → Nat → Int32
def upk (S : vS) (k : Nat) (g : Nat → Int32) : vS := fun j => if j = k then g else S j
theorem upk_eq (S : vS) (k : Nat) (g : Nat → Int32) : upk S k g k = g := if_pos rfl
theorem upk_ne (S : vS) {k j : Nat} (g : Nat → Int32) (h : j ≠ k) : upk S k g j = S j := if_neg h
def alen (a : Nat) : Nat := if a < 34 then ([0, 7, 16, 21, 21, 21, 21, 21, 21, 21, 54, 6, 36, 9, 5400, 6, 6, 6, 6, 6, 6, 300, 16, 6, 6, 6, 6, 6, 6, 6, 6, 6, 6, 7] : List Nat).getD a 0 else if a < 54 then 7 else if a < 60 then 9 else if a < 66 then 6 else if a < 86 then 7 else if a < 92 then 9 else 6
def ar (ad : Nat → Nat) (a : Nat) : Nat := ad (11 + a)
def cel (cI cO : ClassId) (ad : Nat → Nat) (S : vS) (k : Nat) : va_E := match k with
  | 0 => .inr (3, [.ref (ad 1), .ref (ad 2), .ref (ad 3), .ref (ad 4), .ref (ar ad 32), .ref (ar ad 33), .int (S 0 17), .int (S 0 18)])
  | 1 => .inr (2, [.ref (ar ad 22), .int (S 0 10), .int (S 0 11)])
  | 2 => .inr (0, [.ref (ad 6), .ref (ad 7), .ref (ar ad 23), .ref (ad 8), .int (S 0 12)])
  | 3 => .inr (0, [.ref (ad 9), .ref (ad 10), .ref (ar ad 24), .ref (ad 11), .int (S 0 13)])
  | 4 => .inr (1, [.ref (ar ad 25), .ref (ar ad 26), .ref (ar ad 27), .ref (ar ad 28), .ref (ar ad 29), .ref (ar ad 30), .ref (ar ad 31), .int (S 0 14), .int (S 0 15), .int (S 0 16)])
  | 5 => .inr (4, [.ref (ar ad 1), .ref (ar ad 2), .ref (ar ad 3), .ref (ar ad 4), .ref (ar ad 5), .ref (ar ad 6), .ref (ar ad 7), .ref (ar ad 8), .ref (ar ad 9), .ref (ar ad 10), .ref (ar ad 11), .ref (ar ad 12), .ref (ar ad 13), .int (S 0 0), .int (S 0 1), .int (S 0 2), .int (S 0 3), .ref (ar ad 14), .ref (ar ad 15), .ref (ar ad 16), .ref (ar ad 17), .ref (ar ad 18), .ref (ar ad 19), .int (S 0 4), .ref (ar ad 20), .int (S 0 5), .ref (ar ad 21), .int (S 0 6), .int (S 0 7), .int (S 0 8)])
  | 6 => .inl (cO, 20, .inr (.inr (.inr (.inr (fun i => some (ar ad (34 + i)))))))
  | 7 => .inl (cO, 6, .inr (.inr (.inr (.inr (fun i => some (ar ad (54 + i)))))))
  | 8 => .inl (cO, 6, .inr (.inr (.inr (.inr (fun i => some (ar ad (60 + i)))))))
  | 9 => .inl (cO, 20, .inr (.inr (.inr (.inr (fun i => some (ar ad (66 + i)))))))
  | 10 => .inl (cO, 6, .inr (.inr (.inr (.inr (fun i => some (ar ad (86 + i)))))))
  | 11 => .inl (cO, 6, .inr (.inr (.inr (.inr (fun i => some (ar ad (92 + i)))))))
  | n + 12 => .inl (cI, alen (n + 1), .inl (S (n + 1)))
def wd (cI cO : ClassId) (ad : Nat → Nat) (S : vS) : va_W := (List.range 109).map (fun k => (ad k, cel cI cO ad S k))
theorem wd_get {cI cO : ClassId} {ad : Nat → Nat} {S : vS} {k : Nat} (h : k < 109) : (wd cI cO ad S)[k]? = some (ad k, cel cI cO ad S k) := by
  simp [wd, h]
theorem wd_get_inv {cI cO : ClassId} {ad : Nat → Nat} {S : vS} {k : Nat} {q : Nat × va_E} (h : (wd cI cO ad S)[k]? = some q) : k < 109 ∧ q = (ad k, cel cI cO ad S k) := by
  have hk : k < 109 := by
    have := (List.getElem?_eq_some_iff.mp h).1
    simpa [wd] using this
  rw [wd_get hk] at h
  exact ⟨hk, (Option.some.inj h).symm⟩
theorem cel_arr {cI cO : ClassId} {ad : Nat → Nat} {S : vS} {a : Nat} (h : 1 ≤ a) : cel cI cO ad S (11 + a) = .inl (cI, alen a, .inl (S a)) := by
  obtain ⟨b, rfl⟩ : ∃ b, a = b + 1 := ⟨a - 1, by omega⟩
  have e : 11 + (b + 1) = b + 12 := by omega
  rw [e]
  rfl
theorem wd_arr {cI cO : ClassId} {ad : Nat → Nat} {S : vS} {a : Nat} (h : 1 ≤ a ∧ a ≤ 97) : (wd cI cO ad S)[11 + a]? = some (ar ad a, .inl (cI, alen a, .inl (S a))) := by
  rw [wd_get (by omega), cel_arr h.1]
  rfl
theorem wd_set {cI cO : ClassId} {ad : Nat → Nat} {S S' : vS} {k : Nat} {e : va_E} (hk : k < 109) (h1 : cel cI cO ad S' k = e) (h2 : ∀ j, j ≠ k → cel cI cO ad S' j = cel cI cO ad S j) : (wd cI cO ad S).set k (ad k, e) = wd cI cO ad S' := by
  apply List.ext_getElem?
  intro i
  rw [List.getElem?_set]
  by_cases hi : k = i
  · subst hi
    have : k < (wd cI cO ad S).length := by simpa [wd] using hk
    rw [if_pos rfl, if_pos this, wd_get hk, h1]
  · rw [if_neg hi]
    by_cases h9 : i < 109
    · rw [wd_get h9, wd_get h9, h2 i (fun q => hi q.symm)]
    · have e1 : (wd cI cO ad S)[i]? = none := by simp [wd]; omega
      have e2 : (wd cI cO ad S')[i]? = none := by simp [wd]; omega
      rw [e1, e2]
theorem wd_seta {cI cO : ClassId} {ad : Nat → Nat} {S : vS} {a : Nat} (h : 1 ≤ a ∧ a ≤ 97) (g : Nat → Int32) : (wd cI cO ad S).set (11 + a) (ar ad a, .inl (cI, alen a, .inl g)) = wd cI cO ad (upk S a g) := by
  refine wd_set (by omega) (by rw [cel_arr h.1, upk_eq]) ?_
  intro j hj
  have h0 : upk S a g 0 = S 0 := upk_ne S g (by omega)
  unfold cel
  split <;> first
    | rfl
    | (simp only [h0]; done)
    | (rw [upk_ne S g (by omega)])
abbrev clsL : List vw_C := [(RX0, TX0, 5), (RX1, TX1, 10), (RX2, TX2, 3), (RX3, TX3, 8), (RX4, TX4, 30)]
abbrev tysL (cI cO : ClassId) : List (ClassId × FieldType) := [(cI, .int), (cO, .array .int)]
def AA (ad : Nat → Nat) (sz : Nat) : Nat → Prop := fun q => (∃ k, k < 109 ∧ q = ad k) ∨ sz ≤ q
theorem wd_D {cI cO : ClassId} {ad : Nat → Nat} {S S' : vS} {A B : Nat → Prop} (h : va_D A (wd cI cO ad S)) (hB : ∀ k, k < 109 → B (ad k)) : va_D B (wd cI cO ad S') := by
  refine ⟨fun i j p q hp hq e => ?_, fun k q hk => ?_⟩
  · obtain ⟨hi, rfl⟩ := wd_get_inv hp
    obtain ⟨hj, rfl⟩ := wd_get_inv hq
    exact h.1 i j _ _ (wd_get hi) (wd_get hj) e
  · obtain ⟨hi, rfl⟩ := wd_get_inv hk
    exact hB k hi
/-- words: those that hold in every state behind a call; the nest's words apart -/
def tW : List Cond := lw_tbl.filter (fun w => goodWord w)
def isNest : Cond → Bool
  | .fieldLinkNest _ _ _ _ _ _ => true
  | .methodLinkNest _ _ _ _ => true
  | _ => false
def nW : List Cond := lw_tbl.filter (fun w => isNest w)
theorem gT (c0 : Cond) : GoodIn (c0 :: tW) tW := fun w hw => ⟨List.mem_cons_of_mem _ hw, good_of_word (List.mem_filter.mp hw).2⟩
theorem gTc {c0 c1 : Cond} (h : c1 ∈ tW) : GoodIn (c0 :: tW) (c1 :: tW) := fun w hw => by
  rcases List.mem_cons.mp hw with e | e
  · subst e
    exact gT c0 w h
  · exact gT c0 w e
def nOk (U : State) : Prop := ∀ w ∈ nW, va_Nw w U
theorem nOk.same {u U : State} (h : u.vm = U.vm) (hn : nOk u) : nOk U := fun w hw => by
  have h2 := (List.mem_filter.mp hw).2
  have h3 := hn w hw
  cases w <;> first | (cases h2; done) | exact va_Nw.same rfl h h3
theorem nOk.warm {s U : State} (hW : s.WarmedH U.vm) (hn : nOk s) : nOk U := fun w hw => by
  have h2 := (List.mem_filter.mp hw).2
  have h3 := hn w hw
  cases w <;> first | (cases h2; done) | exact va_Nw.warmF hW h3 | exact va_Nw.warmM hW h3
/-- a method's start and end -/
def PB (D : va_G) (cI cO : ClassId) (ad : Nat → Nat) (sz : Nat) (S : vS) (U : State) : Prop := U.heap.size = sz ∧ va_P D clsL (wd cI cO ad S) U.heap ∧ va_K D clsL (tysL cI cO) U ∧ va_D (fun _ => True) (wd cI cO ad S) ∧ nOk U
def CI (l : Launch) (y : MethodName) (b : ByteArray) (nL : Nat) (ret : FieldType) (rm : Room) (as : List Value) (D : va_G) (cI cO : ClassId) (ad : Nat → Nat) (S : vS) (r : Int32) (S' : vS) : Prop := ∀ sz : Nat, Met l y (.code y b nL (some ret) :: tW) rm (va_Pc as (PB D cI cO ad sz S)) (va_Qi (fun r1 (u : vS) => r1 = r ∧ u = S') (fun u t => va_P D clsL (wd cI cO ad u) t.heap) (AA ad sz)) 0 0 (AA ad sz)
def CV (l : Launch) (y : MethodName) (b : ByteArray) (nL : Nat) (rm : Room) (as : List Value) (D : va_G) (cI cO : ClassId) (ad : Nat → Nat) (S : vS) (S' : vS) : Prop := ∀ sz : Nat, Met l y (.code y b nL none :: tW) rm (va_Pc as (PB D cI cO ad sz S)) (va_Qv (fun (u : vS) => u = S') (fun u t => va_P D clsL (wd cI cO ad u) t.heap) (AA ad sz)) 0 0 (AA ad sz)
/-- inside a method: the world now -/
def WD (D : va_G) (cI cO : ClassId) (ad : Nat → Nat) (s : State) (S : vS) (H : Heap) (locs : List Loc) : Prop := va_K D clsL (tysL cI cO) s ∧ va_P D clsL (wd cI cO ad S) H ∧ va_D (AA ad s.heap.size) (wd cI cO ad S) ∧ va_S (AA ad s.heap.size) s.heap H locs ∧ nOk s
theorem AA.in {ad : Nat → Nat} {sz k : Nat} (h : k < 109) : AA ad sz (ad k) := Or.inl ⟨k, h, rfl⟩
theorem CI.of {l : Launch} {y : MethodName} {b : ByteArray} {nL : Nat} {ret : FieldType} {rm : Room} {as : List Value} {D : va_G} {cI cO : ClassId} {ad : Nat → Nat} {S : vS} {r : Int32} {S' : vS} (hy : plainName y.cls = true) (hn : (lg_sl as).length ≤ nL)
    (body : ∀ (p : Program) (e : Env) (s : State) (m : MethodId) (args : Array Value) (below : List Frame) (meth : Method) (c : Code) (Q : State → Prop) (ls : Array Slot), CallFix p m c b nL s args (.code y b nL (some ret) :: tW) y.cls → lv_has ls nL (lv_args 0 as) → WD D cI cO ad s S s.heap [] →
      (∀ (H : Heap) (locs : List Loc) (v : Int32) (S1 : vS) (pc : Nat) (ls : Array Slot), WD D cI cO ad s S1 H locs → v = r → S1 = S' → narrow ret (.int v) = .int v → decode b pc = .ok (.ireturn, 1) → W p l e rm s m args below meth c H locs 0 0 Q (F0 m pc ls [.int v])) →
      W p l e rm s m args below meth c s.heap [] 0 0 Q (F0 m 0 ls [])) : CI l y b nL ret rm as D cI cO ad S r S' := by
  intro sz
  refine Met.ofW (cc := b) (maxL := nL) (ret := some ret) hy rfl ?_
  intro p e s m args below meth c s₁ B hml hv
  obtain ⟨rfl, hsz, hP, hK, hD0, hnO⟩ := hv
  subst hsz
  have hts := atoms_spec (ws := .code y b nL (some ret) :: tW) B.pre
  have hown : s.vm.findClass y.cls = some m.cls := findClass_of_methodNamed B.named
  have hlocks := B.notSynchronized
  have hl := lv_entry as (n := nL) hn
  rw [lg_entry_eq]
  generalize (lg_sl as ++ List.replicate (nL - (lg_sl as).length) Slot.unset).toArray = ls at hl ⊢
  refine body p e s m _ below meth c _ ls ⟨B.exec, B.bytes, hml, hown, hts⟩ hl ⟨hK, hP, wd_D hD0 (fun k hk => AA.in hk), va_S.rf, hnO⟩ ?_
  intro H locs v S1 pc ls hw e1 e2 hnar hdg
  subst e1; subst e2
  exact W.zret B.exec B.bytes B.returns hnar (fun t ht hW => ⟨⟨v, S1, rfl, ⟨rfl, rfl⟩, by show va_P _ _ _ t.heap; rw [ht]; exact hw.2.1⟩, hw.2.2.2.1.F ht⟩) hw.2.2.2.1.2.2 hdg
theorem CV.of {l : Launch} {y : MethodName} {b : ByteArray} {nL : Nat} {rm : Room} {as : List Value} {D : va_G} {cI cO : ClassId} {ad : Nat → Nat} {S : vS} {r : Int32} {S' : vS} (hy : plainName y.cls = true) (hn : (lg_sl as).length ≤ nL)
    (body : ∀ (p : Program) (e : Env) (s : State) (m : MethodId) (args : Array Value) (below : List Frame) (meth : Method) (c : Code) (Q : State → Prop) (ls : Array Slot), CallFix p m c b nL s args (.code y b nL none :: tW) y.cls → lv_has ls nL (lv_args 0 as) → WD D cI cO ad s S s.heap [] →
      (∀ (H : Heap) (locs : List Loc) (v : Int32) (S1 : vS) (pc : Nat) (ls : Array Slot), WD D cI cO ad s S1 H locs → v = r → S1 = S' → decode b pc = .ok (.return_, 1) → W p l e rm s m args below meth c H locs 0 0 Q (F0 m pc ls [])) →
      W p l e rm s m args below meth c s.heap [] 0 0 Q (F0 m 0 ls [])) : CV l y b nL rm as D cI cO ad S S' := by
  intro sz
  refine Met.ofW (cc := b) (maxL := nL) (ret := none) hy rfl ?_
  intro p e s m args below meth c s₁ B hml hv
  obtain ⟨rfl, hsz, hP, hK, hD0, hnO⟩ := hv
  subst hsz
  have hts := atoms_spec (ws := .code y b nL none :: tW) B.pre
  have hown : s.vm.findClass y.cls = some m.cls := findClass_of_methodNamed B.named
  have hlocks := B.notSynchronized
  have hl := lv_entry as (n := nL) hn
  rw [lg_entry_eq]
  generalize (lg_sl as ++ List.replicate (nL - (lg_sl as).length) Slot.unset).toArray = ls at hl ⊢
  refine body p e s m _ below meth c _ ls ⟨B.exec, B.bytes, hml, hown, hts⟩ hl ⟨hK, hP, wd_D hD0 (fun k hk => AA.in hk), va_S.rf, hnO⟩ ?_
  intro H locs v S1 pc ls hw e1 e2 hdg
  subst e2
  exact W.vret B.exec B.bytes B.returns (fun t ht hW => ⟨⟨S1, rfl, rfl, by show va_P _ _ _ t.heap; rw [ht]; exact hw.2.1⟩, hw.2.2.2.1.F ht⟩) hw.2.2.2.1.2.2 hdg
/-- pure helpers: a program's pure picture is an Option; none where a check fails or fuel ends -/
def lt {α β : Type} (x : α) (f : α → β) : β := f x
theorem lt_e {α β : Type} {x y : α} {f : α → β} {r : β} (e : y = x) (h : lt x f = r) : f y = r := by rw [e]; exact h
theorem if_t {α : Type} {c : Prop} [Decidable c] {a b r : α} (h : c) (e : (if c then a else b) = r) : a = r := by rw [if_pos h] at e; exact e
theorem if_f {α : Type} {c : Prop} [Decidable c] {a b r : α} (h : ¬ c) (e : (if c then a else b) = r) : b = r := by rw [if_neg h] at e; exact e
theorem if_s {α : Type} {c : Prop} [Decidable c] {a : Option α} {r : α} (e : (if c then a else none) = some r) : c ∧ a = some r := by
  by_cases h : c
  · rw [if_pos h] at e; exact ⟨h, e⟩
  · rw [if_neg h] at e; cases e
def b1 {α γ : Type} (o : Option α) (k : α → Option γ) : Option γ := match o with | some a => k a | none => none
def b2 {α β γ : Type} (o : Option (α × β)) (k : α → β → Option γ) : Option γ := match o with | some (a, b) => k a b | none => none
def b3 {α1 α2 α3 γ : Type} (o : Option (α1 × α2 × α3)) (k : α1 → α2 → α3 → Option γ) : Option γ := match o with | some (a, b, c) => k a b c | none => none
def b4 {α1 α2 α3 α4 γ : Type} (o : Option (α1 × α2 × α3 × α4)) (k : α1 → α2 → α3 → α4 → Option γ) : Option γ := match o with | some (a, b, c, d) => k a b c d | none => none
def b5 {α1 α2 α3 α4 α5 γ : Type} (o : Option (α1 × α2 × α3 × α4 × α5)) (k : α1 → α2 → α3 → α4 → α5 → Option γ) : Option γ := match o with | some (a, b, c, d, e) => k a b c d e | none => none
def b6 {α1 α2 α3 α4 α5 α6 γ : Type} (o : Option (α1 × α2 × α3 × α4 × α5 × α6)) (k : α1 → α2 → α3 → α4 → α5 → α6 → Option γ) : Option γ := match o with | some (a, b, c, d, e, f) => k a b c d e f | none => none
def b7 {α1 α2 α3 α4 α5 α6 α7 γ : Type} (o : Option (α1 × α2 × α3 × α4 × α5 × α6 × α7)) (k : α1 → α2 → α3 → α4 → α5 → α6 → α7 → Option γ) : Option γ := match o with | some (a, b, c, d, e, f, g) => k a b c d e f g | none => none
theorem b1_s {α γ : Type} {o : Option α} {k : α → Option γ} {r : γ} (h : b1 o k = some r) : ∃ a, o = some a ∧ k a = some r := by
  cases o with | none => cases h | some q => exact ⟨q, rfl, h⟩
theorem b2_s {α β γ : Type} {o : Option (α × β)} {k : α → β → Option γ} {r : γ} (h : b2 o k = some r) : ∃ a b, o = some (a, b) ∧ k a b = some r := by
  cases o with | none => cases h | some q => exact ⟨q.1, q.2, rfl, h⟩
theorem b3_s {α1 α2 α3 γ : Type} {o : Option (α1 × α2 × α3)} {k : α1 → α2 → α3 → Option γ} {r : γ} (h : b3 o k = some r) : ∃ a b c, o = some (a, b, c) ∧ k a b c = some r := by
  cases o with | none => cases h | some q => exact ⟨q.1, q.2.1, q.2.2, rfl, h⟩
theorem b4_s {α1 α2 α3 α4 γ : Type} {o : Option (α1 × α2 × α3 × α4)} {k : α1 → α2 → α3 → α4 → Option γ} {r : γ} (h : b4 o k = some r) : ∃ a b c d, o = some (a, b, c, d) ∧ k a b c d = some r := by
  cases o with | none => cases h | some q => exact ⟨q.1, q.2.1, q.2.2.1, q.2.2.2, rfl, h⟩
theorem b5_s {α1 α2 α3 α4 α5 γ : Type} {o : Option (α1 × α2 × α3 × α4 × α5)} {k : α1 → α2 → α3 → α4 → α5 → Option γ} {r : γ} (h : b5 o k = some r) : ∃ a b c d e, o = some (a, b, c, d, e) ∧ k a b c d e = some r := by
  cases o with | none => cases h | some q => exact ⟨q.1, q.2.1, q.2.2.1, q.2.2.2.1, q.2.2.2.2, rfl, h⟩
theorem b6_s {α1 α2 α3 α4 α5 α6 γ : Type} {o : Option (α1 × α2 × α3 × α4 × α5 × α6)} {k : α1 → α2 → α3 → α4 → α5 → α6 → Option γ} {r : γ} (h : b6 o k = some r) : ∃ a b c d e f, o = some (a, b, c, d, e, f) ∧ k a b c d e f = some r := by
  cases o with | none => cases h | some q => exact ⟨q.1, q.2.1, q.2.2.1, q.2.2.2.1, q.2.2.2.2.1, q.2.2.2.2.2, rfl, h⟩
theorem b7_s {α1 α2 α3 α4 α5 α6 α7 γ : Type} {o : Option (α1 × α2 × α3 × α4 × α5 × α6 × α7)} {k : α1 → α2 → α3 → α4 → α5 → α6 → α7 → Option γ} {r : γ} (h : b7 o k = some r) : ∃ a b c d e f g, o = some (a, b, c, d, e, f, g) ∧ k a b c d e f g = some r := by
  cases o with | none => cases h | some q => exact ⟨q.1, q.2.1, q.2.2.1, q.2.2.2.1, q.2.2.2.2.1, q.2.2.2.2.2.1, q.2.2.2.2.2.2, rfl, h⟩
/-- a loop that may also return: the return, or what goes on behind it -/
def bS {α β γ : Type} (o : Option (α ⊕ β)) (ret : β → Option γ) (k : α → Option γ) : Option γ := match o with | some (.inl a) => k a | some (.inr b) => ret b | none => none
theorem bS_s {α β γ : Type} {o : Option (α ⊕ β)} {ret : β → Option γ} {k : α → Option γ} {r : γ} (h : bS o ret k = some r) : (∃ a, o = some (.inl a) ∧ k a = some r) ∨ ∃ b, o = some (.inr b) ∧ ret b = some r := by
  cases o with
  | none => cases h
  | some q => cases q with
    | inl a => exact Or.inl ⟨a, rfl, h⟩
    | inr b => exact Or.inr ⟨b, rfl, h⟩
def mx (x y : Int32) : Int32 := if x < y then y else x
def mn (x y : Int32) : Int32 := if y < x then y else x
theorem bo_n {v : Int32} (h : v = 0 ∨ v = 1) : narrow .boolean (.int v) = .int v := by rcases h with rfl | rfl <;> rfl
theorem bo_f {v : Int32} (h : v = 0 ∨ v = 1) : fits .boolean (.int v) = true := by rcases h with rfl | rfl <;> rfl
/-- an index in its row, as a test -/
def inb (i : Int32) (n : Nat) : Bool := !(decide (i < 0)) && decide (i.toNatClampNeg < n)
theorem inb_in {i : Int32} {n : Nat} (h : inb i n = true) : vp_in i n := by
  simp only [inb, Bool.and_eq_true, Bool.not_eq_true', decide_eq_false_iff_not, decide_eq_true_eq] at h
  exact fun q => q.elim h.1 (fun q => absurd h.2 (Nat.not_lt.mpr q))
theorem inb_lt {i : Int32} {n : Nat} (h : inb i n = true) : i.toNatClampNeg < n := by
  simp only [inb, Bool.and_eq_true, decide_eq_true_eq] at h
  exact h.2
theorem bS_x {α β γ : Type} {o : Option (α ⊕ β)} {ret : β → Option γ} {k : α → Option γ} {r : γ} (h : bS o ret k = some r) : ∃ q, o = some q ∧ (∀ a, q = .inl a → k a = some r) ∧ ∀ b, q = .inr b → ret b = some r := by
  cases o with
  | none => cases h
  | some q => cases q with
    | inl a => exact ⟨_, rfl, fun a2 e => (by cases e; exact h), fun b e => (by cases e)⟩
    | inr b => exact ⟨_, rfl, fun a e => (by cases e), fun b2 e => (by cases e; exact h)⟩
def FU : Nat := 6000
theorem alen_34 {j : Nat} (h : j < 20) : alen (34 + j) = 7 := by simp only [alen]; rw [if_neg (by omega), if_pos (by omega)]
theorem alen_54 {j : Nat} (h : j < 6) : alen (54 + j) = 9 := by simp only [alen]; rw [if_neg (by omega), if_neg (by omega), if_pos (by omega)]
theorem alen_60 {j : Nat} (h : j < 6) : alen (60 + j) = 6 := by simp only [alen]; rw [if_neg (by omega), if_neg (by omega), if_neg (by omega), if_pos (by omega)]
theorem alen_66 {j : Nat} (h : j < 20) : alen (66 + j) = 7 := by simp only [alen]; rw [if_neg (by omega), if_neg (by omega), if_neg (by omega), if_neg (by omega), if_pos (by omega)]
theorem alen_86 {j : Nat} (h : j < 6) : alen (86 + j) = 9 := by simp only [alen]; rw [if_neg (by omega), if_neg (by omega), if_neg (by omega), if_neg (by omega), if_neg (by omega), if_pos (by omega)]
theorem alen_92 {j : Nat} (h : j < 6) : alen (92 + j) = 6 := by simp only [alen]; rw [if_neg (by omega), if_neg (by omega), if_neg (by omega), if_neg (by omega), if_neg (by omega), if_neg (by omega)]
theorem pfI : parseFieldDescriptor "I" = some .int := by decide +kernel
theorem pfZ : parseFieldDescriptor "Z" = some .boolean := by decide +kernel
end
section
section XR
variable {p : Program} {l : Launch} {e : Env} {R : Room} {s : State} {m : MethodId} {args : Array Value} {below : List Frame} {meth : Method} {c : Code} {H : Heap} {locs : List Loc} {Q : State → Prop} {cc : ByteArray} {pc nL : Nat} {ls : Array Slot} {rest : List Value} {D : va_G} {cI cO : ClassId} {ad : Nat → Nat} {S : vS} {own : String} {c0 : Cond}
theorem hA_of {s : State} {H : Heap} {locs : List Loc} {ad : Nat → Nat} (hS : va_S (AA ad s.heap.size) s.heap H locs) : ∀ q, q < H.size → AA ad H.size q → AA ad s.heap.size q := fun q hq h => by
  rcases h with h | h
  · exact Or.inl h
  · exact absurd hq (Nat.not_lt.mpr h)
theorem hA_of2 {s : State} {H : Heap} {locs : List Loc} {ad : Nat → Nat} (hS : va_S (AA ad s.heap.size) s.heap H locs) : ∀ q, AA ad H.size q → AA ad s.heap.size q := fun q h => by
  rcases h with h | h
  · exact Or.inl h
  · exact Or.inr (Nat.le_trans hS.1 h)
theorem x_iald (X : CallFix p m c cc nL s args (c0 :: tW) own) (hw : WD D cI cO ad s S H locs) (a : Nat) (ha : 1 ≤ a ∧ a ≤ 97) {n : Nat} (hn : alen a = n) {i : Int32} (hin : inb i n = true) (j : Nat) (hj : i.toNatClampNeg = j) (hdg : decode cc pc = .ok (.iaload, 1))
    (kk : W p l e R s m args below meth c H locs 0 0 Q (F0 m (pc + 1) ls (.int (S a j) :: rest))) : W p l e R s m args below meth c H locs 0 0 Q (F0 m pc ls (.int i :: .ref (ar ad a) :: rest)) :=
  va_iald X.1 X.2.1 hw.1 hw.2.1 (11 + a) 0 (wd_arr ha) rfl (by rw [hn]; exact inb_in hin) hdg (by rw [hj]; exact kk)
theorem x_iast (X : CallFix p m c cc nL s args (c0 :: tW) own) (hw : WD D cI cO ad s S H locs) (a : Nat) (ha : 1 ≤ a ∧ a ≤ 97) {n : Nat} (hn : alen a = n) {i x : Int32} (hin : inb i n = true) (j : Nat) (hj : i.toNatClampNeg = j) (hdg : decode cc pc = .ok (.iastore, 1))
    (kk : ∀ S1 : vS, S1 = upk S a (upd (S a) j x) → ∀ (H1 : Heap) (locs1 : List Loc), WD D cI cO ad s S1 H1 locs1 → W p l e R s m args below meth c H1 locs1 0 0 Q (F0 m (pc + 1) ls rest)) : W p l e R s m args below meth c H locs 0 0 Q (F0 m pc ls (.int x :: .int i :: .ref (ar ad a) :: rest)) := by
  refine va_iast X.1 X.2.1 hw.1 hw.2.1 hw.2.2.1 hw.2.2.2.1 (11 + a) 0 (wd_arr ha) rfl (by rw [hn]; exact inb_in hin) hdg (fun H1 locs1 hP hD hS => ?_)
  rw [wd_seta ha, hj] at hP hD
  exact kk _ rfl H1 locs1 ⟨hw.1, hP, hD, hS, hw.2.2.2.2⟩
theorem x_alen (X : CallFix p m c cc nL s args (c0 :: tW) own) (hw : WD D cI cO ad s S H locs) (a : Nat) (ha : 1 ≤ a ∧ a ≤ 97) {v : Int32} (hv : Int32.ofNat (alen a) = v) (hdg : decode cc pc = .ok (.arraylength, 1))
    (kk : W p l e R s m args below meth c H locs 0 0 Q (F0 m (pc + 1) ls (.int v :: rest))) : W p l e R s m args below meth c H locs 0 0 Q (F0 m pc ls (.ref (ar ad a) :: rest)) :=
  va_alen X.1 X.2.1 hw.1 hw.2.1 (11 + a) 0 (wd_arr ha) rfl hv hdg kk
theorem x_aald (X : CallFix p m c cc nL s args (c0 :: tW) own) (hw : WD D cI cO ad s S H locs) (o : Nat) (ho : o < 109) {n : Nat} {f : Nat → Option Nat} (hc : cel cI cO ad S o = .inl (cO, n, .inr (.inr (.inr (.inr f))))) {i : Int32} (hin : inb i n = true) {v : Nat} (hv : f i.toNatClampNeg = some v) (hdg : decode cc pc = .ok (.aaload, 1))
    (kk : W p l e R s m args below meth c H locs 0 0 Q (F0 m (pc + 1) ls (.ref v :: rest))) : W p l e R s m args below meth c H locs 0 0 Q (F0 m pc ls (.int i :: .ref (ad o) :: rest)) := by
  have hlt : i.toNatClampNeg < n := inb_lt hin
  have hin := inb_in hin
  have ha : (wd cI cO ad S)[o]? = some (ad o, .inl (cO, n, .inr (.inr (.inr (.inr f))))) := by rw [wd_get ho, hc]
  exact W.aald (v := .ref v) (ty := .array .int) X.1 X.2.1 (hw.2.1 o _ ha) ((hw.1.2 1 (cO, .array .int) rfl).1 n (fun j => va_rf (f j))) rfl (fun q => by cases q) (by show ¬ (i < 0 ∨ (arrV _ _ _).slots.size ≤ _); rw [arrV_size]; exact hin) (by show (arrV _ _ _).slots[_]? = _; rw [arrV_read _ _ hlt, hv]; rfl) rfl rfl hdg kk
theorem x_get (X : CallFix p m c cc nL s args (c0 :: tW) own) (hw : WD D cI cO ad s S H locs) (o : Nat) (ho : o < 109) {ci : Nat} {fs : List Value} (hce : cel cI cO ad S o = .inr (ci, fs)) {C : String} {T : u_T} {N : Nat} (hc : clsL[ci]? = some (C, T, N)) (hin : ∀ w ∈ u_ws C T N, w ∈ tW) (k : Nat) (hk : k < N) {index : Nat} {nm ds : String} (hl : Cond.fieldLink own index C nm ds ∈ tW) (hT : (T k).1 = C ∧ (T k).2.1 = nm ∧ (T k).2.2.1 = ds) {v : Value} (hv : fs[k]? = some v) (hdg : decode cc pc = .ok (.getfield index, 3))
    (kk : W p l e R s m args below meth c H locs 0 0 Q (F0 m (pc + 3) ls (v :: rest))) : W p l e R s m args below meth c H locs 0 0 Q (F0 m pc ls (.ref (ad o) :: rest)) := by
  obtain ⟨h1, h2, h3⟩ := hT
  exact va_get (Ts := c0 :: tW) X.1 X.2.1 X.2.2.2.2 (fun w h => List.mem_cons_of_mem _ (hin w h)) X.2.2.2.1 hw.1 hw.2.1 o (by rw [wd_get ho, hce]) hc k hk (by rw [h2, h3]; exact X.2.2.2.2 _ (List.mem_cons_of_mem _ hl)) (fun x h9 => by rw [h1] at h9; exact h9) hv hdg kk
theorem x_getN (X : CallFix p m c cc nL s args (c0 :: tW) own) (hw : WD D cI cO ad s S H locs) (o : Nat) (ho : o < 109) {ci : Nat} {fs : List Value} (hce : cel cI cO ad S o = .inr (ci, fs)) {C : String} {T : u_T} {N : Nat} (hc : clsL[ci]? = some (C, T, N)) (hin : ∀ w ∈ u_ws C T N, w ∈ tW) (k : Nat) (hk : k < N) {index : Nat} {nm ds host : String} (hl : Cond.fieldLinkNest own index C nm ds host ∈ nW) (hT : (T k).1 = C ∧ (T k).2.1 = nm ∧ (T k).2.2.1 = ds) {v : Value} (hv : fs[k]? = some v) (hdg : decode cc pc = .ok (.getfield index, 3))
    (kk : W p l e R s m args below meth c H locs 0 0 Q (F0 m (pc + 3) ls (v :: rest))) : W p l e R s m args below meth c H locs 0 0 Q (F0 m pc ls (.ref (ad o) :: rest)) := by
  obtain ⟨h1, h2, h3⟩ := hT
  exact va_getN (Ts := c0 :: tW) (host := host) X.1 X.2.1 X.2.2.2.2 (fun w h => List.mem_cons_of_mem _ (hin w h)) X.2.2.2.1 hw.1 hw.2.1 o (by rw [wd_get ho, hce]) hc k hk (by rw [h2, h3]; exact va_Nw.use rfl (hw.2.2.2.2 _ hl)) (fun x h9 => by rw [h1] at h9; exact h9) hv hdg kk
theorem x_put (X : CallFix p m c cc nL s args (c0 :: tW) own) (hw : WD D cI cO ad s S H locs) (o : Nat) (ho : o < 109) {ci : Nat} {fs : List Value} (hce : cel cI cO ad S o = .inr (ci, fs)) {C : String} {T : u_T} {N : Nat} (hc : clsL[ci]? = some (C, T, N)) (hin : ∀ w ∈ u_ws C T N, w ∈ tW) {ty0 : Nat → FieldType} (hty : ∀ k, k < N → parseFieldDescriptor (T k).2.2.1 = some (ty0 k)) (hnm : ∀ a, a < N → ∀ b, b < N → a ≠ b → (T a).2.1 ≠ (T b).2.1) (k : Nat) (hk : k < N) {index : Nat} {nm ds : String} (hl : Cond.fieldLink own index C nm ds ∈ tW) (hT : (T k).1 = C ∧ (T k).2.1 = nm ∧ (T k).2.2.1 = ds) (hfin : (T k).2.2.2 = false) {ty : FieldType} {x : Int32} (hd : parseFieldDescriptor ds = some ty) (hn : narrow ty (.int x) = .int x) (hfit : fits ty (.int x) = true) (hlen : k < fs.length) (j : Nat) (hset : (wd cI cO ad S).set o (ad o, .inr (ci, fs.set k (.int x))) = wd cI cO ad (upk S 0 (upd (S 0) j x))) (hdg : decode cc pc = .ok (.putfield index, 3))
    (kk : ∀ S1 : vS, S1 = upk S 0 (upd (S 0) j x) → ∀ (H1 : Heap) (locs1 : List Loc), WD D cI cO ad s S1 H1 locs1 → W p l e R s m args below meth c H1 locs1 0 0 Q (F0 m (pc + 3) ls rest)) : W p l e R s m args below meth c H locs 0 0 Q (F0 m pc ls (.int x :: .ref (ad o) :: rest)) := by
  obtain ⟨h1, h2, h3⟩ := hT
  refine va_put (Ts := c0 :: tW) (ty := ty) X.1 X.2.1 X.2.2.2.2 (fun w h => List.mem_cons_of_mem _ (hin w h)) ty0 hty hnm X.2.2.2.1 hw.1 hw.2.1 hw.2.2.1 hw.2.2.2.1 o (by rw [wd_get ho, hce]) hc k hk (by rw [h2, h3]; exact X.2.2.2.2 _ (List.mem_cons_of_mem _ hl)) (fun x h9 => by rw [h1] at h9; exact h9) hfin (by rw [h3]; exact hd) hn hfit hlen hdg (fun H1 locs1 hP hD hS => ?_)
  rw [hset] at hP hD
  exact kk _ rfl H1 locs1 ⟨hw.1, hP, hD, hS, hw.2.2.2.2⟩
theorem x_putN (X : CallFix p m c cc nL s args (c0 :: tW) own) (hw : WD D cI cO ad s S H locs) (o : Nat) (ho : o < 109) {ci : Nat} {fs : List Value} (hce : cel cI cO ad S o = .inr (ci, fs)) {C : String} {T : u_T} {N : Nat} (hc : clsL[ci]? = some (C, T, N)) (hin : ∀ w ∈ u_ws C T N, w ∈ tW) {ty0 : Nat → FieldType} (hty : ∀ k, k < N → parseFieldDescriptor (T k).2.2.1 = some (ty0 k)) (hnm : ∀ a, a < N → ∀ b, b < N → a ≠ b → (T a).2.1 ≠ (T b).2.1) (k : Nat) (hk : k < N) {index : Nat} {nm ds host : String} (hl : Cond.fieldLinkNest own index C nm ds host ∈ nW) (hT : (T k).1 = C ∧ (T k).2.1 = nm ∧ (T k).2.2.1 = ds) (hfin : (T k).2.2.2 = false) {ty : FieldType} {x : Int32} (hd : parseFieldDescriptor ds = some ty) (hn : narrow ty (.int x) = .int x) (hfit : fits ty (.int x) = true) (hlen : k < fs.length) (j : Nat) (hset : (wd cI cO ad S).set o (ad o, .inr (ci, fs.set k (.int x))) = wd cI cO ad (upk S 0 (upd (S 0) j x))) (hdg : decode cc pc = .ok (.putfield index, 3))
    (kk : ∀ S1 : vS, S1 = upk S 0 (upd (S 0) j x) → ∀ (H1 : Heap) (locs1 : List Loc), WD D cI cO ad s S1 H1 locs1 → W p l e R s m args below meth c H1 locs1 0 0 Q (F0 m (pc + 3) ls rest)) : W p l e R s m args below meth c H locs 0 0 Q (F0 m pc ls (.int x :: .ref (ad o) :: rest)) := by
  obtain ⟨h1, h2, h3⟩ := hT
  refine va_putN (Ts := c0 :: tW) (host := host) (ty := ty) X.1 X.2.1 X.2.2.2.2 (fun w h => List.mem_cons_of_mem _ (hin w h)) ty0 hty hnm X.2.2.2.1 hw.1 hw.2.1 hw.2.2.1 hw.2.2.2.1 o (by rw [wd_get ho, hce]) hc k hk (by rw [h2, h3]; exact va_Nw.use rfl (hw.2.2.2.2 _ hl)) (fun x h9 => by rw [h1] at h9; exact h9) hfin (by rw [h3]; exact hd) hn hfit hlen hdg (fun H1 locs1 hP hD hS => ?_)
  rw [hset] at hP hD
  exact kk _ rfl H1 locs1 ⟨hw.1, hP, hD, hS, hw.2.2.2.2⟩
theorem x_max (X : CallFix p m c cc nL s args (c0 :: tW) own) (hls : ls.size = nL) {index : Nat} (h1 : Cond.methodLink own index Lib.Math.max.name ∈ tW) (h2 : Cond.static Lib.Math.max.name ∈ tW) (h3 : Cond.initialized "java/lang/Math" ∈ tW) (h4 : Cond.code Lib.Math.max.name Lib.Math.max.code 2 (some .int) ∈ tW) (hf : 1 ≤ R.frames) (hlo : (rest.map fun v => v.category).sum + 13 ≤ R.locals) {x y : Int32} (hdg : decode cc pc = .ok (.invokestatic index, 3))
    (kk : W p l e R s m args below meth c H locs 0 0 Q (F0 m (pc + 3) ls (.int (mx x y) :: rest))) : W p l e R s m args below meth c H locs 0 0 Q (F0 m pc ls (.int y :: .int x :: rest)) :=
  va_mmax X.1 X.2.1 (X.2.2.1.trans hls.symm) X.2.2.2.1 (X.2.2.2.2 _ (List.mem_cons_of_mem _ h1)) (X.2.2.2.2 _ (List.mem_cons_of_mem _ h2)) (X.2.2.2.2 _ (List.mem_cons_of_mem _ h3)) (X.2.2.2.2 _ (List.mem_cons_of_mem _ h4)) hf hlo (Nat.zero_le _) (Nat.zero_le _) hdg kk
theorem x_min (X : CallFix p m c cc nL s args (c0 :: tW) own) (hls : ls.size = nL) {index : Nat} (h1 : Cond.methodLink own index Lib.Math.min.name ∈ tW) (h2 : Cond.static Lib.Math.min.name ∈ tW) (h3 : Cond.initialized "java/lang/Math" ∈ tW) (h4 : Cond.code Lib.Math.min.name Lib.Math.min.code 2 (some .int) ∈ tW) (hf : 1 ≤ R.frames) (hlo : (rest.map fun v => v.category).sum + 13 ≤ R.locals) {x y : Int32} (hdg : decode cc pc = .ok (.invokestatic index, 3))
    (kk : W p l e R s m args below meth c H locs 0 0 Q (F0 m (pc + 3) ls (.int (mn x y) :: rest))) : W p l e R s m args below meth c H locs 0 0 Q (F0 m pc ls (.int y :: .int x :: rest)) :=
  va_mmin X.1 X.2.1 (X.2.2.1.trans hls.symm) X.2.2.2.1 (X.2.2.2.2 _ (List.mem_cons_of_mem _ h1)) (X.2.2.2.2 _ (List.mem_cons_of_mem _ h2)) (X.2.2.2.2 _ (List.mem_cons_of_mem _ h3)) (X.2.2.2.2 _ (List.mem_cons_of_mem _ h4)) hf hlo (Nat.zero_le _) (Nat.zero_le _) hdg kk
theorem x_copy (X : CallFix p m c cc nL s args (c0 :: tW) own) (hw : WD D cI cO ad s S H locs) (hls : ls.size = nL) {index : Nat} (h1 : Cond.methodLink own index arraycopyName ∈ tW) (h2 : Cond.native arraycopyName ∈ tW) (h3 : Cond.static arraycopyName ∈ tW) (h4 : Cond.initialized "java/lang/System" ∈ tW) (a b : Nat) (ha : 1 ≤ a ∧ a ≤ 97) (hb : 1 ≤ b ∧ b ≤ 97) {sp dp n : Int32} (hin : (¬ sp < 0 ∧ ¬ dp < 0 ∧ ¬ n < 0) ∧ sp.toNatClampNeg + n.toNatClampNeg ≤ alen a ∧ dp.toNatClampNeg + n.toNatClampNeg ≤ alen b) (hf : 1 ≤ R.frames) (hlo : (rest.map fun v => v.category).sum + (nativeFrameWords "java/lang/System" "arraycopy" 5 + 11) ≤ R.locals) (hdg : decode cc pc = .ok (.invokestatic index, 3))
    (kk : ∀ S1 : vS, S1 = upk S b (va_cpy (S a) (S b) sp.toNatClampNeg dp.toNatClampNeg n.toNatClampNeg) → ∀ (H1 : Heap) (locs1 : List Loc), WD D cI cO ad s S1 H1 locs1 → W p l e R s m args below meth c H1 locs1 0 0 Q (F0 m (pc + 3) ls rest)) : W p l e R s m args below meth c H locs 0 0 Q (F0 m pc ls (.int n :: .int dp :: .ref (ar ad b) :: .int sp :: .ref (ar ad a) :: rest)) := by
  obtain ⟨⟨q1, q2, q3⟩, q4, q5⟩ := hin
  refine va_copyi X.1 X.2.1 (X.2.2.1.trans hls.symm) X.2.2.2.1 (X.2.2.2.2 _ (List.mem_cons_of_mem _ h1)) (X.2.2.2.2 _ (List.mem_cons_of_mem _ h2)) (X.2.2.2.2 _ (List.mem_cons_of_mem _ h3)) (X.2.2.2.2 _ (List.mem_cons_of_mem _ h4)) hw.1 hw.2.1 hw.2.2.1 hw.2.2.2.1 (11 + a) (11 + b) 0 0 (wd_arr ha) (wd_arr hb) rfl rfl rfl q1 q2 q3 q4 q5 (fun i hi => rfl) hf hlo hdg (fun H1 locs1 hP hD hS => ?_)
  rw [wd_seta hb] at hP hD
  exact kk _ rfl H1 locs1 ⟨hw.1, hP, hD, hS, hw.2.2.2.2⟩
/-- calls -/
theorem pb_blind {as : List Value} {sz : Nat} {S : vS} : FrameBlind (va_Pc as (PB D cI cO ad sz S)) := fun a U g mk q => by
  obtain ⟨q0, q1, qP, qK, qD, qN⟩ := q
  exact ⟨q0, q1, qP, va_K.moved (u := U) (U := U.calling g mk a) (Vm.Alike.refl U.vm) qK, qD, nOk.same (u := U) (U := U.calling g mk a) rfl qN⟩
theorem pb_pre (hw : WD D cI cO ad s S H locs) (as : List Value) : ∀ U : State, U.heap = H → s.WarmedH U.vm → va_Pc as (PB D cI cO ad H.size S) as.toArray U := fun U hU hW =>
  ⟨rfl, by rw [hU], by rw [hU]; exact hw.2.1, va_K.moved hW.alike hw.1, wd_D hw.2.2.1 (fun _ _ => trivial), nOk.warm hW hw.2.2.2.2⟩
theorem pb_recv (hw : WD D cI cO ad s S H locs) {o : Nat} (ho : o < 109) {ci : Nat} {fs : List Value} (hce : cel cI cO ad S o = .inr (ci, fs)) {q : vw_C} (hc : clsL[ci]? = some q) : ∃ cell : Cell, H[ad o]? = some cell ∧ cell.vm.isStatics = false ∧ s.vm.findClass q.1 = some cell.cls := va_recv hw.1 hw.2.1 hc (q0 := o) (by rw [wd_get ho, hce])
theorem wd_next (hw : WD D cI cO ad s S H locs) {S1 : vS} {t : State} {H1 : Heap} {locs1 : List Loc} (ht : t.heap = H1) (hB : va_P D clsL (wd cI cO ad S1) t.heap) (hS : va_S (AA ad s.heap.size) s.heap H1 locs1) : WD D cI cO ad s S1 H1 locs1 := ⟨hw.1, by rw [ht] at hB; exact hB, wd_D hw.2.2.1 (fun k hk => AA.in hk), hS, hw.2.2.2.2⟩
theorem kVi (X : CallFix p m c cc nL s args (c0 :: tW) own) (hw : WD D cI cO ad s S H locs) {y : MethodName} {b : ByteArray} {nM : Nat} {ret : FieldType} {rm : Room} {As : List Value} {r : Int32} {S' : vS} {o ci n index : Nat} {fs : List Value} {T : u_T} {N : Nat} (hM : CI l y b nM ret rm (.ref (ad o) :: As) D cI cO ad S r S') (ho : o < 109) (hce : cel cI cO ad S o = .inr (ci, fs)) (hc : clsL[ci]? = some (y.cls, T, N)) (hrm : rm.cells = 0 ∧ rm.slots = 0) (h1 : Cond.methodLink own index y ∈ tW) (h2 : Cond.instanceMethod y ∈ tW) (h3 : Cond.selects y.cls y y ∈ tW) (h4 : Cond.initialized y.cls ∈ tW) (h5 : Cond.code y b nM (some ret) ∈ tW)
    (hd : y.cls ≠ "java/lang/invoke/MethodHandle" ∧ y.cls ≠ "java/lang/invoke/VarHandle" ∧ (parseMethodDescriptor y.desc).map (fun d => d.parameters.length) = some n) (hR : rm.frames + 1 ≤ R.frames ∧ 8 + (nM + 11) + rm.locals ≤ R.locals) (hn : As.length = n) (hls : ls.size = nL) {st0 : List Value} (hst : st0 = As.reverse ++ .ref (ad o) :: rest) (hcat : (rest.map fun v => v.category).sum ≤ 8) (hdg : decode cc pc = .ok (.invokevirtual index, 3))
    (kk : ∀ (H1 : Heap) (locs1 : List Loc), WD D cI cO ad s S' H1 locs1 → W p l e R s m args below meth c H1 locs1 0 0 Q (F0 m (pc + 3) ls (.int r :: rest))) : W p l e R s m args below meth c H locs 0 0 Q (F0 m pc ls st0) := by
  have hts := X.2.2.2.2
  have tw : ∀ {w : Cond}, w ∈ tW → w.before args s = true := fun h => hts _ (List.mem_cons_of_mem _ h)
  refine va_calli (A0 := AA ad s.heap.size) (H0 := s.heap) (va_runV (As := As) (rest := rest) X (hM H.size) ⟨callB_of n hts (gTc h5) rfl hrm.1 hrm.2 (tw h4) (tw h1) hd hR, tw h2, tw h3⟩ ⟨pb_blind, pb_recv hw ho hce hc, pb_pre hw (.ref (ad o) :: As)⟩ rfl hn hls hst (lv_room hcat) hdg ⟨Nat.zero_le _, Nat.zero_le _⟩) hw.2.2.2.1 (hA_of hw.2.2.2.1) (hA_of2 hw.2.2.2.1) (fun r1 u t H1 locs1 ht hvm hq hB hz hk hS => ?_)
  obtain ⟨rfl, rfl⟩ := hq
  exact kk H1 locs1 (wd_next hw ht hB hS)
theorem kVv (X : CallFix p m c cc nL s args (c0 :: tW) own) (hw : WD D cI cO ad s S H locs) {y : MethodName} {b : ByteArray} {nM : Nat} {rm : Room} {As : List Value} {S' : vS} {o ci n index : Nat} {fs : List Value} {T : u_T} {N : Nat} (hM : CV l y b nM rm (.ref (ad o) :: As) D cI cO ad S S') (ho : o < 109) (hce : cel cI cO ad S o = .inr (ci, fs)) (hc : clsL[ci]? = some (y.cls, T, N)) (hrm : rm.cells = 0 ∧ rm.slots = 0) (h1 : Cond.methodLink own index y ∈ tW) (h2 : Cond.instanceMethod y ∈ tW) (h3 : Cond.selects y.cls y y ∈ tW) (h4 : Cond.initialized y.cls ∈ tW) (h5 : Cond.code y b nM none ∈ tW)
    (hd : y.cls ≠ "java/lang/invoke/MethodHandle" ∧ y.cls ≠ "java/lang/invoke/VarHandle" ∧ (parseMethodDescriptor y.desc).map (fun d => d.parameters.length) = some n) (hR : rm.frames + 1 ≤ R.frames ∧ 8 + (nM + 11) + rm.locals ≤ R.locals) (hn : As.length = n) (hls : ls.size = nL) {st0 : List Value} (hst : st0 = As.reverse ++ .ref (ad o) :: rest) (hcat : (rest.map fun v => v.category).sum ≤ 8) (hdg : decode cc pc = .ok (.invokevirtual index, 3))
    (kk : ∀ (H1 : Heap) (locs1 : List Loc), WD D cI cO ad s S' H1 locs1 → W p l e R s m args below meth c H1 locs1 0 0 Q (F0 m (pc + 3) ls rest)) : W p l e R s m args below meth c H locs 0 0 Q (F0 m pc ls st0) := by
  have hts := X.2.2.2.2
  have tw : ∀ {w : Cond}, w ∈ tW → w.before args s = true := fun h => hts _ (List.mem_cons_of_mem _ h)
  refine va_callv (A0 := AA ad s.heap.size) (H0 := s.heap) (va_runV (As := As) (rest := rest) X (hM H.size) ⟨callB_of n hts (gTc h5) rfl hrm.1 hrm.2 (tw h4) (tw h1) hd hR, tw h2, tw h3⟩ ⟨pb_blind, pb_recv hw ho hce hc, pb_pre hw (.ref (ad o) :: As)⟩ rfl hn hls hst (lv_room hcat) hdg ⟨Nat.zero_le _, Nat.zero_le _⟩) hw.2.2.2.1 (hA_of hw.2.2.2.1) (hA_of2 hw.2.2.2.1) (fun u t H1 locs1 ht hvm hq hB hz hk hS => ?_)
  subst hq
  exact kk H1 locs1 (wd_next hw ht hB hS)
theorem kNi (X : CallFix p m c cc nL s args (c0 :: tW) own) (hw : WD D cI cO ad s S H locs) {y : MethodName} {b : ByteArray} {nM : Nat} {ret : FieldType} {rm : Room} {As : List Value} {r : Int32} {S' : vS} {o ci n index : Nat} {host : String} {fs : List Value} {T : u_T} {N : Nat} (hM : CI l y b nM ret rm (.ref (ad o) :: As) D cI cO ad S r S') (ho : o < 109) (hce : cel cI cO ad S o = .inr (ci, fs)) (hc : clsL[ci]? = some (y.cls, T, N)) (hrm : rm.cells = 0 ∧ rm.slots = 0) (h1 : Cond.methodLinkNest own index y host ∈ nW) (h2 : Cond.instanceMethod y ∈ tW) (h3 : Cond.selects y.cls y y ∈ tW) (h4 : Cond.initialized y.cls ∈ tW) (h5 : Cond.code y b nM (some ret) ∈ tW)
    (hd : y.cls ≠ "java/lang/invoke/MethodHandle" ∧ y.cls ≠ "java/lang/invoke/VarHandle" ∧ (parseMethodDescriptor y.desc).map (fun d => d.parameters.length) = some n) (hR : rm.frames + 1 ≤ R.frames ∧ 8 + (nM + 11) + rm.locals ≤ R.locals) (hn : As.length = n) (hls : ls.size = nL) {st0 : List Value} (hst : st0 = As.reverse ++ .ref (ad o) :: rest) (hcat : (rest.map fun v => v.category).sum ≤ 8) (hdg : decode cc pc = .ok (.invokevirtual index, 3))
    (kk : ∀ (H1 : Heap) (locs1 : List Loc), WD D cI cO ad s S' H1 locs1 → W p l e R s m args below meth c H1 locs1 0 0 Q (F0 m (pc + 3) ls (.int r :: rest))) : W p l e R s m args below meth c H locs 0 0 Q (F0 m pc ls st0) := by
  have hts := X.2.2.2.2
  have tw : ∀ {w : Cond}, w ∈ tW → w.before args s = true := fun h => hts _ (List.mem_cons_of_mem _ h)
  refine va_calli (A0 := AA ad s.heap.size) (H0 := s.heap) (va_runVN (As := As) (rest := rest) X (hM H.size) ⟨va_cnB n hts (gTc h5) rfl hrm.1 hrm.2 (hw.2.2.2.2 _ h1) (tw h4) hd hR, tw h2, tw h3⟩ ⟨pb_blind, pb_recv hw ho hce hc, pb_pre hw (.ref (ad o) :: As)⟩ rfl hn hls hst (lv_room hcat) hdg ⟨Nat.zero_le _, Nat.zero_le _⟩) hw.2.2.2.1 (hA_of hw.2.2.2.1) (hA_of2 hw.2.2.2.1) (fun r1 u t H1 locs1 ht hvm hq hB hz hk hS => ?_)
  obtain ⟨rfl, rfl⟩ := hq
  exact kk H1 locs1 (wd_next hw ht hB hS)
theorem kNv (X : CallFix p m c cc nL s args (c0 :: tW) own) (hw : WD D cI cO ad s S H locs) {y : MethodName} {b : ByteArray} {nM : Nat} {rm : Room} {As : List Value} {S' : vS} {o ci n index : Nat} {host : String} {fs : List Value} {T : u_T} {N : Nat} (hM : CV l y b nM rm (.ref (ad o) :: As) D cI cO ad S S') (ho : o < 109) (hce : cel cI cO ad S o = .inr (ci, fs)) (hc : clsL[ci]? = some (y.cls, T, N)) (hrm : rm.cells = 0 ∧ rm.slots = 0) (h1 : Cond.methodLinkNest own index y host ∈ nW) (h2 : Cond.instanceMethod y ∈ tW) (h3 : Cond.selects y.cls y y ∈ tW) (h4 : Cond.initialized y.cls ∈ tW) (h5 : Cond.code y b nM none ∈ tW)
    (hd : y.cls ≠ "java/lang/invoke/MethodHandle" ∧ y.cls ≠ "java/lang/invoke/VarHandle" ∧ (parseMethodDescriptor y.desc).map (fun d => d.parameters.length) = some n) (hR : rm.frames + 1 ≤ R.frames ∧ 8 + (nM + 11) + rm.locals ≤ R.locals) (hn : As.length = n) (hls : ls.size = nL) {st0 : List Value} (hst : st0 = As.reverse ++ .ref (ad o) :: rest) (hcat : (rest.map fun v => v.category).sum ≤ 8) (hdg : decode cc pc = .ok (.invokevirtual index, 3))
    (kk : ∀ (H1 : Heap) (locs1 : List Loc), WD D cI cO ad s S' H1 locs1 → W p l e R s m args below meth c H1 locs1 0 0 Q (F0 m (pc + 3) ls rest)) : W p l e R s m args below meth c H locs 0 0 Q (F0 m pc ls st0) := by
  have hts := X.2.2.2.2
  have tw : ∀ {w : Cond}, w ∈ tW → w.before args s = true := fun h => hts _ (List.mem_cons_of_mem _ h)
  refine va_callv (A0 := AA ad s.heap.size) (H0 := s.heap) (va_runVN (As := As) (rest := rest) X (hM H.size) ⟨va_cnB n hts (gTc h5) rfl hrm.1 hrm.2 (hw.2.2.2.2 _ h1) (tw h4) hd hR, tw h2, tw h3⟩ ⟨pb_blind, pb_recv hw ho hce hc, pb_pre hw (.ref (ad o) :: As)⟩ rfl hn hls hst (lv_room hcat) hdg ⟨Nat.zero_le _, Nat.zero_le _⟩) hw.2.2.2.1 (hA_of hw.2.2.2.1) (hA_of2 hw.2.2.2.1) (fun u t H1 locs1 ht hvm hq hB hz hk hS => ?_)
  subst hq
  exact kk H1 locs1 (wd_next hw ht hB hS)
theorem kSi (X : CallFix p m c cc nL s args (c0 :: tW) own) (hw : WD D cI cO ad s S H locs) {y : MethodName} {b : ByteArray} {nM : Nat} {ret : FieldType} {rm : Room} {As : List Value} {r : Int32} {S' : vS} {n index : Nat} (hM : CI l y b nM ret rm As D cI cO ad S r S') (hrm : rm.cells = 0 ∧ rm.slots = 0) (h1 : Cond.methodLink own index y ∈ tW) (h2 : Cond.static y ∈ tW) (h4 : Cond.initialized y.cls ∈ tW) (h5 : Cond.code y b nM (some ret) ∈ tW)
    (hd : y.cls ≠ "java/lang/invoke/MethodHandle" ∧ y.cls ≠ "java/lang/invoke/VarHandle" ∧ (parseMethodDescriptor y.desc).map (fun d => d.parameters.length) = some n) (hR : rm.frames + 1 ≤ R.frames ∧ 8 + (nM + 11) + rm.locals ≤ R.locals) (hn : As.length = n) (hls : ls.size = nL) {st0 : List Value} (hst : st0 = As.reverse ++ rest) (hcat : (rest.map fun v => v.category).sum ≤ 8) (hdg : decode cc pc = .ok (.invokestatic index, 3))
    (kk : ∀ (H1 : Heap) (locs1 : List Loc), WD D cI cO ad s S' H1 locs1 → W p l e R s m args below meth c H1 locs1 0 0 Q (F0 m (pc + 3) ls (.int r :: rest))) : W p l e R s m args below meth c H locs 0 0 Q (F0 m pc ls st0) := by
  have hts := X.2.2.2.2
  have tw : ∀ {w : Cond}, w ∈ tW → w.before args s = true := fun h => hts _ (List.mem_cons_of_mem _ h)
  refine va_calli (A0 := AA ad s.heap.size) (H0 := s.heap) (va_runS (As := As) (rest := rest) X (hM H.size) ⟨callB_of n hts (gTc h5) rfl hrm.1 hrm.2 (tw h4) (tw h1) hd hR, tw h2⟩ ⟨pb_blind, pb_pre hw As⟩ rfl hn hls hst (lv_room hcat) hdg ⟨Nat.zero_le _, Nat.zero_le _⟩) hw.2.2.2.1 (hA_of hw.2.2.2.1) (hA_of2 hw.2.2.2.1) (fun r1 u t H1 locs1 ht hvm hq hB hz hk hS => ?_)
  obtain ⟨rfl, rfl⟩ := hq
  exact kk H1 locs1 (wd_next hw ht hB hS)
theorem kSv (X : CallFix p m c cc nL s args (c0 :: tW) own) (hw : WD D cI cO ad s S H locs) {y : MethodName} {b : ByteArray} {nM : Nat} {rm : Room} {As : List Value} {S' : vS} {n index : Nat} (hM : CV l y b nM rm As D cI cO ad S S') (hrm : rm.cells = 0 ∧ rm.slots = 0) (h1 : Cond.methodLink own index y ∈ tW) (h2 : Cond.static y ∈ tW) (h4 : Cond.initialized y.cls ∈ tW) (h5 : Cond.code y b nM none ∈ tW)
    (hd : y.cls ≠ "java/lang/invoke/MethodHandle" ∧ y.cls ≠ "java/lang/invoke/VarHandle" ∧ (parseMethodDescriptor y.desc).map (fun d => d.parameters.length) = some n) (hR : rm.frames + 1 ≤ R.frames ∧ 8 + (nM + 11) + rm.locals ≤ R.locals) (hn : As.length = n) (hls : ls.size = nL) {st0 : List Value} (hst : st0 = As.reverse ++ rest) (hcat : (rest.map fun v => v.category).sum ≤ 8) (hdg : decode cc pc = .ok (.invokestatic index, 3))
    (kk : ∀ (H1 : Heap) (locs1 : List Loc), WD D cI cO ad s S' H1 locs1 → W p l e R s m args below meth c H1 locs1 0 0 Q (F0 m (pc + 3) ls rest)) : W p l e R s m args below meth c H locs 0 0 Q (F0 m pc ls st0) := by
  have hts := X.2.2.2.2
  have tw : ∀ {w : Cond}, w ∈ tW → w.before args s = true := fun h => hts _ (List.mem_cons_of_mem _ h)
  refine va_callv (A0 := AA ad s.heap.size) (H0 := s.heap) (va_runS (As := As) (rest := rest) X (hM H.size) ⟨callB_of n hts (gTc h5) rfl hrm.1 hrm.2 (tw h4) (tw h1) hd hR, tw h2⟩ ⟨pb_blind, pb_pre hw As⟩ rfl hn hls hst (lv_room hcat) hdg ⟨Nat.zero_le _, Nat.zero_le _⟩) hw.2.2.2.1 (hA_of hw.2.2.2.1) (hA_of2 hw.2.2.2.1) (fun u t H1 locs1 ht hvm hq hB hz hk hS => ?_)
  subst hq
  exact kk H1 locs1 (wd_next hw ht hB hS)
theorem kSNi (X : CallFix p m c cc nL s args (c0 :: tW) own) (hw : WD D cI cO ad s S H locs) {y : MethodName} {b : ByteArray} {nM : Nat} {ret : FieldType} {rm : Room} {As : List Value} {r : Int32} {S' : vS} {n index : Nat} {host : String} (hM : CI l y b nM ret rm As D cI cO ad S r S') (hrm : rm.cells = 0 ∧ rm.slots = 0) (h1 : Cond.methodLinkNest own index y host ∈ nW) (h2 : Cond.static y ∈ tW) (h4 : Cond.initialized y.cls ∈ tW) (h5 : Cond.code y b nM (some ret) ∈ tW)
    (hd : y.cls ≠ "java/lang/invoke/MethodHandle" ∧ y.cls ≠ "java/lang/invoke/VarHandle" ∧ (parseMethodDescriptor y.desc).map (fun d => d.parameters.length) = some n) (hR : rm.frames + 1 ≤ R.frames ∧ 8 + (nM + 11) + rm.locals ≤ R.locals) (hn : As.length = n) (hls : ls.size = nL) {st0 : List Value} (hst : st0 = As.reverse ++ rest) (hcat : (rest.map fun v => v.category).sum ≤ 8) (hdg : decode cc pc = .ok (.invokestatic index, 3))
    (kk : ∀ (H1 : Heap) (locs1 : List Loc), WD D cI cO ad s S' H1 locs1 → W p l e R s m args below meth c H1 locs1 0 0 Q (F0 m (pc + 3) ls (.int r :: rest))) : W p l e R s m args below meth c H locs 0 0 Q (F0 m pc ls st0) := by
  have hts := X.2.2.2.2
  have tw : ∀ {w : Cond}, w ∈ tW → w.before args s = true := fun h => hts _ (List.mem_cons_of_mem _ h)
  refine va_calli (A0 := AA ad s.heap.size) (H0 := s.heap) (va_runSN (As := As) (rest := rest) X (hM H.size) ⟨va_cnB n hts (gTc h5) rfl hrm.1 hrm.2 (hw.2.2.2.2 _ h1) (tw h4) hd hR, tw h2, trivial⟩ ⟨pb_blind, pb_pre hw As⟩ rfl hn hls hst (lv_room hcat) hdg ⟨Nat.zero_le _, Nat.zero_le _⟩) hw.2.2.2.1 (hA_of hw.2.2.2.1) (hA_of2 hw.2.2.2.1) (fun r1 u t H1 locs1 ht hvm hq hB hz hk hS => ?_)
  obtain ⟨rfl, rfl⟩ := hq
  exact kk H1 locs1 (wd_next hw ht hB hS)
end XR
-- each object's fields, and what a store into one is
section XF
variable {cI cO : ClassId} {ad : Nat → Nat} {S : vS}
theorem ce0 : cel cI cO ad S 0 = .inr (3, [.ref (ad 1), .ref (ad 2), .ref (ad 3), .ref (ad 4), .ref (ar ad 32), .ref (ar ad 33), .int (S 0 17), .int (S 0 18)]) := rfl
theorem ce1 : cel cI cO ad S 1 = .inr (2, [.ref (ar ad 22), .int (S 0 10), .int (S 0 11)]) := rfl
theorem ce2 : cel cI cO ad S 2 = .inr (0, [.ref (ad 6), .ref (ad 7), .ref (ar ad 23), .ref (ad 8), .int (S 0 12)]) := rfl
theorem ce3 : cel cI cO ad S 3 = .inr (0, [.ref (ad 9), .ref (ad 10), .ref (ar ad 24), .ref (ad 11), .int (S 0 13)]) := rfl
theorem ce4 : cel cI cO ad S 4 = .inr (1, [.ref (ar ad 25), .ref (ar ad 26), .ref (ar ad 27), .ref (ar ad 28), .ref (ar ad 29), .ref (ar ad 30), .ref (ar ad 31), .int (S 0 14), .int (S 0 15), .int (S 0 16)]) := rfl
theorem ce5 : cel cI cO ad S 5 = .inr (4, [.ref (ar ad 1), .ref (ar ad 2), .ref (ar ad 3), .ref (ar ad 4), .ref (ar ad 5), .ref (ar ad 6), .ref (ar ad 7), .ref (ar ad 8), .ref (ar ad 9), .ref (ar ad 10), .ref (ar ad 11), .ref (ar ad 12), .ref (ar ad 13), .int (S 0 0), .int (S 0 1), .int (S 0 2), .int (S 0 3), .ref (ar ad 14), .ref (ar ad 15), .ref (ar ad 16), .ref (ar ad 17), .ref (ar ad 18), .ref (ar ad 19), .int (S 0 4), .ref (ar ad 20), .int (S 0 5), .ref (ar ad 21), .int (S 0 6), .int (S 0 7), .int (S 0 8)]) := rfl
theorem ce6 : cel cI cO ad S 6 = .inl (cO, 20, .inr (.inr (.inr (.inr (fun i => some (ar ad (34 + i))))))) := rfl
theorem ce7 : cel cI cO ad S 7 = .inl (cO, 6, .inr (.inr (.inr (.inr (fun i => some (ar ad (54 + i))))))) := rfl
theorem ce8 : cel cI cO ad S 8 = .inl (cO, 6, .inr (.inr (.inr (.inr (fun i => some (ar ad (60 + i))))))) := rfl
theorem ce9 : cel cI cO ad S 9 = .inl (cO, 20, .inr (.inr (.inr (.inr (fun i => some (ar ad (66 + i))))))) := rfl
theorem ce10 : cel cI cO ad S 10 = .inl (cO, 6, .inr (.inr (.inr (.inr (fun i => some (ar ad (86 + i))))))) := rfl
theorem ce11 : cel cI cO ad S 11 = .inl (cO, 6, .inr (.inr (.inr (.inr (fun i => some (ar ad (92 + i))))))) := rfl
theorem ws_17 (x : Int32) : (wd cI cO ad S).set 0 (ad 0, .inr (3, ([.ref (ad 1), .ref (ad 2), .ref (ad 3), .ref (ad 4), .ref (ar ad 32), .ref (ar ad 33), .int (S 0 17), .int (S 0 18)] : List Value).set 6 (.int x))) = wd cI cO ad (upk S 0 (upd (S 0) 17 x)) := wd_set (Nat.le_of_ble_eq_true rfl) (by simp [cel, upk, upd]) (fun i hi => by unfold cel; split <;> first | rfl | (simp [upk, upd]; done) | exact absurd rfl hi)
theorem ws_18 (x : Int32) : (wd cI cO ad S).set 0 (ad 0, .inr (3, ([.ref (ad 1), .ref (ad 2), .ref (ad 3), .ref (ad 4), .ref (ar ad 32), .ref (ar ad 33), .int (S 0 17), .int (S 0 18)] : List Value).set 7 (.int x))) = wd cI cO ad (upk S 0 (upd (S 0) 18 x)) := wd_set (Nat.le_of_ble_eq_true rfl) (by simp [cel, upk, upd]) (fun i hi => by unfold cel; split <;> first | rfl | (simp [upk, upd]; done) | exact absurd rfl hi)
theorem ws_10 (x : Int32) : (wd cI cO ad S).set 1 (ad 1, .inr (2, ([.ref (ar ad 22), .int (S 0 10), .int (S 0 11)] : List Value).set 1 (.int x))) = wd cI cO ad (upk S 0 (upd (S 0) 10 x)) := wd_set (Nat.le_of_ble_eq_true rfl) (by simp [cel, upk, upd]) (fun i hi => by unfold cel; split <;> first | rfl | (simp [upk, upd]; done) | exact absurd rfl hi)
theorem ws_11 (x : Int32) : (wd cI cO ad S).set 1 (ad 1, .inr (2, ([.ref (ar ad 22), .int (S 0 10), .int (S 0 11)] : List Value).set 2 (.int x))) = wd cI cO ad (upk S 0 (upd (S 0) 11 x)) := wd_set (Nat.le_of_ble_eq_true rfl) (by simp [cel, upk, upd]) (fun i hi => by unfold cel; split <;> first | rfl | (simp [upk, upd]; done) | exact absurd rfl hi)
theorem ws_12 (x : Int32) : (wd cI cO ad S).set 2 (ad 2, .inr (0, ([.ref (ad 6), .ref (ad 7), .ref (ar ad 23), .ref (ad 8), .int (S 0 12)] : List Value).set 4 (.int x))) = wd cI cO ad (upk S 0 (upd (S 0) 12 x)) := wd_set (Nat.le_of_ble_eq_true rfl) (by simp [cel, upk, upd]) (fun i hi => by unfold cel; split <;> first | rfl | (simp [upk, upd]; done) | exact absurd rfl hi)
theorem ws_13 (x : Int32) : (wd cI cO ad S).set 3 (ad 3, .inr (0, ([.ref (ad 9), .ref (ad 10), .ref (ar ad 24), .ref (ad 11), .int (S 0 13)] : List Value).set 4 (.int x))) = wd cI cO ad (upk S 0 (upd (S 0) 13 x)) := wd_set (Nat.le_of_ble_eq_true rfl) (by simp [cel, upk, upd]) (fun i hi => by unfold cel; split <;> first | rfl | (simp [upk, upd]; done) | exact absurd rfl hi)
theorem ws_14 (x : Int32) : (wd cI cO ad S).set 4 (ad 4, .inr (1, ([.ref (ar ad 25), .ref (ar ad 26), .ref (ar ad 27), .ref (ar ad 28), .ref (ar ad 29), .ref (ar ad 30), .ref (ar ad 31), .int (S 0 14), .int (S 0 15), .int (S 0 16)] : List Value).set 7 (.int x))) = wd cI cO ad (upk S 0 (upd (S 0) 14 x)) := wd_set (Nat.le_of_ble_eq_true rfl) (by simp [cel, upk, upd]) (fun i hi => by unfold cel; split <;> first | rfl | (simp [upk, upd]; done) | exact absurd rfl hi)
theorem ws_15 (x : Int32) : (wd cI cO ad S).set 4 (ad 4, .inr (1, ([.ref (ar ad 25), .ref (ar ad 26), .ref (ar ad 27), .ref (ar ad 28), .ref (ar ad 29), .ref (ar ad 30), .ref (ar ad 31), .int (S 0 14), .int (S 0 15), .int (S 0 16)] : List Value).set 8 (.int x))) = wd cI cO ad (upk S 0 (upd (S 0) 15 x)) := wd_set (Nat.le_of_ble_eq_true rfl) (by simp [cel, upk, upd]) (fun i hi => by unfold cel; split <;> first | rfl | (simp [upk, upd]; done) | exact absurd rfl hi)
theorem ws_16 (x : Int32) : (wd cI cO ad S).set 4 (ad 4, .inr (1, ([.ref (ar ad 25), .ref (ar ad 26), .ref (ar ad 27), .ref (ar ad 28), .ref (ar ad 29), .ref (ar ad 30), .ref (ar ad 31), .int (S 0 14), .int (S 0 15), .int (S 0 16)] : List Value).set 9 (.int x))) = wd cI cO ad (upk S 0 (upd (S 0) 16 x)) := wd_set (Nat.le_of_ble_eq_true rfl) (by simp [cel, upk, upd]) (fun i hi => by unfold cel; split <;> first | rfl | (simp [upk, upd]; done) | exact absurd rfl hi)
theorem ws_0 (x : Int32) : (wd cI cO ad S).set 5 (ad 5, .inr (4, ([.ref (ar ad 1), .ref (ar ad 2), .ref (ar ad 3), .ref (ar ad 4), .ref (ar ad 5), .ref (ar ad 6), .ref (ar ad 7), .ref (ar ad 8), .ref (ar ad 9), .ref (ar ad 10), .ref (ar ad 11), .ref (ar ad 12), .ref (ar ad 13), .int (S 0 0), .int (S 0 1), .int (S 0 2), .int (S 0 3), .ref (ar ad 14), .ref (ar ad 15), .ref (ar ad 16), .ref (ar ad 17), .ref (ar ad 18), .ref (ar ad 19), .int (S 0 4), .ref (ar ad 20), .int (S 0 5), .ref (ar ad 21), .int (S 0 6), .int (S 0 7), .int (S 0 8)] : List Value).set 13 (.int x))) = wd cI cO ad (upk S 0 (upd (S 0) 0 x)) := wd_set (Nat.le_of_ble_eq_true rfl) (by simp [cel, upk, upd]) (fun i hi => by unfold cel; split <;> first | rfl | (simp [upk, upd]; done) | exact absurd rfl hi)
theorem ws_1 (x : Int32) : (wd cI cO ad S).set 5 (ad 5, .inr (4, ([.ref (ar ad 1), .ref (ar ad 2), .ref (ar ad 3), .ref (ar ad 4), .ref (ar ad 5), .ref (ar ad 6), .ref (ar ad 7), .ref (ar ad 8), .ref (ar ad 9), .ref (ar ad 10), .ref (ar ad 11), .ref (ar ad 12), .ref (ar ad 13), .int (S 0 0), .int (S 0 1), .int (S 0 2), .int (S 0 3), .ref (ar ad 14), .ref (ar ad 15), .ref (ar ad 16), .ref (ar ad 17), .ref (ar ad 18), .ref (ar ad 19), .int (S 0 4), .ref (ar ad 20), .int (S 0 5), .ref (ar ad 21), .int (S 0 6), .int (S 0 7), .int (S 0 8)] : List Value).set 14 (.int x))) = wd cI cO ad (upk S 0 (upd (S 0) 1 x)) := wd_set (Nat.le_of_ble_eq_true rfl) (by simp [cel, upk, upd]) (fun i hi => by unfold cel; split <;> first | rfl | (simp [upk, upd]; done) | exact absurd rfl hi)
theorem ws_2 (x : Int32) : (wd cI cO ad S).set 5 (ad 5, .inr (4, ([.ref (ar ad 1), .ref (ar ad 2), .ref (ar ad 3), .ref (ar ad 4), .ref (ar ad 5), .ref (ar ad 6), .ref (ar ad 7), .ref (ar ad 8), .ref (ar ad 9), .ref (ar ad 10), .ref (ar ad 11), .ref (ar ad 12), .ref (ar ad 13), .int (S 0 0), .int (S 0 1), .int (S 0 2), .int (S 0 3), .ref (ar ad 14), .ref (ar ad 15), .ref (ar ad 16), .ref (ar ad 17), .ref (ar ad 18), .ref (ar ad 19), .int (S 0 4), .ref (ar ad 20), .int (S 0 5), .ref (ar ad 21), .int (S 0 6), .int (S 0 7), .int (S 0 8)] : List Value).set 15 (.int x))) = wd cI cO ad (upk S 0 (upd (S 0) 2 x)) := wd_set (Nat.le_of_ble_eq_true rfl) (by simp [cel, upk, upd]) (fun i hi => by unfold cel; split <;> first | rfl | (simp [upk, upd]; done) | exact absurd rfl hi)
theorem ws_3 (x : Int32) : (wd cI cO ad S).set 5 (ad 5, .inr (4, ([.ref (ar ad 1), .ref (ar ad 2), .ref (ar ad 3), .ref (ar ad 4), .ref (ar ad 5), .ref (ar ad 6), .ref (ar ad 7), .ref (ar ad 8), .ref (ar ad 9), .ref (ar ad 10), .ref (ar ad 11), .ref (ar ad 12), .ref (ar ad 13), .int (S 0 0), .int (S 0 1), .int (S 0 2), .int (S 0 3), .ref (ar ad 14), .ref (ar ad 15), .ref (ar ad 16), .ref (ar ad 17), .ref (ar ad 18), .ref (ar ad 19), .int (S 0 4), .ref (ar ad 20), .int (S 0 5), .ref (ar ad 21), .int (S 0 6), .int (S 0 7), .int (S 0 8)] : List Value).set 16 (.int x))) = wd cI cO ad (upk S 0 (upd (S 0) 3 x)) := wd_set (Nat.le_of_ble_eq_true rfl) (by simp [cel, upk, upd]) (fun i hi => by unfold cel; split <;> first | rfl | (simp [upk, upd]; done) | exact absurd rfl hi)
theorem ws_4 (x : Int32) : (wd cI cO ad S).set 5 (ad 5, .inr (4, ([.ref (ar ad 1), .ref (ar ad 2), .ref (ar ad 3), .ref (ar ad 4), .ref (ar ad 5), .ref (ar ad 6), .ref (ar ad 7), .ref (ar ad 8), .ref (ar ad 9), .ref (ar ad 10), .ref (ar ad 11), .ref (ar ad 12), .ref (ar ad 13), .int (S 0 0), .int (S 0 1), .int (S 0 2), .int (S 0 3), .ref (ar ad 14), .ref (ar ad 15), .ref (ar ad 16), .ref (ar ad 17), .ref (ar ad 18), .ref (ar ad 19), .int (S 0 4), .ref (ar ad 20), .int (S 0 5), .ref (ar ad 21), .int (S 0 6), .int (S 0 7), .int (S 0 8)] : List Value).set 23 (.int x))) = wd cI cO ad (upk S 0 (upd (S 0) 4 x)) := wd_set (Nat.le_of_ble_eq_true rfl) (by simp [cel, upk, upd]) (fun i hi => by unfold cel; split <;> first | rfl | (simp [upk, upd]; done) | exact absurd rfl hi)
theorem ws_5 (x : Int32) : (wd cI cO ad S).set 5 (ad 5, .inr (4, ([.ref (ar ad 1), .ref (ar ad 2), .ref (ar ad 3), .ref (ar ad 4), .ref (ar ad 5), .ref (ar ad 6), .ref (ar ad 7), .ref (ar ad 8), .ref (ar ad 9), .ref (ar ad 10), .ref (ar ad 11), .ref (ar ad 12), .ref (ar ad 13), .int (S 0 0), .int (S 0 1), .int (S 0 2), .int (S 0 3), .ref (ar ad 14), .ref (ar ad 15), .ref (ar ad 16), .ref (ar ad 17), .ref (ar ad 18), .ref (ar ad 19), .int (S 0 4), .ref (ar ad 20), .int (S 0 5), .ref (ar ad 21), .int (S 0 6), .int (S 0 7), .int (S 0 8)] : List Value).set 25 (.int x))) = wd cI cO ad (upk S 0 (upd (S 0) 5 x)) := wd_set (Nat.le_of_ble_eq_true rfl) (by simp [cel, upk, upd]) (fun i hi => by unfold cel; split <;> first | rfl | (simp [upk, upd]; done) | exact absurd rfl hi)
theorem ws_6 (x : Int32) : (wd cI cO ad S).set 5 (ad 5, .inr (4, ([.ref (ar ad 1), .ref (ar ad 2), .ref (ar ad 3), .ref (ar ad 4), .ref (ar ad 5), .ref (ar ad 6), .ref (ar ad 7), .ref (ar ad 8), .ref (ar ad 9), .ref (ar ad 10), .ref (ar ad 11), .ref (ar ad 12), .ref (ar ad 13), .int (S 0 0), .int (S 0 1), .int (S 0 2), .int (S 0 3), .ref (ar ad 14), .ref (ar ad 15), .ref (ar ad 16), .ref (ar ad 17), .ref (ar ad 18), .ref (ar ad 19), .int (S 0 4), .ref (ar ad 20), .int (S 0 5), .ref (ar ad 21), .int (S 0 6), .int (S 0 7), .int (S 0 8)] : List Value).set 27 (.int x))) = wd cI cO ad (upk S 0 (upd (S 0) 6 x)) := wd_set (Nat.le_of_ble_eq_true rfl) (by simp [cel, upk, upd]) (fun i hi => by unfold cel; split <;> first | rfl | (simp [upk, upd]; done) | exact absurd rfl hi)
theorem ws_7 (x : Int32) : (wd cI cO ad S).set 5 (ad 5, .inr (4, ([.ref (ar ad 1), .ref (ar ad 2), .ref (ar ad 3), .ref (ar ad 4), .ref (ar ad 5), .ref (ar ad 6), .ref (ar ad 7), .ref (ar ad 8), .ref (ar ad 9), .ref (ar ad 10), .ref (ar ad 11), .ref (ar ad 12), .ref (ar ad 13), .int (S 0 0), .int (S 0 1), .int (S 0 2), .int (S 0 3), .ref (ar ad 14), .ref (ar ad 15), .ref (ar ad 16), .ref (ar ad 17), .ref (ar ad 18), .ref (ar ad 19), .int (S 0 4), .ref (ar ad 20), .int (S 0 5), .ref (ar ad 21), .int (S 0 6), .int (S 0 7), .int (S 0 8)] : List Value).set 28 (.int x))) = wd cI cO ad (upk S 0 (upd (S 0) 7 x)) := wd_set (Nat.le_of_ble_eq_true rfl) (by simp [cel, upk, upd]) (fun i hi => by unfold cel; split <;> first | rfl | (simp [upk, upd]; done) | exact absurd rfl hi)
theorem ws_8 (x : Int32) : (wd cI cO ad S).set 5 (ad 5, .inr (4, ([.ref (ar ad 1), .ref (ar ad 2), .ref (ar ad 3), .ref (ar ad 4), .ref (ar ad 5), .ref (ar ad 6), .ref (ar ad 7), .ref (ar ad 8), .ref (ar ad 9), .ref (ar ad 10), .ref (ar ad 11), .ref (ar ad 12), .ref (ar ad 13), .int (S 0 0), .int (S 0 1), .int (S 0 2), .int (S 0 3), .ref (ar ad 14), .ref (ar ad 15), .ref (ar ad 16), .ref (ar ad 17), .ref (ar ad 18), .ref (ar ad 19), .int (S 0 4), .ref (ar ad 20), .int (S 0 5), .ref (ar ad 21), .int (S 0 6), .int (S 0 7), .int (S 0 8)] : List Value).set 29 (.int x))) = wd cI cO ad (upk S 0 (upd (S 0) 8 x)) := wd_set (Nat.le_of_ble_eq_true rfl) (by simp [cel, upk, upd]) (fun i hi => by unfold cel; split <;> first | rfl | (simp [upk, upd]; done) | exact absurd rfl hi)
end XF
theorem i_X0 : ∀ w ∈ wsX00, w ∈ tW := fun w h => List.mem_filter.mpr ⟨(by decide +kernel : ∀ w ∈ wsX00, w ∈ lw_tbl) w h, (by decide +kernel : ∀ w ∈ wsX00, goodWord w = true) w h⟩
theorem i_X1 : ∀ w ∈ wsX10, w ∈ tW := fun w h => List.mem_filter.mpr ⟨(by decide +kernel : ∀ w ∈ wsX10, w ∈ lw_tbl) w h, (by decide +kernel : ∀ w ∈ wsX10, goodWord w = true) w h⟩
theorem i_X2 : ∀ w ∈ wsX20, w ∈ tW := fun w h => List.mem_filter.mpr ⟨(by decide +kernel : ∀ w ∈ wsX20, w ∈ lw_tbl) w h, (by decide +kernel : ∀ w ∈ wsX20, goodWord w = true) w h⟩
theorem i_X3 : ∀ w ∈ wsX30, w ∈ tW := fun w h => List.mem_filter.mpr ⟨(by decide +kernel : ∀ w ∈ wsX30, w ∈ lw_tbl) w h, (by decide +kernel : ∀ w ∈ wsX30, goodWord w = true) w h⟩
theorem i_X4 : ∀ w ∈ wsX40, w ∈ tW := fun w h => List.mem_filter.mpr ⟨(by decide +kernel : ∀ w ∈ wsX40, w ∈ lw_tbl) w h, (by decide +kernel : ∀ w ∈ wsX40, goodWord w = true) w h⟩
end
