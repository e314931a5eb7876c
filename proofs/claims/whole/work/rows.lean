section
-- ===== PART A: goes FIRST, ahead of the names: the tables' words, and 'selects' of the private methods out of them =====
/-- a private method of a class that the tables say can be made, by its rows of tables_1 -/
def lw_okq (q : MethodName × Nat) : Prop := (q.1.cls ≠ "java/lang/invoke/MethodHandle" ∧ q.1.cls ≠ "java/lang/invoke/VarHandle") ∧ Cond.instantiable q.1.cls q.2 ∈ tables_1 ∧ Cond.privateMethod q.1 ∈ tables_1 ∧ Cond.instanceMethod q.1 ∈ tables_1
theorem lw_p0 : lw_okq (⟨"NineLands", "refuse", "(I)I"⟩, 8) := ⟨⟨by decide +kernel, by decide +kernel⟩, List.mem_of_getElem? (i := 15) (by decide +kernel), List.mem_of_getElem? (i := 154) (by decide +kernel), List.mem_of_getElem? (i := 155) (by decide +kernel)⟩
theorem lw_p1 : lw_okq (⟨"NineLands$Tape", "readInto", "([I)Z"⟩, 3) := ⟨⟨by decide +kernel, by decide +kernel⟩, List.mem_of_getElem? (i := 23) (by decide +kernel), List.mem_of_getElem? (i := 163) (by decide +kernel), List.mem_of_getElem? (i := 164) (by decide +kernel)⟩
theorem lw_p2 : lw_okq (⟨"NineLands$Tape", "readChoice", "([IILjava/lang/String;)Z"⟩, 3) := ⟨⟨by decide +kernel, by decide +kernel⟩, List.mem_of_getElem? (i := 23) (by decide +kernel), List.mem_of_getElem? (i := 168) (by decide +kernel), List.mem_of_getElem? (i := 169) (by decide +kernel)⟩
theorem lw_p3 : lw_okq (⟨"NineLands$Tape", "readNumber", "([II)Z"⟩, 3) := ⟨⟨by decide +kernel, by decide +kernel⟩, List.mem_of_getElem? (i := 23) (by decide +kernel), List.mem_of_getElem? (i := 259) (by decide +kernel), List.mem_of_getElem? (i := 260) (by decide +kernel)⟩
theorem lw_p4 : lw_okq (⟨"NineLands$Tape", "readSign", "(C)Z"⟩, 3) := ⟨⟨by decide +kernel, by decide +kernel⟩, List.mem_of_getElem? (i := 23) (by decide +kernel), List.mem_of_getElem? (i := 263) (by decide +kernel), List.mem_of_getElem? (i := 264) (by decide +kernel)⟩
theorem lw_p5 : lw_okq (⟨"NineLands$Tape", "readTill", "([I)Z"⟩, 3) := ⟨⟨by decide +kernel, by decide +kernel⟩, List.mem_of_getElem? (i := 23) (by decide +kernel), List.mem_of_getElem? (i := 267) (by decide +kernel), List.mem_of_getElem? (i := 268) (by decide +kernel)⟩
theorem lw_p6 : lw_okq (⟨"NineLands", "isSpell", "(I)Z"⟩, 8) := ⟨⟨by decide +kernel, by decide +kernel⟩, List.mem_of_getElem? (i := 15) (by decide +kernel), List.mem_of_getElem? (i := 276) (by decide +kernel), List.mem_of_getElem? (i := 277) (by decide +kernel)⟩
theorem lw_p7 : lw_okq (⟨"NineLands$Sums", "reckon", "(LNineLands$Book;)V"⟩, 10) := ⟨⟨by decide +kernel, by decide +kernel⟩, List.mem_of_getElem? (i := 80) (by decide +kernel), List.mem_of_getElem? (i := 308) (by decide +kernel), List.mem_of_getElem? (i := 309) (by decide +kernel)⟩
theorem lw_p8 : lw_okq (⟨"NineLands$Sums", "clear", "()V"⟩, 10) := ⟨⟨by decide +kernel, by decide +kernel⟩, List.mem_of_getElem? (i := 80) (by decide +kernel), List.mem_of_getElem? (i := 312) (by decide +kernel), List.mem_of_getElem? (i := 313) (by decide +kernel)⟩
theorem lw_p9 : lw_okq (⟨"NineLands$Book", "nextChange", "(I)I"⟩, 5) := ⟨⟨by decide +kernel, by decide +kernel⟩, List.mem_of_getElem? (i := 43) (by decide +kernel), List.mem_of_getElem? (i := 319) (by decide +kernel), List.mem_of_getElem? (i := 320) (by decide +kernel)⟩
theorem lw_p10 : lw_okq (⟨"NineLands$Sums", "addStretch", "(LNineLands$Book;II)V"⟩, 10) := ⟨⟨by decide +kernel, by decide +kernel⟩, List.mem_of_getElem? (i := 80) (by decide +kernel), List.mem_of_getElem? (i := 324) (by decide +kernel), List.mem_of_getElem? (i := 325) (by decide +kernel)⟩
theorem lw_p11 : lw_okq (⟨"NineLands$Book", "payAt", "(II)I"⟩, 5) := ⟨⟨by decide +kernel, by decide +kernel⟩, List.mem_of_getElem? (i := 43) (by decide +kernel), List.mem_of_getElem? (i := 328) (by decide +kernel), List.mem_of_getElem? (i := 329) (by decide +kernel)⟩
theorem lw_p12 : lw_okq (⟨"NineLands$Book", "workCounts", "(II)Z"⟩, 5) := ⟨⟨by decide +kernel, by decide +kernel⟩, List.mem_of_getElem? (i := 43) (by decide +kernel), List.mem_of_getElem? (i := 332) (by decide +kernel), List.mem_of_getElem? (i := 333) (by decide +kernel)⟩
theorem lw_p13 : lw_okq (⟨"NineLands$Book", "isHeld", "(II)Z"⟩, 5) := ⟨⟨by decide +kernel, by decide +kernel⟩, List.mem_of_getElem? (i := 43) (by decide +kernel), List.mem_of_getElem? (i := 336) (by decide +kernel), List.mem_of_getElem? (i := 337) (by decide +kernel)⟩
theorem lw_p14 : lw_okq (⟨"NineLands$Sums", "addOwn", "(II)V"⟩, 10) := ⟨⟨by decide +kernel, by decide +kernel⟩, List.mem_of_getElem? (i := 80) (by decide +kernel), List.mem_of_getElem? (i := 341) (by decide +kernel), List.mem_of_getElem? (i := 342) (by decide +kernel)⟩
theorem lw_p15 : lw_okq (⟨"NineLands$Sums", "addPut", "(LNineLands$Book;II)V"⟩, 10) := ⟨⟨by decide +kernel, by decide +kernel⟩, List.mem_of_getElem? (i := 80) (by decide +kernel), List.mem_of_getElem? (i := 345) (by decide +kernel), List.mem_of_getElem? (i := 346) (by decide +kernel)⟩
def lw_privs_1 : List (MethodName × Nat) := [(⟨"NineLands", "refuse", "(I)I"⟩, 8), (⟨"NineLands$Tape", "readInto", "([I)Z"⟩, 3), (⟨"NineLands$Tape", "readChoice", "([IILjava/lang/String;)Z"⟩, 3), (⟨"NineLands$Tape", "readNumber", "([II)Z"⟩, 3), (⟨"NineLands$Tape", "readSign", "(C)Z"⟩, 3), (⟨"NineLands$Tape", "readTill", "([I)Z"⟩, 3), (⟨"NineLands", "isSpell", "(I)Z"⟩, 8), (⟨"NineLands$Sums", "reckon", "(LNineLands$Book;)V"⟩, 10), (⟨"NineLands$Sums", "clear", "()V"⟩, 10), (⟨"NineLands$Book", "nextChange", "(I)I"⟩, 5), (⟨"NineLands$Sums", "addStretch", "(LNineLands$Book;II)V"⟩, 10), (⟨"NineLands$Book", "payAt", "(II)I"⟩, 5), (⟨"NineLands$Book", "workCounts", "(II)Z"⟩, 5), (⟨"NineLands$Book", "isHeld", "(II)Z"⟩, 5), (⟨"NineLands$Sums", "addOwn", "(II)V"⟩, 10), (⟨"NineLands$Sums", "addPut", "(LNineLands$Book;II)V"⟩, 10)]
theorem lw_r1 : ∀ q ∈ lw_privs_1, lw_okq q := List.forall_mem_cons.mpr ⟨lw_p0, List.forall_mem_cons.mpr ⟨lw_p1, List.forall_mem_cons.mpr ⟨lw_p2, List.forall_mem_cons.mpr ⟨lw_p3, List.forall_mem_cons.mpr ⟨lw_p4, List.forall_mem_cons.mpr ⟨lw_p5, List.forall_mem_cons.mpr ⟨lw_p6, List.forall_mem_cons.mpr ⟨lw_p7, List.forall_mem_cons.mpr ⟨lw_p8, List.forall_mem_cons.mpr ⟨lw_p9, List.forall_mem_cons.mpr ⟨lw_p10, List.forall_mem_cons.mpr ⟨lw_p11, List.forall_mem_cons.mpr ⟨lw_p12, List.forall_mem_cons.mpr ⟨lw_p13, List.forall_mem_cons.mpr ⟨lw_p14, List.forall_mem_cons.mpr ⟨lw_p15, fun _ h => absurd h List.not_mem_nil⟩⟩⟩⟩⟩⟩⟩⟩⟩⟩⟩⟩⟩⟩⟩⟩
theorem lw_p16 : lw_okq (⟨"NineLands$Sums", "payPut", "(LNineLands$Book;I)I"⟩, 10) := ⟨⟨by decide +kernel, by decide +kernel⟩, List.mem_of_getElem? (i := 80) (by decide +kernel), List.mem_of_getElem? (i := 349) (by decide +kernel), List.mem_of_getElem? (i := 350) (by decide +kernel)⟩
theorem lw_p17 : lw_okq (⟨"NineLands$Book", "holders", "(I)I"⟩, 5) := ⟨⟨by decide +kernel, by decide +kernel⟩, List.mem_of_getElem? (i := 43) (by decide +kernel), List.mem_of_getElem? (i := 353) (by decide +kernel), List.mem_of_getElem? (i := 354) (by decide +kernel)⟩
theorem lw_p18 : lw_okq (⟨"NineLands$Sums", "dueBy", "(LNineLands$Book;III)I"⟩, 10) := ⟨⟨by decide +kernel, by decide +kernel⟩, List.mem_of_getElem? (i := 80) (by decide +kernel), List.mem_of_getElem? (i := 370) (by decide +kernel), List.mem_of_getElem? (i := 371) (by decide +kernel)⟩
theorem lw_p19 : lw_okq (⟨"NineLands$Sums", "dueWhole", "([III)I"⟩, 10) := ⟨⟨by decide +kernel, by decide +kernel⟩, List.mem_of_getElem? (i := 80) (by decide +kernel), List.mem_of_getElem? (i := 374) (by decide +kernel), List.mem_of_getElem? (i := 375) (by decide +kernel)⟩
theorem lw_p20 : lw_okq (⟨"NineLands$Sums", "duePut", "([II)I"⟩, 10) := ⟨⟨by decide +kernel, by decide +kernel⟩, List.mem_of_getElem? (i := 80) (by decide +kernel), List.mem_of_getElem? (i := 386) (by decide +kernel), List.mem_of_getElem? (i := 387) (by decide +kernel)⟩
theorem lw_p21 : lw_okq (⟨"NineLands", "owedByAll", "()I"⟩, 8) := ⟨⟨by decide +kernel, by decide +kernel⟩, List.mem_of_getElem? (i := 15) (by decide +kernel), List.mem_of_getElem? (i := 402) (by decide +kernel), List.mem_of_getElem? (i := 403) (by decide +kernel)⟩
theorem lw_p22 : lw_okq (⟨"NineLands$Sums", "settle", "(LNineLands$Book;)I"⟩, 10) := ⟨⟨by decide +kernel, by decide +kernel⟩, List.mem_of_getElem? (i := 80) (by decide +kernel), List.mem_of_getElem? (i := 406) (by decide +kernel), List.mem_of_getElem? (i := 407) (by decide +kernel)⟩
theorem lw_p23 : lw_okq (⟨"NineLands$Sums", "changesInTurn", "(LNineLands$Book;)Z"⟩, 10) := ⟨⟨by decide +kernel, by decide +kernel⟩, List.mem_of_getElem? (i := 80) (by decide +kernel), List.mem_of_getElem? (i := 410) (by decide +kernel), List.mem_of_getElem? (i := 411) (by decide +kernel)⟩
theorem lw_p24 : lw_okq (⟨"NineLands", "paidFrom", "(III)I"⟩, 8) := ⟨⟨by decide +kernel, by decide +kernel⟩, List.mem_of_getElem? (i := 15) (by decide +kernel), List.mem_of_getElem? (i := 429) (by decide +kernel), List.mem_of_getElem? (i := 430) (by decide +kernel)⟩
theorem lw_p25 : lw_okq (⟨"NineLands", "paidLivingIn", "(I)I"⟩, 8) := ⟨⟨by decide +kernel, by decide +kernel⟩, List.mem_of_getElem? (i := 15) (by decide +kernel), List.mem_of_getElem? (i := 441) (by decide +kernel), List.mem_of_getElem? (i := 442) (by decide +kernel)⟩
theorem lw_p26 : lw_okq (⟨"NineLands$Book", "behind", "()I"⟩, 5) := ⟨⟨by decide +kernel, by decide +kernel⟩, List.mem_of_getElem? (i := 43) (by decide +kernel), List.mem_of_getElem? (i := 453) (by decide +kernel), List.mem_of_getElem? (i := 454) (by decide +kernel)⟩
theorem lw_p27 : lw_okq (⟨"NineLands$Sums", "addBench", "(LNineLands$Book;III)V"⟩, 10) := ⟨⟨by decide +kernel, by decide +kernel⟩, List.mem_of_getElem? (i := 80) (by decide +kernel), List.mem_of_getElem? (i := 458) (by decide +kernel), List.mem_of_getElem? (i := 459) (by decide +kernel)⟩
theorem lw_p28 : lw_okq (⟨"NineLands", "owedByAllIf", "(II)I"⟩, 8) := ⟨⟨by decide +kernel, by decide +kernel⟩, List.mem_of_getElem? (i := 15) (by decide +kernel), List.mem_of_getElem? (i := 467) (by decide +kernel), List.mem_of_getElem? (i := 468) (by decide +kernel)⟩
theorem lw_p29 : lw_okq (⟨"NineLands", "refuseSum", "(I)I"⟩, 8) := ⟨⟨by decide +kernel, by decide +kernel⟩, List.mem_of_getElem? (i := 15) (by decide +kernel), List.mem_of_getElem? (i := 475) (by decide +kernel), List.mem_of_getElem? (i := 476) (by decide +kernel)⟩
theorem lw_p30 : lw_okq (⟨"NineLands", "owedByAllWithYear", "(II)I"⟩, 8) := ⟨⟨by decide +kernel, by decide +kernel⟩, List.mem_of_getElem? (i := 15) (by decide +kernel), List.mem_of_getElem? (i := 480) (by decide +kernel), List.mem_of_getElem? (i := 481) (by decide +kernel)⟩
theorem lw_p31 : lw_okq (⟨"NineLands$Book", "copyFrom", "(LNineLands$Book;)V"⟩, 5) := ⟨⟨by decide +kernel, by decide +kernel⟩, List.mem_of_getElem? (i := 43) (by decide +kernel), List.mem_of_getElem? (i := 507) (by decide +kernel), List.mem_of_getElem? (i := 508) (by decide +kernel)⟩
def lw_privs_2 : List (MethodName × Nat) := [(⟨"NineLands$Sums", "payPut", "(LNineLands$Book;I)I"⟩, 10), (⟨"NineLands$Book", "holders", "(I)I"⟩, 5), (⟨"NineLands$Sums", "dueBy", "(LNineLands$Book;III)I"⟩, 10), (⟨"NineLands$Sums", "dueWhole", "([III)I"⟩, 10), (⟨"NineLands$Sums", "duePut", "([II)I"⟩, 10), (⟨"NineLands", "owedByAll", "()I"⟩, 8), (⟨"NineLands$Sums", "settle", "(LNineLands$Book;)I"⟩, 10), (⟨"NineLands$Sums", "changesInTurn", "(LNineLands$Book;)Z"⟩, 10), (⟨"NineLands", "paidFrom", "(III)I"⟩, 8), (⟨"NineLands", "paidLivingIn", "(I)I"⟩, 8), (⟨"NineLands$Book", "behind", "()I"⟩, 5), (⟨"NineLands$Sums", "addBench", "(LNineLands$Book;III)V"⟩, 10), (⟨"NineLands", "owedByAllIf", "(II)I"⟩, 8), (⟨"NineLands", "refuseSum", "(I)I"⟩, 8), (⟨"NineLands", "owedByAllWithYear", "(II)I"⟩, 8), (⟨"NineLands$Book", "copyFrom", "(LNineLands$Book;)V"⟩, 5)]
theorem lw_r2 : ∀ q ∈ lw_privs_2, lw_okq q := List.forall_mem_cons.mpr ⟨lw_p16, List.forall_mem_cons.mpr ⟨lw_p17, List.forall_mem_cons.mpr ⟨lw_p18, List.forall_mem_cons.mpr ⟨lw_p19, List.forall_mem_cons.mpr ⟨lw_p20, List.forall_mem_cons.mpr ⟨lw_p21, List.forall_mem_cons.mpr ⟨lw_p22, List.forall_mem_cons.mpr ⟨lw_p23, List.forall_mem_cons.mpr ⟨lw_p24, List.forall_mem_cons.mpr ⟨lw_p25, List.forall_mem_cons.mpr ⟨lw_p26, List.forall_mem_cons.mpr ⟨lw_p27, List.forall_mem_cons.mpr ⟨lw_p28, List.forall_mem_cons.mpr ⟨lw_p29, List.forall_mem_cons.mpr ⟨lw_p30, List.forall_mem_cons.mpr ⟨lw_p31, fun _ h => absurd h List.not_mem_nil⟩⟩⟩⟩⟩⟩⟩⟩⟩⟩⟩⟩⟩⟩⟩⟩
theorem lw_p32 : lw_okq (⟨"NineLands$Book", "shownSpells", "()I"⟩, 5) := ⟨⟨by decide +kernel, by decide +kernel⟩, List.mem_of_getElem? (i := 43) (by decide +kernel), List.mem_of_getElem? (i := 519) (by decide +kernel), List.mem_of_getElem? (i := 520) (by decide +kernel)⟩
theorem lw_p33 : lw_okq (⟨"NineLands$Book", "madePacts", "()I"⟩, 5) := ⟨⟨by decide +kernel, by decide +kernel⟩, List.mem_of_getElem? (i := 43) (by decide +kernel), List.mem_of_getElem? (i := 523) (by decide +kernel), List.mem_of_getElem? (i := 524) (by decide +kernel)⟩
theorem lw_p34 : lw_okq (⟨"NineLandsModel", "no", "(I)I"⟩, 30) := ⟨⟨by decide +kernel, by decide +kernel⟩, List.mem_of_getElem? (i := 527) (by decide +kernel), List.mem_of_getElem? (i := 631) (by decide +kernel), List.mem_of_getElem? (i := 632) (by decide +kernel)⟩
theorem lw_p35 : lw_okq (⟨"NineLandsModel", "reads", "()Z"⟩, 30) := ⟨⟨by decide +kernel, by decide +kernel⟩, List.mem_of_getElem? (i := 527) (by decide +kernel), List.mem_of_getElem? (i := 640) (by decide +kernel), List.mem_of_getElem? (i := 641) (by decide +kernel)⟩
theorem lw_p36 : lw_okq (⟨"NineLandsModel", "sign", "()I"⟩, 30) := ⟨⟨by decide +kernel, by decide +kernel⟩, List.mem_of_getElem? (i := 527) (by decide +kernel), List.mem_of_getElem? (i := 644) (by decide +kernel), List.mem_of_getElem? (i := 645) (by decide +kernel)⟩
theorem lw_p37 : lw_okq (⟨"NineLandsModel", "number", "()I"⟩, 30) := ⟨⟨by decide +kernel, by decide +kernel⟩, List.mem_of_getElem? (i := 527) (by decide +kernel), List.mem_of_getElem? (i := 651) (by decide +kernel), List.mem_of_getElem? (i := 652) (by decide +kernel)⟩
theorem lw_p38 : lw_okq (⟨"NineLandsModel", "takes", "(I)Z"⟩, 30) := ⟨⟨by decide +kernel, by decide +kernel⟩, List.mem_of_getElem? (i := 527) (by decide +kernel), List.mem_of_getElem? (i := 658) (by decide +kernel), List.mem_of_getElem? (i := 659) (by decide +kernel)⟩
theorem lw_p39 : lw_okq (⟨"NineLandsModel", "isSpell", "(I)Z"⟩, 30) := ⟨⟨by decide +kernel, by decide +kernel⟩, List.mem_of_getElem? (i := 527) (by decide +kernel), List.mem_of_getElem? (i := 666) (by decide +kernel), List.mem_of_getElem? (i := 667) (by decide +kernel)⟩
theorem lw_p40 : lw_okq (⟨"NineLandsModel", "findMonths", "(I)V"⟩, 30) := ⟨⟨by decide +kernel, by decide +kernel⟩, List.mem_of_getElem? (i := 527) (by decide +kernel), List.mem_of_getElem? (i := 690) (by decide +kernel), List.mem_of_getElem? (i := 691) (by decide +kernel)⟩
theorem lw_p41 : lw_okq (⟨"NineLandsModel", "lawOf", "(II)I"⟩, 30) := ⟨⟨by decide +kernel, by decide +kernel⟩, List.mem_of_getElem? (i := 527) (by decide +kernel), List.mem_of_getElem? (i := 694) (by decide +kernel), List.mem_of_getElem? (i := 695) (by decide +kernel)⟩
theorem lw_p42 : lw_okq (⟨"NineLandsModel", "sums", "(I)V"⟩, 30) := ⟨⟨by decide +kernel, by decide +kernel⟩, List.mem_of_getElem? (i := 527) (by decide +kernel), List.mem_of_getElem? (i := 698) (by decide +kernel), List.mem_of_getElem? (i := 699) (by decide +kernel)⟩
theorem lw_p43 : lw_okq (⟨"NineLandsModel", "putPay", "(II)I"⟩, 30) := ⟨⟨by decide +kernel, by decide +kernel⟩, List.mem_of_getElem? (i := 527) (by decide +kernel), List.mem_of_getElem? (i := 702) (by decide +kernel), List.mem_of_getElem? (i := 703) (by decide +kernel)⟩
theorem lw_p44 : lw_okq (⟨"NineLandsModel", "says", "(III)I"⟩, 30) := ⟨⟨by decide +kernel, by decide +kernel⟩, List.mem_of_getElem? (i := 527) (by decide +kernel), List.mem_of_getElem? (i := 718) (by decide +kernel), List.mem_of_getElem? (i := 719) (by decide +kernel)⟩
theorem lw_p45 : lw_okq (⟨"NineLandsModel", "isRight", "(II)Z"⟩, 30) := ⟨⟨by decide +kernel, by decide +kernel⟩, List.mem_of_getElem? (i := 527) (by decide +kernel), List.mem_of_getElem? (i := 722) (by decide +kernel), List.mem_of_getElem? (i := 723) (by decide +kernel)⟩
theorem lw_p46 : lw_okq (⟨"NineLandsModel", "byRate", "(II)I"⟩, 30) := ⟨⟨by decide +kernel, by decide +kernel⟩, List.mem_of_getElem? (i := 527) (by decide +kernel), List.mem_of_getElem? (i := 726) (by decide +kernel), List.mem_of_getElem? (i := 727) (by decide +kernel)⟩
theorem lw_p47 : lw_okq (⟨"NineLandsModel", "leastOf", "(I)I"⟩, 30) := ⟨⟨by decide +kernel, by decide +kernel⟩, List.mem_of_getElem? (i := 527) (by decide +kernel), List.mem_of_getElem? (i := 730) (by decide +kernel), List.mem_of_getElem? (i := 731) (by decide +kernel)⟩
def lw_privs_3 : List (MethodName × Nat) := [(⟨"NineLands$Book", "shownSpells", "()I"⟩, 5), (⟨"NineLands$Book", "madePacts", "()I"⟩, 5), (⟨"NineLandsModel", "no", "(I)I"⟩, 30), (⟨"NineLandsModel", "reads", "()Z"⟩, 30), (⟨"NineLandsModel", "sign", "()I"⟩, 30), (⟨"NineLandsModel", "number", "()I"⟩, 30), (⟨"NineLandsModel", "takes", "(I)Z"⟩, 30), (⟨"NineLandsModel", "isSpell", "(I)Z"⟩, 30), (⟨"NineLandsModel", "findMonths", "(I)V"⟩, 30), (⟨"NineLandsModel", "lawOf", "(II)I"⟩, 30), (⟨"NineLandsModel", "sums", "(I)V"⟩, 30), (⟨"NineLandsModel", "putPay", "(II)I"⟩, 30), (⟨"NineLandsModel", "says", "(III)I"⟩, 30), (⟨"NineLandsModel", "isRight", "(II)Z"⟩, 30), (⟨"NineLandsModel", "byRate", "(II)I"⟩, 30), (⟨"NineLandsModel", "leastOf", "(I)I"⟩, 30)]
theorem lw_r3 : ∀ q ∈ lw_privs_3, lw_okq q := List.forall_mem_cons.mpr ⟨lw_p32, List.forall_mem_cons.mpr ⟨lw_p33, List.forall_mem_cons.mpr ⟨lw_p34, List.forall_mem_cons.mpr ⟨lw_p35, List.forall_mem_cons.mpr ⟨lw_p36, List.forall_mem_cons.mpr ⟨lw_p37, List.forall_mem_cons.mpr ⟨lw_p38, List.forall_mem_cons.mpr ⟨lw_p39, List.forall_mem_cons.mpr ⟨lw_p40, List.forall_mem_cons.mpr ⟨lw_p41, List.forall_mem_cons.mpr ⟨lw_p42, List.forall_mem_cons.mpr ⟨lw_p43, List.forall_mem_cons.mpr ⟨lw_p44, List.forall_mem_cons.mpr ⟨lw_p45, List.forall_mem_cons.mpr ⟨lw_p46, List.forall_mem_cons.mpr ⟨lw_p47, fun _ h => absurd h List.not_mem_nil⟩⟩⟩⟩⟩⟩⟩⟩⟩⟩⟩⟩⟩⟩⟩⟩
theorem lw_p48 : lw_okq (⟨"NineLandsModel", "putOf", "(I)I"⟩, 30) := ⟨⟨by decide +kernel, by decide +kernel⟩, List.mem_of_getElem? (i := 527) (by decide +kernel), List.mem_of_getElem? (i := 737) (by decide +kernel), List.mem_of_getElem? (i := 738) (by decide +kernel)⟩
theorem lw_p49 : lw_okq (⟨"NineLandsModel", "finds", "(I)V"⟩, 30) := ⟨⟨by decide +kernel, by decide +kernel⟩, List.mem_of_getElem? (i := 527) (by decide +kernel), List.mem_of_getElem? (i := 749) (by decide +kernel), List.mem_of_getElem? (i := 750) (by decide +kernel)⟩
theorem lw_p50 : lw_okq (⟨"NineLandsModel", "sumOf", "([I)I"⟩, 30) := ⟨⟨by decide +kernel, by decide +kernel⟩, List.mem_of_getElem? (i := 527) (by decide +kernel), List.mem_of_getElem? (i := 753) (by decide +kernel), List.mem_of_getElem? (i := 754) (by decide +kernel)⟩
theorem lw_p51 : lw_okq (⟨"NineLandsModel", "paid", "(III)I"⟩, 30) := ⟨⟨by decide +kernel, by decide +kernel⟩, List.mem_of_getElem? (i := 527) (by decide +kernel), List.mem_of_getElem? (i := 769) (by decide +kernel), List.mem_of_getElem? (i := 770) (by decide +kernel)⟩
theorem lw_p52 : lw_okq (⟨"NineLandsModel", "livingIn", "(I)I"⟩, 30) := ⟨⟨by decide +kernel, by decide +kernel⟩, List.mem_of_getElem? (i := 527) (by decide +kernel), List.mem_of_getElem? (i := 781) (by decide +kernel), List.mem_of_getElem? (i := 782) (by decide +kernel)⟩
theorem lw_p53 : lw_okq (⟨"NineLandsModel", "behind", "()I"⟩, 30) := ⟨⟨by decide +kernel, by decide +kernel⟩, List.mem_of_getElem? (i := 527) (by decide +kernel), List.mem_of_getElem? (i := 793) (by decide +kernel), List.mem_of_getElem? (i := 794) (by decide +kernel)⟩
theorem lw_p54 : lw_okq (⟨"NineLandsModel", "findsWith", "(IIII)V"⟩, 30) := ⟨⟨by decide +kernel, by decide +kernel⟩, List.mem_of_getElem? (i := 527) (by decide +kernel), List.mem_of_getElem? (i := 797) (by decide +kernel), List.mem_of_getElem? (i := 798) (by decide +kernel)⟩
theorem lw_p55 : lw_okq (⟨"NineLandsModel", "less", "(I)I"⟩, 30) := ⟨⟨by decide +kernel, by decide +kernel⟩, List.mem_of_getElem? (i := 527) (by decide +kernel), List.mem_of_getElem? (i := 809) (by decide +kernel), List.mem_of_getElem? (i := 810) (by decide +kernel)⟩
theorem lw_p56 : lw_okq (⟨"NineLandsModel", "passesAll", "()V"⟩, 30) := ⟨⟨by decide +kernel, by decide +kernel⟩, List.mem_of_getElem? (i := 527) (by decide +kernel), List.mem_of_getElem? (i := 830) (by decide +kernel), List.mem_of_getElem? (i := 831) (by decide +kernel)⟩
theorem lw_p57 : lw_okq (⟨"NineLandsModel", "passes", "([I)V"⟩, 30) := ⟨⟨by decide +kernel, by decide +kernel⟩, List.mem_of_getElem? (i := 527) (by decide +kernel), List.mem_of_getElem? (i := 834) (by decide +kernel), List.mem_of_getElem? (i := 835) (by decide +kernel)⟩
def lw_privs_4 : List (MethodName × Nat) := [(⟨"NineLandsModel", "putOf", "(I)I"⟩, 30), (⟨"NineLandsModel", "finds", "(I)V"⟩, 30), (⟨"NineLandsModel", "sumOf", "([I)I"⟩, 30), (⟨"NineLandsModel", "paid", "(III)I"⟩, 30), (⟨"NineLandsModel", "livingIn", "(I)I"⟩, 30), (⟨"NineLandsModel", "behind", "()I"⟩, 30), (⟨"NineLandsModel", "findsWith", "(IIII)V"⟩, 30), (⟨"NineLandsModel", "less", "(I)I"⟩, 30), (⟨"NineLandsModel", "passesAll", "()V"⟩, 30), (⟨"NineLandsModel", "passes", "([I)V"⟩, 30)]
theorem lw_r4 : ∀ q ∈ lw_privs_4, lw_okq q := List.forall_mem_cons.mpr ⟨lw_p48, List.forall_mem_cons.mpr ⟨lw_p49, List.forall_mem_cons.mpr ⟨lw_p50, List.forall_mem_cons.mpr ⟨lw_p51, List.forall_mem_cons.mpr ⟨lw_p52, List.forall_mem_cons.mpr ⟨lw_p53, List.forall_mem_cons.mpr ⟨lw_p54, List.forall_mem_cons.mpr ⟨lw_p55, List.forall_mem_cons.mpr ⟨lw_p56, List.forall_mem_cons.mpr ⟨lw_p57, fun _ h => absurd h List.not_mem_nil⟩⟩⟩⟩⟩⟩⟩⟩⟩⟩
def lw_privs : List (MethodName × Nat) := lw_privs_1 ++ (lw_privs_2 ++ (lw_privs_3 ++ (lw_privs_4)))
def lw_tbl : List Cond := k2_sels lw_privs ++ tables_1
theorem lw_privs_ok : ∀ q ∈ lw_privs, lw_okq q := by
  show ∀ q ∈ lw_privs_1 ++ (lw_privs_2 ++ (lw_privs_3 ++ (lw_privs_4))), lw_okq q
  exact List.forall_mem_append.mpr ⟨lw_r1, List.forall_mem_append.mpr ⟨lw_r2, List.forall_mem_append.mpr ⟨lw_r3, lw_r4⟩⟩⟩

def RX0 : String := "NineLands$Book"
def TX0 : u_T := fun k => match k with
  | 0 => ("NineLands$Book", "spells", "[[I", true)
  | 1 => ("NineLands$Book", "laws", "[[I", true)
  | 2 => ("NineLands$Book", "kinds", "[I", true)
  | 3 => ("NineLands$Book", "pacts", "[[I", true)
  | _ => ("NineLands$Book", "written", "I", false)
def tyX0 : Nat → FieldType := fun k => match k with
  | 0 => .array (.array .int)
  | 1 => .array (.array .int)
  | 2 => .array .int
  | 3 => .array (.array .int)
  | _ => .int
abbrev wsX00 : List Cond := u_ws RX0 TX0 5
theorem nmX0 : ∀ a, a < 5 → ∀ b, b < 5 → a ≠ b → (TX0 a).2.1 ≠ (TX0 b).2.1 := by decide +kernel
theorem tyX0_ok : ∀ k, k < 5 → parseFieldDescriptor (TX0 k).2.2.1 = some (tyX0 k) := by decide +kernel
abbrev cX0_init : ByteArray := prog_2_method_1_code
def yX0_init : MethodName := ⟨RX0, "<init>", "()V"⟩
abbrev cX0_copyFrom : ByteArray := prog_2_method_2_code
def yX0_copyFrom : MethodName := ⟨RX0, "copyFrom", "(LNineLands$Book;)V"⟩
abbrev cX0_shownSpells : ByteArray := prog_2_method_3_code
def yX0_shownSpells : MethodName := ⟨RX0, "shownSpells", "()I"⟩
abbrev cX0_madePacts : ByteArray := prog_2_method_4_code
def yX0_madePacts : MethodName := ⟨RX0, "madePacts", "()I"⟩
abbrev cX0_behind : ByteArray := prog_2_method_5_code
def yX0_behind : MethodName := ⟨RX0, "behind", "()I"⟩
abbrev cX0_nextChange : ByteArray := prog_2_method_6_code
def yX0_nextChange : MethodName := ⟨RX0, "nextChange", "(I)I"⟩
abbrev cX0_isHeld : ByteArray := prog_2_method_7_code
def yX0_isHeld : MethodName := ⟨RX0, "isHeld", "(II)Z"⟩
abbrev cX0_holders : ByteArray := prog_2_method_8_code
def yX0_holders : MethodName := ⟨RX0, "holders", "(I)I"⟩
abbrev cX0_workCounts : ByteArray := prog_2_method_9_code
def yX0_workCounts : MethodName := ⟨RX0, "workCounts", "(II)Z"⟩
abbrev cX0_payAt : ByteArray := prog_2_method_10_code
def yX0_payAt : MethodName := ⟨RX0, "payAt", "(II)I"⟩
def RX1 : String := "NineLands$Sums"
def TX1 : u_T := fun k => match k with
  | 0 => ("NineLands$Sums", "payHere", "[I", true)
  | 1 => ("NineLands$Sums", "months", "[I", true)
  | 2 => ("NineLands$Sums", "pays", "[I", true)
  | 3 => ("NineLands$Sums", "putMonths", "[I", true)
  | 4 => ("NineLands$Sums", "putPays", "[I", true)
  | 5 => ("NineLands$Sums", "whole", "[I", true)
  | 6 => ("NineLands$Sums", "owes", "[I", true)
  | 7 => ("NineLands$Sums", "overMonths", "I", false)
  | 8 => ("NineLands$Sums", "firstOver", "I", false)
  | _ => ("NineLands$Sums", "isAtRest", "Z", false)
def tyX1 : Nat → FieldType := fun k => match k with
  | 0 => .array .int
  | 1 => .array .int
  | 2 => .array .int
  | 3 => .array .int
  | 4 => .array .int
  | 5 => .array .int
  | 6 => .array .int
  | 7 => .int
  | 8 => .int
  | _ => .boolean
abbrev wsX10 : List Cond := u_ws RX1 TX1 10
theorem nmX1 : ∀ a, a < 10 → ∀ b, b < 10 → a ≠ b → (TX1 a).2.1 ≠ (TX1 b).2.1 := by decide +kernel
theorem tyX1_ok : ∀ k, k < 10 → parseFieldDescriptor (TX1 k).2.2.1 = some (tyX1 k) := by decide +kernel
abbrev cX1_init : ByteArray := prog_3_method_1_code
def yX1_init : MethodName := ⟨RX1, "<init>", "()V"⟩
abbrev cX1_reckon : ByteArray := prog_3_method_2_code
def yX1_reckon : MethodName := ⟨RX1, "reckon", "(LNineLands$Book;)V"⟩
abbrev cX1_clear : ByteArray := prog_3_method_3_code
def yX1_clear : MethodName := ⟨RX1, "clear", "()V"⟩
abbrev cX1_addStretch : ByteArray := prog_3_method_4_code
def yX1_addStretch : MethodName := ⟨RX1, "addStretch", "(LNineLands$Book;II)V"⟩
abbrev cX1_addOwn : ByteArray := prog_3_method_5_code
def yX1_addOwn : MethodName := ⟨RX1, "addOwn", "(II)V"⟩
abbrev cX1_addPut : ByteArray := prog_3_method_6_code
def yX1_addPut : MethodName := ⟨RX1, "addPut", "(LNineLands$Book;II)V"⟩
abbrev cX1_payPut : ByteArray := prog_3_method_7_code
def yX1_payPut : MethodName := ⟨RX1, "payPut", "(LNineLands$Book;I)I"⟩
abbrev cX1_addBench : ByteArray := prog_3_method_8_code
def yX1_addBench : MethodName := ⟨RX1, "addBench", "(LNineLands$Book;III)V"⟩
abbrev cX1_settle : ByteArray := prog_3_method_9_code
def yX1_settle : MethodName := ⟨RX1, "settle", "(LNineLands$Book;)I"⟩
abbrev cX1_changesInTurn : ByteArray := prog_3_method_10_code
def yX1_changesInTurn : MethodName := ⟨RX1, "changesInTurn", "(LNineLands$Book;)Z"⟩
abbrev cX1_dueBy : ByteArray := prog_3_method_11_code
def yX1_dueBy : MethodName := ⟨RX1, "dueBy", "(LNineLands$Book;III)I"⟩
abbrev cX1_dueWhole : ByteArray := prog_3_method_12_code
def yX1_dueWhole : MethodName := ⟨RX1, "dueWhole", "([III)I"⟩
abbrev cX1_duePut : ByteArray := prog_3_method_13_code
def yX1_duePut : MethodName := ⟨RX1, "duePut", "([II)I"⟩
abbrev cX1_hasRight : ByteArray := prog_3_method_14_code
def yX1_hasRight : MethodName := ⟨RX1, "hasRight", "([II)Z"⟩
abbrev cX1_byRate : ByteArray := prog_3_method_15_code
def yX1_byRate : MethodName := ⟨RX1, "byRate", "([II)I"⟩
abbrev cX1_lessOthers : ByteArray := prog_3_method_16_code
def yX1_lessOthers : MethodName := ⟨RX1, "lessOthers", "([IIII)I"⟩
def RX2 : String := "NineLands$Tape"
def TX2 : u_T := fun k => match k with
  | 0 => ("NineLands$Tape", "bytes", "[I", true)
  | 1 => ("NineLands$Tape", "length", "I", false)
  | _ => ("NineLands$Tape", "place", "I", false)
def tyX2 : Nat → FieldType := fun k => match k with
  | 0 => .array .int
  | 1 => .int
  | _ => .int
abbrev wsX20 : List Cond := u_ws RX2 TX2 3
theorem nmX2 : ∀ a, a < 3 → ∀ b, b < 3 → a ≠ b → (TX2 a).2.1 ≠ (TX2 b).2.1 := by decide +kernel
theorem tyX2_ok : ∀ k, k < 3 → parseFieldDescriptor (TX2 k).2.2.1 = some (tyX2 k) := by decide +kernel
abbrev cX2_init : ByteArray := prog_4_method_1_code
def yX2_init : MethodName := ⟨RX2, "<init>", "()V"⟩
abbrev cX2_readInto : ByteArray := prog_4_method_2_code
def yX2_readInto : MethodName := ⟨RX2, "readInto", "([I)Z"⟩
abbrev cX2_readChoice : ByteArray := prog_4_method_3_code
def yX2_readChoice : MethodName := ⟨RX2, "readChoice", "([IILjava/lang/String;)Z"⟩
abbrev cX2_readSign : ByteArray := prog_4_method_4_code
def yX2_readSign : MethodName := ⟨RX2, "readSign", "(C)Z"⟩
abbrev cX2_readNumber : ByteArray := prog_4_method_5_code
def yX2_readNumber : MethodName := ⟨RX2, "readNumber", "([II)Z"⟩
abbrev cX2_readTill : ByteArray := prog_4_method_6_code
def yX2_readTill : MethodName := ⟨RX2, "readTill", "([I)Z"⟩
def RX3 : String := "NineLands"
def TX3 : u_T := fun k => match k with
  | 0 => ("NineLands", "tape", "LNineLands$Tape;", true)
  | 1 => ("NineLands", "book", "LNineLands$Book;", true)
  | 2 => ("NineLands", "kept", "LNineLands$Book;", true)
  | 3 => ("NineLands", "sums", "LNineLands$Sums;", true)
  | 4 => ("NineLands", "row", "[I", true)
  | 5 => ("NineLands", "refused", "[I", true)
  | 6 => ("NineLands", "rowLength", "I", false)
  | _ => ("NineLands", "hasKept", "Z", false)
def tyX3 : Nat → FieldType := fun k => match k with
  | 0 => .object "NineLands$Tape"
  | 1 => .object "NineLands$Book"
  | 2 => .object "NineLands$Book"
  | 3 => .object "NineLands$Sums"
  | 4 => .array .int
  | 5 => .array .int
  | 6 => .int
  | _ => .boolean
abbrev wsX30 : List Cond := u_ws RX3 TX3 8
theorem nmX3 : ∀ a, a < 8 → ∀ b, b < 8 → a ≠ b → (TX3 a).2.1 ≠ (TX3 b).2.1 := by decide +kernel
theorem tyX3_ok : ∀ k, k < 8 → parseFieldDescriptor (TX3 k).2.2.1 = some (tyX3 k) := by decide +kernel
abbrev cX3_init : ByteArray := prog_1_method_1_code
def yX3_init : MethodName := ⟨RX3, "<init>", "()V"⟩
abbrev cX3_feed : ByteArray := prog_1_method_2_code
def yX3_feed : MethodName := ⟨RX3, "feed", "(IJ)I"⟩
abbrev cX3_spell : ByteArray := prog_1_method_3_code
def yX3_spell : MethodName := ⟨RX3, "spell", "()I"⟩
abbrev cX3_spellOf : ByteArray := prog_1_method_4_code
def yX3_spellOf : MethodName := ⟨RX3, "spellOf", "(II)I"⟩
abbrev cX3_show : ByteArray := prog_1_method_5_code
def yX3_show : MethodName := ⟨RX3, "show", "(IZ)I"⟩
abbrev cX3_law : ByteArray := prog_1_method_6_code
def yX3_law : MethodName := ⟨RX3, "law", "(III)I"⟩
abbrev cX3_kind : ByteArray := prog_1_method_7_code
def yX3_kind : MethodName := ⟨RX3, "kind", "(II)I"⟩
abbrev cX3_pact : ByteArray := prog_1_method_8_code
def yX3_pact : MethodName := ⟨RX3, "pact", "(IIZ)I"⟩
abbrev cX3_counts : ByteArray := prog_1_method_9_code
def yX3_counts : MethodName := ⟨RX3, "counts", "(II)I"⟩
abbrev cX3_month : ByteArray := prog_1_method_10_code
def yX3_month : MethodName := ⟨RX3, "month", "(II)I"⟩
abbrev cX3_over : ByteArray := prog_1_method_11_code
def yX3_over : MethodName := ⟨RX3, "over", "(I)I"⟩
abbrev cX3_alone : ByteArray := prog_1_method_12_code
def yX3_alone : MethodName := ⟨RX3, "alone", "(II)I"⟩
abbrev cX3_lacks : ByteArray := prog_1_method_13_code
def yX3_lacks : MethodName := ⟨RX3, "lacks", "(IZ)I"⟩
abbrev cX3_owed : ByteArray := prog_1_method_14_code
def yX3_owed : MethodName := ⟨RX3, "owed", "(I)I"⟩
abbrev cX3_rests : ByteArray := prog_1_method_15_code
def yX3_rests : MethodName := ⟨RX3, "rests", "()I"⟩
abbrev cX3_all : ByteArray := prog_1_method_16_code
def yX3_all : MethodName := ⟨RX3, "all", "()I"⟩
abbrev cX3_asks : ByteArray := prog_1_method_17_code
def yX3_asks : MethodName := ⟨RX3, "asks", "(III)I"⟩
abbrev cX3_when : ByteArray := prog_1_method_18_code
def yX3_when : MethodName := ⟨RX3, "when", "(II)I"⟩
abbrev cX3_lives : ByteArray := prog_1_method_19_code
def yX3_lives : MethodName := ⟨RX3, "lives", "(I)I"⟩
abbrev cX3_where : ByteArray := prog_1_method_20_code
def yX3_where : MethodName := ⟨RX3, "where", "()I"⟩
abbrev cX3_edge : ByteArray := prog_1_method_21_code
def yX3_edge : MethodName := ⟨RX3, "edge", "(II)I"⟩
abbrev cX3_hangs : ByteArray := prog_1_method_22_code
def yX3_hangs : MethodName := ⟨RX3, "hangs", "()I"⟩
abbrev cX3_year : ByteArray := prog_1_method_23_code
def yX3_year : MethodName := ⟨RX3, "year", "(II)I"⟩
abbrev cX3_proof : ByteArray := prog_1_method_24_code
def yX3_proof : MethodName := ⟨RX3, "proof", "(I)I"⟩
abbrev cX3_put : ByteArray := prog_1_method_25_code
def yX3_put : MethodName := ⟨RX3, "put", "(I)I"⟩
abbrev cX3_judge : ByteArray := prog_1_method_26_code
def yX3_judge : MethodName := ⟨RX3, "judge", "()I"⟩
abbrev cX3_image : ByteArray := prog_1_method_27_code
def yX3_image : MethodName := ⟨RX3, "image", "()I"⟩
abbrev cX3_on : ByteArray := prog_1_method_28_code
def yX3_on : MethodName := ⟨RX3, "on", "()I"⟩
abbrev cX3_count : ByteArray := prog_1_method_29_code
def yX3_count : MethodName := ⟨RX3, "count", "(I)I"⟩
abbrev cX3_refuse : ByteArray := prog_1_method_30_code
def yX3_refuse : MethodName := ⟨RX3, "refuse", "(I)I"⟩
abbrev cX3_refuseSum : ByteArray := prog_1_method_31_code
def yX3_refuseSum : MethodName := ⟨RX3, "refuseSum", "(I)I"⟩
abbrev cX3_isSpell : ByteArray := prog_1_method_32_code
def yX3_isSpell : MethodName := ⟨RX3, "isSpell", "(I)Z"⟩
abbrev cX3_isLand : ByteArray := prog_1_method_33_code
def yX3_isLand : MethodName := ⟨RX3, "isLand", "(I)Z"⟩
abbrev cX3_isKind : ByteArray := prog_1_method_34_code
def yX3_isKind : MethodName := ⟨RX3, "isKind", "(I)Z"⟩
abbrev cX3_owedByAll : ByteArray := prog_1_method_35_code
def yX3_owedByAll : MethodName := ⟨RX3, "owedByAll", "()I"⟩
abbrev cX3_owedByAllIf : ByteArray := prog_1_method_36_code
def yX3_owedByAllIf : MethodName := ⟨RX3, "owedByAllIf", "(II)I"⟩
abbrev cX3_owedByAllWithYear : ByteArray := prog_1_method_37_code
def yX3_owedByAllWithYear : MethodName := ⟨RX3, "owedByAllWithYear", "(II)I"⟩
abbrev cX3_paidFrom : ByteArray := prog_1_method_38_code
def yX3_paidFrom : MethodName := ⟨RX3, "paidFrom", "(III)I"⟩
abbrev cX3_paidLivingIn : ByteArray := prog_1_method_39_code
def yX3_paidLivingIn : MethodName := ⟨RX3, "paidLivingIn", "(I)I"⟩
abbrev cX3_sumOf : ByteArray := prog_1_method_40_code
def yX3_sumOf : MethodName := ⟨RX3, "sumOf", "([I)I"⟩
def RX4 : String := "NineLandsModel"
def TX4 : u_T := fun k => match k with
  | 0 => ("NineLandsModel", "refused", "[I", true)
  | 1 => ("NineLandsModel", "tape", "[I", true)
  | 2 => ("NineLandsModel", "landOf", "[I", true)
  | 3 => ("NineLandsModel", "work", "[I", true)
  | 4 => ("NineLandsModel", "from", "[I", true)
  | 5 => ("NineLandsModel", "till", "[I", true)
  | 6 => ("NineLandsModel", "pay", "[I", true)
  | 7 => ("NineLandsModel", "paidIn", "[I", true)
  | 8 => ("NineLandsModel", "shown", "[I", true)
  | 9 => ("NineLandsModel", "law", "[I", true)
  | 10 => ("NineLandsModel", "kind", "[I", true)
  | 11 => ("NineLandsModel", "pact", "[I", true)
  | 12 => ("NineLandsModel", "top", "[I", true)
  | 13 => ("NineLandsModel", "taped", "I", false)
  | 14 => ("NineLandsModel", "at", "I", false)
  | 15 => ("NineLandsModel", "spells", "I", false)
  | 16 => ("NineLandsModel", "without", "I", false)
  | 17 => ("NineLandsModel", "month", "[I", true)
  | 18 => ("NineLandsModel", "many", "[I", true)
  | 19 => ("NineLandsModel", "pays", "[I", true)
  | 20 => ("NineLandsModel", "putMany", "[I", true)
  | 21 => ("NineLandsModel", "putPays", "[I", true)
  | 22 => ("NineLandsModel", "owes", "[I", true)
  | 23 => ("NineLandsModel", "isResting", "Z", false)
  | 24 => ("NineLandsModel", "row", "[I", true)
  | 25 => ("NineLandsModel", "rowMany", "I", false)
  | 26 => ("NineLandsModel", "kept", "[I", true)
  | 27 => ("NineLandsModel", "hasImage", "Z", false)
  | 28 => ("NineLandsModel", "isKeeping", "Z", false)
  | _ => ("NineLandsModel", "cursor", "I", false)
def tyX4 : Nat → FieldType := fun k => match k with
  | 0 => .array .int
  | 1 => .array .int
  | 2 => .array .int
  | 3 => .array .int
  | 4 => .array .int
  | 5 => .array .int
  | 6 => .array .int
  | 7 => .array .int
  | 8 => .array .int
  | 9 => .array .int
  | 10 => .array .int
  | 11 => .array .int
  | 12 => .array .int
  | 13 => .int
  | 14 => .int
  | 15 => .int
  | 16 => .int
  | 17 => .array .int
  | 18 => .array .int
  | 19 => .array .int
  | 20 => .array .int
  | 21 => .array .int
  | 22 => .array .int
  | 23 => .boolean
  | 24 => .array .int
  | 25 => .int
  | 26 => .array .int
  | 27 => .boolean
  | 28 => .boolean
  | _ => .int
abbrev wsX40 : List Cond := u_ws RX4 TX4 30
theorem nmX4 : ∀ a, a < 30 → ∀ b, b < 30 → a ≠ b → (TX4 a).2.1 ≠ (TX4 b).2.1 := by decide +kernel
theorem tyX4_ok : ∀ k, k < 30 → parseFieldDescriptor (TX4 k).2.2.1 = some (tyX4 k) := by decide +kernel
abbrev cX4_init : ByteArray := prog_6_method_1_code
def yX4_init : MethodName := ⟨RX4, "<init>", "()V"⟩
abbrev cX4_no : ByteArray := prog_6_method_2_code
def yX4_no : MethodName := ⟨RX4, "no", "(I)I"⟩
abbrev cX4_less : ByteArray := prog_6_method_3_code
def yX4_less : MethodName := ⟨RX4, "less", "(I)I"⟩
abbrev cX4_isIn : ByteArray := prog_6_method_4_code
def yX4_isIn : MethodName := ⟨RX4, "isIn", "(III)Z"⟩
abbrev cX4_out : ByteArray := prog_6_method_5_code
def yX4_out : MethodName := ⟨RX4, "out", "(III)I"⟩
abbrev cX4_isLand : ByteArray := prog_6_method_6_code
def yX4_isLand : MethodName := ⟨RX4, "isLand", "(I)Z"⟩
abbrev cX4_feed : ByteArray := prog_6_method_7_code
def yX4_feed : MethodName := ⟨RX4, "feed", "(IJ)I"⟩
abbrev cX4_sign : ByteArray := prog_6_method_8_code
def yX4_sign : MethodName := ⟨RX4, "sign", "()I"⟩
abbrev cX4_takes : ByteArray := prog_6_method_9_code
def yX4_takes : MethodName := ⟨RX4, "takes", "(I)Z"⟩
abbrev cX4_number : ByteArray := prog_6_method_10_code
def yX4_number : MethodName := ⟨RX4, "number", "()I"⟩
abbrev cX4_reads : ByteArray := prog_6_method_11_code
def yX4_reads : MethodName := ⟨RX4, "reads", "()Z"⟩
abbrev cX4_spell : ByteArray := prog_6_method_12_code
def yX4_spell : MethodName := ⟨RX4, "spell", "()I"⟩
abbrev cX4_isSpell : ByteArray := prog_6_method_13_code
def yX4_isSpell : MethodName := ⟨RX4, "isSpell", "(I)Z"⟩
abbrev cX4_spellOf : ByteArray := prog_6_method_14_code
def yX4_spellOf : MethodName := ⟨RX4, "spellOf", "(II)I"⟩
abbrev cX4_show : ByteArray := prog_6_method_15_code
def yX4_show : MethodName := ⟨RX4, "show", "(IZ)I"⟩
abbrev cX4_law : ByteArray := prog_6_method_16_code
def yX4_law : MethodName := ⟨RX4, "law", "(III)I"⟩
abbrev cX4_lawOf : ByteArray := prog_6_method_17_code
def yX4_lawOf : MethodName := ⟨RX4, "lawOf", "(II)I"⟩
abbrev cX4_kind : ByteArray := prog_6_method_18_code
def yX4_kind : MethodName := ⟨RX4, "kind", "(II)I"⟩
abbrev cX4_pact : ByteArray := prog_6_method_19_code
def yX4_pact : MethodName := ⟨RX4, "pact", "(IIZ)I"⟩
abbrev cX4_findMonths : ByteArray := prog_6_method_20_code
def yX4_findMonths : MethodName := ⟨RX4, "findMonths", "(I)V"⟩
abbrev cX4_putPay : ByteArray := prog_6_method_21_code
def yX4_putPay : MethodName := ⟨RX4, "putPay", "(II)I"⟩
abbrev cX4_sums : ByteArray := prog_6_method_22_code
def yX4_sums : MethodName := ⟨RX4, "sums", "(I)V"⟩
abbrev cX4_counts : ByteArray := prog_6_method_23_code
def yX4_counts : MethodName := ⟨RX4, "counts", "(II)I"⟩
abbrev cX4_month : ByteArray := prog_6_method_24_code
def yX4_month : MethodName := ⟨RX4, "month", "(II)I"⟩
abbrev cX4_over : ByteArray := prog_6_method_25_code
def yX4_over : MethodName := ⟨RX4, "over", "(I)I"⟩
abbrev cX4_greater : ByteArray := prog_6_method_26_code
def yX4_greater : MethodName := ⟨RX4, "greater", "(II)I"⟩
abbrev cX4_isRight : ByteArray := prog_6_method_27_code
def yX4_isRight : MethodName := ⟨RX4, "isRight", "(II)Z"⟩
abbrev cX4_byRate : ByteArray := prog_6_method_28_code
def yX4_byRate : MethodName := ⟨RX4, "byRate", "(II)I"⟩
abbrev cX4_leastOf : ByteArray := prog_6_method_29_code
def yX4_leastOf : MethodName := ⟨RX4, "leastOf", "(I)I"⟩
abbrev cX4_putOf : ByteArray := prog_6_method_30_code
def yX4_putOf : MethodName := ⟨RX4, "putOf", "(I)I"⟩
abbrev cX4_says : ByteArray := prog_6_method_31_code
def yX4_says : MethodName := ⟨RX4, "says", "(III)I"⟩
abbrev cX4_sumOf : ByteArray := prog_6_method_32_code
def yX4_sumOf : MethodName := ⟨RX4, "sumOf", "([I)I"⟩
abbrev cX4_finds : ByteArray := prog_6_method_33_code
def yX4_finds : MethodName := ⟨RX4, "finds", "(I)V"⟩
abbrev cX4_alone : ByteArray := prog_6_method_34_code
def yX4_alone : MethodName := ⟨RX4, "alone", "(II)I"⟩
abbrev cX4_lacks : ByteArray := prog_6_method_35_code
def yX4_lacks : MethodName := ⟨RX4, "lacks", "(IZ)I"⟩
abbrev cX4_owed : ByteArray := prog_6_method_36_code
def yX4_owed : MethodName := ⟨RX4, "owed", "(I)I"⟩
abbrev cX4_rests : ByteArray := prog_6_method_37_code
def yX4_rests : MethodName := ⟨RX4, "rests", "()I"⟩
abbrev cX4_all : ByteArray := prog_6_method_38_code
def yX4_all : MethodName := ⟨RX4, "all", "()I"⟩
abbrev cX4_paid : ByteArray := prog_6_method_39_code
def yX4_paid : MethodName := ⟨RX4, "paid", "(III)I"⟩
abbrev cX4_asks : ByteArray := prog_6_method_40_code
def yX4_asks : MethodName := ⟨RX4, "asks", "(III)I"⟩
abbrev cX4_when : ByteArray := prog_6_method_41_code
def yX4_when : MethodName := ⟨RX4, "when", "(II)I"⟩
abbrev cX4_livingIn : ByteArray := prog_6_method_42_code
def yX4_livingIn : MethodName := ⟨RX4, "livingIn", "(I)I"⟩
abbrev cX4_lives : ByteArray := prog_6_method_43_code
def yX4_lives : MethodName := ⟨RX4, "lives", "(I)I"⟩
abbrev cX4_where : ByteArray := prog_6_method_44_code
def yX4_where : MethodName := ⟨RX4, "where", "()I"⟩
abbrev cX4_behind : ByteArray := prog_6_method_45_code
def yX4_behind : MethodName := ⟨RX4, "behind", "()I"⟩
abbrev cX4_findsWith : ByteArray := prog_6_method_46_code
def yX4_findsWith : MethodName := ⟨RX4, "findsWith", "(IIII)V"⟩
abbrev cX4_edge : ByteArray := prog_6_method_47_code
def yX4_edge : MethodName := ⟨RX4, "edge", "(II)I"⟩
abbrev cX4_hangs : ByteArray := prog_6_method_48_code
def yX4_hangs : MethodName := ⟨RX4, "hangs", "()I"⟩
abbrev cX4_year : ByteArray := prog_6_method_49_code
def yX4_year : MethodName := ⟨RX4, "year", "(II)I"⟩
abbrev cX4_proof : ByteArray := prog_6_method_50_code
def yX4_proof : MethodName := ⟨RX4, "proof", "(I)I"⟩
abbrev cX4_put : ByteArray := prog_6_method_51_code
def yX4_put : MethodName := ⟨RX4, "put", "(I)I"⟩
abbrev cX4_judge : ByteArray := prog_6_method_52_code
def yX4_judge : MethodName := ⟨RX4, "judge", "()I"⟩
abbrev cX4_passes : ByteArray := prog_6_method_53_code
def yX4_passes : MethodName := ⟨RX4, "passes", "([I)V"⟩
abbrev cX4_passesAll : ByteArray := prog_6_method_54_code
def yX4_passesAll : MethodName := ⟨RX4, "passesAll", "()V"⟩
abbrev cX4_image : ByteArray := prog_6_method_55_code
def yX4_image : MethodName := ⟨RX4, "image", "()I"⟩
abbrev cX4_on : ByteArray := prog_6_method_56_code
def yX4_on : MethodName := ⟨RX4, "on", "()I"⟩
abbrev cX4_count : ByteArray := prog_6_method_57_code
def yX4_count : MethodName := ⟨RX4, "count", "(I)I"⟩
def RJx145de : String := "java/io/Serializable"
def TJx145de : u_T := fun k => match k with
  | _ => ("", "", "", false)
def tyJx145de : Nat → FieldType := fun k => match k with
  | _ => .int
abbrev wsJx145de0 : List Cond := u_ws RJx145de TJx145de 0
theorem nmJx145de : ∀ a, a < 0 → ∀ b, b < 0 → a ≠ b → (TJx145de a).2.1 ≠ (TJx145de b).2.1 := by decide +kernel
theorem tyJx145de_ok : ∀ k, k < 0 → parseFieldDescriptor (TJx145de k).2.2.1 = some (tyJx145de k) := by decide +kernel
def RJx9f9b0 : String := "java/lang/CharSequence"
def TJx9f9b0 : u_T := fun k => match k with
  | _ => ("", "", "", false)
def tyJx9f9b0 : Nat → FieldType := fun k => match k with
  | _ => .int
abbrev wsJx9f9b00 : List Cond := u_ws RJx9f9b0 TJx9f9b0 0
theorem nmJx9f9b0 : ∀ a, a < 0 → ∀ b, b < 0 → a ≠ b → (TJx9f9b0 a).2.1 ≠ (TJx9f9b0 b).2.1 := by decide +kernel
theorem tyJx9f9b0_ok : ∀ k, k < 0 → parseFieldDescriptor (TJx9f9b0 k).2.2.1 = some (tyJx9f9b0 k) := by decide +kernel
def RJ11 : String := "java/lang/Character"
def TJ11 : u_T := fun k => match k with
  | _ => ("", "", "", false)
def tyJ11 : Nat → FieldType := fun k => match k with
  | _ => .int
abbrev wsJ110 : List Cond := u_ws RJ11 TJ11 0
theorem nmJ11 : ∀ a, a < 0 → ∀ b, b < 0 → a ≠ b → (TJ11 a).2.1 ≠ (TJ11 b).2.1 := by decide +kernel
theorem tyJ11_ok : ∀ k, k < 0 → parseFieldDescriptor (TJ11 k).2.2.1 = some (tyJ11 k) := by decide +kernel
abbrev cJ11_isValidCodePoint_9a6ad : ByteArray := prog_7_method_11_code
def yJ11_isValidCodePoint_9a6ad : MethodName := ⟨RJ11, "isValidCodePoint", "(I)Z"⟩
abbrev cJ11_highSurrogate_5068e : ByteArray := prog_7_method_28_code
def yJ11_highSurrogate_5068e : MethodName := ⟨RJ11, "highSurrogate", "(I)C"⟩
abbrev cJ11_lowSurrogate_5068e : ByteArray := prog_7_method_29_code
def yJ11_lowSurrogate_5068e : MethodName := ⟨RJ11, "lowSurrogate", "(I)C"⟩
def RJxb160c : String := "java/lang/Comparable"
def TJxb160c : u_T := fun k => match k with
  | _ => ("", "", "", false)
def tyJxb160c : Nat → FieldType := fun k => match k with
  | _ => .int
abbrev wsJxb160c0 : List Cond := u_ws RJxb160c TJxb160c 0
theorem nmJxb160c : ∀ a, a < 0 → ∀ b, b < 0 → a ≠ b → (TJxb160c a).2.1 ≠ (TJxb160c b).2.1 := by decide +kernel
theorem tyJxb160c_ok : ∀ k, k < 0 → parseFieldDescriptor (TJxb160c k).2.2.1 = some (tyJxb160c k) := by decide +kernel
def RJ9 : String := "java/lang/Math"
def TJ9 : u_T := fun k => match k with
  | _ => ("", "", "", false)
def tyJ9 : Nat → FieldType := fun k => match k with
  | _ => .int
abbrev wsJ90 : List Cond := u_ws RJ9 TJ9 0
theorem nmJ9 : ∀ a, a < 0 → ∀ b, b < 0 → a ≠ b → (TJ9 a).2.1 ≠ (TJ9 b).2.1 := by decide +kernel
theorem tyJ9_ok : ∀ k, k < 0 → parseFieldDescriptor (TJ9 k).2.2.1 = some (tyJ9 k) := by decide +kernel
abbrev cJ9_max_7cf53 : ByteArray := prog_8_method_65_code
def yJ9_max_7cf53 : MethodName := ⟨RJ9, "max", "(II)I"⟩
abbrev cJ9_min_7cf53 : ByteArray := prog_8_method_69_code
def yJ9_min_7cf53 : MethodName := ⟨RJ9, "min", "(II)I"⟩
def RJ0 : String := "java/lang/String"
def TJ0 : u_T := fun k => match k with
  | _ => ("", "", "", false)
def tyJ0 : Nat → FieldType := fun k => match k with
  | _ => .int
abbrev wsJ00 : List Cond := u_ws RJ0 TJ0 0
theorem nmJ0 : ∀ a, a < 0 → ∀ b, b < 0 → a ≠ b → (TJ0 a).2.1 ≠ (TJ0 b).2.1 := by decide +kernel
theorem tyJ0_ok : ∀ k, k < 0 → parseFieldDescriptor (TJ0 k).2.2.1 = some (tyJ0 k) := by decide +kernel
abbrev cJ0_length_8abf5 : ByteArray := prog_9_method_54_code
def yJ0_length_8abf5 : MethodName := ⟨RJ0, "length", "()I"⟩
abbrev cJ0_indexOf_0f7a4 : ByteArray := prog_9_method_79_code
def yJ0_indexOf_0f7a4 : MethodName := ⟨RJ0, "indexOf", "(I)I"⟩
abbrev cJ0_indexOf_7cf53 : ByteArray := prog_9_method_80_code
def yJ0_indexOf_7cf53 : MethodName := ⟨RJ0, "indexOf", "(II)I"⟩
abbrev cJ0_coder_7d493 : ByteArray := prog_9_method_152_code
def yJ0_coder_7d493 : MethodName := ⟨RJ0, "coder", "()B"⟩
abbrev cJ0_isLatin1_aae02 : ByteArray := prog_9_method_154_code
def yJ0_isLatin1_aae02 : MethodName := ⟨RJ0, "isLatin1", "()Z"⟩
abbrev cJ0_checkBoundsBeginEnd_23922 : ByteArray := prog_9_method_158_code
def yJ0_checkBoundsBeginEnd_23922 : MethodName := ⟨RJ0, "checkBoundsBeginEnd", "(III)V"⟩
def RJ1 : String := "java/lang/StringLatin1"
def TJ1 : u_T := fun k => match k with
  | _ => ("", "", "", false)
def tyJ1 : Nat → FieldType := fun k => match k with
  | _ => .int
abbrev wsJ10 : List Cond := u_ws RJ1 TJ1 0
theorem nmJ1 : ∀ a, a < 0 → ∀ b, b < 0 → a ≠ b → (TJ1 a).2.1 ≠ (TJ1 b).2.1 := by decide +kernel
theorem tyJ1_ok : ∀ k, k < 0 → parseFieldDescriptor (TJ1 k).2.2.1 = some (tyJ1 k) := by decide +kernel
abbrev cJ1_canEncode_9a6ad : ByteArray := prog_10_method_4_code
def yJ1_canEncode_9a6ad : MethodName := ⟨RJ1, "canEncode", "(I)Z"⟩
abbrev cJ1_indexOf_4cfef : ByteArray := prog_10_method_22_code
def yJ1_indexOf_4cfef : MethodName := ⟨RJ1, "indexOf", "([BIII)I"⟩
abbrev cJ1_indexOfChar_4cfef : ByteArray := prog_10_method_23_code
def yJ1_indexOfChar_4cfef : MethodName := ⟨RJ1, "indexOfChar", "([BIII)I"⟩
def RJ2 : String := "java/lang/StringUTF16"
def TJ2 : u_T := fun k => match k with
  | _ => ("", "", "", false)
def tyJ2 : Nat → FieldType := fun k => match k with
  | _ => .int
abbrev wsJ20 : List Cond := u_ws RJ2 TJ2 0
theorem nmJ2 : ∀ a, a < 0 → ∀ b, b < 0 → a ≠ b → (TJ2 a).2.1 ≠ (TJ2 b).2.1 := by decide +kernel
theorem tyJ2_ok : ∀ k, k < 0 → parseFieldDescriptor (TJ2 k).2.2.1 = some (tyJ2 k) := by decide +kernel
abbrev cJ2_getChar_3b067 : ByteArray := prog_11_method_5_code
def yJ2_getChar_3b067 : MethodName := ⟨RJ2, "getChar", "([BI)C"⟩
abbrev cJ2_length_9d52b : ByteArray := prog_11_method_6_code
def yJ2_length_9d52b : MethodName := ⟨RJ2, "length", "([B)I"⟩
abbrev cJ2_indexOf_4cfef : ByteArray := prog_11_method_40_code
def yJ2_indexOf_4cfef : MethodName := ⟨RJ2, "indexOf", "([BIII)I"⟩
abbrev cJ2_indexOfChar_4cfef : ByteArray := prog_11_method_47_code
def yJ2_indexOfChar_4cfef : MethodName := ⟨RJ2, "indexOfChar", "([BIII)I"⟩
abbrev cJ2_indexOfCharUnsafe_4cfef : ByteArray := prog_11_method_48_code
def yJ2_indexOfCharUnsafe_4cfef : MethodName := ⟨RJ2, "indexOfCharUnsafe", "([BIII)I"⟩
abbrev cJ2_indexOfSupplementary_4cfef : ByteArray := prog_11_method_49_code
def yJ2_indexOfSupplementary_4cfef : MethodName := ⟨RJ2, "indexOfSupplementary", "([BIII)I"⟩
abbrev cJ2_checkBoundsBeginEnd_d044e : ByteArray := prog_11_method_93_code
def yJ2_checkBoundsBeginEnd_d044e : MethodName := ⟨RJ2, "checkBoundsBeginEnd", "(II[B)V"⟩
def RJ10 : String := "java/lang/System"
def TJ10 : u_T := fun k => match k with
  | _ => ("", "", "", false)
def tyJ10 : Nat → FieldType := fun k => match k with
  | _ => .int
abbrev wsJ100 : List Cond := u_ws RJ10 TJ10 0
theorem nmJ10 : ∀ a, a < 0 → ∀ b, b < 0 → a ≠ b → (TJ10 a).2.1 ≠ (TJ10 b).2.1 := by decide +kernel
theorem tyJ10_ok : ∀ k, k < 0 → parseFieldDescriptor (TJ10 k).2.2.1 = some (tyJ10 k) := by decide +kernel
def RJxfd54e : String := "java/lang/constant/Constable"
def TJxfd54e : u_T := fun k => match k with
  | _ => ("", "", "", false)
def tyJxfd54e : Nat → FieldType := fun k => match k with
  | _ => .int
abbrev wsJxfd54e0 : List Cond := u_ws RJxfd54e TJxfd54e 0
theorem nmJxfd54e : ∀ a, a < 0 → ∀ b, b < 0 → a ≠ b → (TJxfd54e a).2.1 ≠ (TJxfd54e b).2.1 := by decide +kernel
theorem tyJxfd54e_ok : ∀ k, k < 0 → parseFieldDescriptor (TJxfd54e k).2.2.1 = some (tyJxfd54e k) := by decide +kernel
def RJx3cf43 : String := "java/lang/constant/ConstantDesc"
def TJx3cf43 : u_T := fun k => match k with
  | _ => ("", "", "", false)
def tyJx3cf43 : Nat → FieldType := fun k => match k with
  | _ => .int
abbrev wsJx3cf430 : List Cond := u_ws RJx3cf43 TJx3cf43 0
theorem nmJx3cf43 : ∀ a, a < 0 → ∀ b, b < 0 → a ≠ b → (TJx3cf43 a).2.1 ≠ (TJx3cf43 b).2.1 := by decide +kernel
theorem tyJx3cf43_ok : ∀ k, k < 0 → parseFieldDescriptor (TJx3cf43 k).2.2.1 = some (tyJx3cf43 k) := by decide +kernel
def RJ7 : String := "java/util/Arrays"
def TJ7 : u_T := fun k => match k with
  | _ => ("", "", "", false)
def tyJ7 : Nat → FieldType := fun k => match k with
  | _ => .int
abbrev wsJ70 : List Cond := u_ws RJ7 TJ7 0
theorem nmJ7 : ∀ a, a < 0 → ∀ b, b < 0 → a ≠ b → (TJ7 a).2.1 ≠ (TJ7 b).2.1 := by decide +kernel
theorem tyJ7_ok : ∀ k, k < 0 → parseFieldDescriptor (TJ7 k).2.2.1 = some (tyJ7 k) := by decide +kernel
abbrev cJ7_rangeCheck_23922 : ByteArray := prog_13_method_30_code
def yJ7_rangeCheck_23922 : MethodName := ⟨RJ7, "rangeCheck", "(III)V"⟩
abbrev cJ7_fill_53178 : ByteArray := prog_13_method_103_code
def yJ7_fill_53178 : MethodName := ⟨RJ7, "fill", "([II)V"⟩
abbrev cJ7_fill_fda19 : ByteArray := prog_13_method_104_code
def yJ7_fill_fda19 : MethodName := ⟨RJ7, "fill", "([IIII)V"⟩
def RJ3 : String := "jdk/internal/util/Preconditions"
def TJ3 : u_T := fun k => match k with
  | _ => ("", "", "", false)
def tyJ3 : Nat → FieldType := fun k => match k with
  | _ => .int
abbrev wsJ30 : List Cond := u_ws RJ3 TJ3 0
theorem nmJ3 : ∀ a, a < 0 → ∀ b, b < 0 → a ≠ b → (TJ3 a).2.1 ≠ (TJ3 b).2.1 := by decide +kernel
theorem tyJ3_ok : ∀ k, k < 0 → parseFieldDescriptor (TJ3 k).2.2.1 = some (tyJ3 k) := by decide +kernel
abbrev cJ3_checkFromToIndex_8c36e : ByteArray := prog_14_method_12_code
def yJ3_checkFromToIndex_8c36e : MethodName := ⟨RJ3, "checkFromToIndex", "(IIILjava/util/function/BiFunction;)I"⟩
def RL : String := "NineLandsLaw"
abbrev cL_law : ByteArray := code
def yL_law : MethodName := ⟨RL, "law", "([I)Z"⟩
end
section
/-! THE WORLD OF THIS PROGRAM: 109 cells at addresses ad 0 .. ad 108; its state one function: S 0 the numbers in objects, S a (1 .. 97) the int array a. -/
abbrev vS : Type := Nat → Nat → Int32
def upk (S : vS) (k : Nat) (g : Nat → Int32) : vS := fun j => if j = k then g else S j
theorem upk_eq (S : vS) (k : Nat) (g : Nat → Int32) : upk S k g k = g := if_pos rfl
theorem upk_ne (S : vS) {k j : Nat} (g : Nat → Int32) (h : j ≠ k) : upk S k g j = S j := if_neg h
def alen (a : Nat) : Nat := if a < 34 then ([0, 7, 16, 21, 21, 21, 21, 21, 21, 21, 54, 6, 36, 9, 5400, 6, 6, 6, 6, 6, 6, 300, 16, 6, 6, 6, 6, 6, 6, 6, 6, 6, 6, 7] : List Nat).getD a 0 else if a < 54 then 7 else if a < 60 then 9 else if a < 66 then 6 else if a < 86 then 7 else if a < 92 then 9 else 6
def ar (ad : Nat → Nat) (a : Nat) : Nat := ad (11 + a)
def cel (cI cO : ClassId) (ad : Nat → Nat) (S : vS) (k : Nat) : va_E := match k with
  | 0 => .inr (3, [.ref (ad 1), .ref (ad 2), .ref (ad 3), .ref (ad 4), .ref (ar ad 32), .ref (ar ad 33), .int (S 0 17), .int (S 0 18)])
  | 1 => .inr (2, [.ref (ar ad 22), .int (S 0 10), .int (S 0 11)])
  | 2 => .inr (0, [.ref (ad 6), .ref (ad 7), .ref (ar ad 23), .ref (ad 8), .int (S 0 12)])
  | 3 => .inr (0, [.ref (ad 9), .ref (ad 10), .ref (ar ad 24), .ref (ad 11), .int (S 0 13)])
  | 4 => .inr (1, [.ref (ar ad 25), .ref (ar ad 26), .ref (ar ad 27), .ref (ar ad 28), .ref (ar ad 29), .ref (ar ad 30), .ref (ar ad 31), .int (S 0 14), .int (S 0 15), .int (S 0 16)])
  | 5 => .inr (4, [.ref (ar ad 1), .ref (ar ad 2), .ref (ar ad 3), .ref (ar ad 4), .ref (ar ad 5), .ref (ar ad 6), .ref (ar ad 7), .ref (ar ad 8), .ref (ar ad 9), .ref (ar ad 10), .ref (ar ad 11), .ref (ar ad 12), .ref (ar ad 13), .int (S 0 0), .int (S 0 1), .int (S 0 2), .int (S 0 3), .ref (ar ad 14), .ref (ar ad 15), .ref (ar ad 16), .ref (ar ad 17), .ref (ar ad 18), .ref (ar ad 19), .int (S 0 4), .ref (ar ad 20), .int (S 0 5), .ref (ar ad 21), .int (S 0 6), .int (S 0 7), .int (S 0 8)])
  | 6 => .inl (cO, 20, .inr (.inr (.inr (.inr (fun i => some (ar ad (34 + i)))))))
  | 7 => .inl (cO, 6, .inr (.inr (.inr (.inr (fun i => some (ar ad (54 + i)))))))
  | 8 => .inl (cO, 6, .inr (.inr (.inr (.inr (fun i => some (ar ad (60 + i)))))))
  | 9 => .inl (cO, 20, .inr (.inr (.inr (.inr (fun i => some (ar ad (66 + i)))))))
  | 10 => .inl (cO, 6, .inr (.inr (.inr (.inr (fun i => some (ar ad (86 + i)))))))
  | 11 => .inl (cO, 6, .inr (.inr (.inr (.inr (fun i => some (ar ad (92 + i)))))))
  | n + 12 => .inl (cI, alen (n + 1), .inl (S (n + 1)))
def wd (cI cO : ClassId) (ad : Nat → Nat) (S : vS) : va_W := (List.range 109).map (fun k => (ad k, cel cI cO ad S k))
theorem wd_get {cI cO : ClassId} {ad : Nat → Nat} {S : vS} {k : Nat} (h : k < 109) : (wd cI cO ad S)[k]? = some (ad k, cel cI cO ad S k) := by
  simp [wd, h]
theorem wd_get_inv {cI cO : ClassId} {ad : Nat → Nat} {S : vS} {k : Nat} {q : Nat × va_E} (h : (wd cI cO ad S)[k]? = some q) : k < 109 ∧ q = (ad k, cel cI cO ad S k) := by
  have hk : k < 109 := by
    have := (List.getElem?_eq_some_iff.mp h).1
    simpa [wd] using this
  rw [wd_get hk] at h
  exact ⟨hk, (Option.some.inj h).symm⟩
theorem cel_arr {cI cO : ClassId} {ad : Nat → Nat} {S : vS} {a : Nat} (h : 1 ≤ a) : cel cI cO ad S (11 + a) = .inl (cI, alen a, .inl (S a)) := by
  obtain ⟨b, rfl⟩ : ∃ b, a = b + 1 := ⟨a - 1, by omega⟩
  have e : 11 + (b + 1) = b + 12 := by omega
  rw [e]
  rfl
theorem wd_arr {cI cO : ClassId} {ad : Nat → Nat} {S : vS} {a : Nat} (h : 1 ≤ a ∧ a ≤ 97) : (wd cI cO ad S)[11 + a]? = some (ar ad a, .inl (cI, alen a, .inl (S a))) := by
  rw [wd_get (by omega), cel_arr h.1]
  rfl
theorem wd_set {cI cO : ClassId} {ad : Nat → Nat} {S S' : vS} {k : Nat} {e : va_E} (hk : k < 109) (h1 : cel cI cO ad S' k = e) (h2 : ∀ j, j ≠ k → cel cI cO ad S' j = cel cI cO ad S j) : (wd cI cO ad S).set k (ad k, e) = wd cI cO ad S' := by
  apply List.ext_getElem?
  intro i
  rw [List.getElem?_set]
  by_cases hi : k = i
  · subst hi
    have : k < (wd cI cO ad S).length := by simpa [wd] using hk
    rw [if_pos rfl, if_pos this, wd_get hk, h1]
  · rw [if_neg hi]
    by_cases h9 : i < 109
    · rw [wd_get h9, wd_get h9, h2 i (fun q => hi q.symm)]
    · have e1 : (wd cI cO ad S)[i]? = none := by simp [wd]; omega
      have e2 : (wd cI cO ad S')[i]? = none := by simp [wd]; omega
      rw [e1, e2]
theorem wd_seta {cI cO : ClassId} {ad : Nat → Nat} {S : vS} {a : Nat} (h : 1 ≤ a ∧ a ≤ 97) (g : Nat → Int32) : (wd cI cO ad S).set (11 + a) (ar ad a, .inl (cI, alen a, .inl g)) = wd cI cO ad (upk S a g) := by
  refine wd_set (by omega) (by rw [cel_arr h.1, upk_eq]) ?_
  intro j hj
  have h0 : upk S a g 0 = S 0 := upk_ne S g (by omega)
  unfold cel
  split <;> first
    | rfl
    | (simp only [h0]; done)
    | (rw [upk_ne S g (by omega)])
abbrev clsL : List vw_C := [(RX0, TX0, 5), (RX1, TX1, 10), (RX2, TX2, 3), (RX3, TX3, 8), (RX4, TX4, 30)]
abbrev tysL (cI cO : ClassId) : List (ClassId × FieldType) := [(cI, .int), (cO, .array .int)]
def AA (ad : Nat → Nat) (sz : Nat) : Nat → Prop := fun q => (∃ k, k < 109 ∧ q = ad k) ∨ sz ≤ q
theorem wd_D {cI cO : ClassId} {ad : Nat → Nat} {S S' : vS} {A B : Nat → Prop} (h : va_D A (wd cI cO ad S)) (hB : ∀ k, k < 109 → B (ad k)) : va_D B (wd cI cO ad S') := by
  refine ⟨fun i j p q hp hq e => ?_, fun k q hk => ?_⟩
  · obtain ⟨hi, rfl⟩ := wd_get_inv hp
    obtain ⟨hj, rfl⟩ := wd_get_inv hq
    exact h.1 i j _ _ (wd_get hi) (wd_get hj) e
  · obtain ⟨hi, rfl⟩ := wd_get_inv hk
    exact hB k hi
/-- words: those that hold in every state behind a call; the nest's words apart -/
def tW : List Cond := lw_tbl.filter (fun w => goodWord w)
def isNest : Cond → Bool
  | .fieldLinkNest _ _ _ _ _ _ => true
  | .methodLinkNest _ _ _ _ => true
  | _ => false
def nW : List Cond := lw_tbl.filter (fun w => isNest w)
theorem gT (c0 : Cond) : GoodIn (c0 :: tW) tW := fun w hw => ⟨List.mem_cons_of_mem _ hw, good_of_word (List.mem_filter.mp hw).2⟩
theorem gTc {c0 c1 : Cond} (h : c1 ∈ tW) : GoodIn (c0 :: tW) (c1 :: tW) := fun w hw => by
  rcases List.mem_cons.mp hw with e | e
  · subst e
    exact gT c0 w h
  · exact gT c0 w e
def nOk (U : State) : Prop := ∀ w ∈ nW, va_Nw w U
theorem nOk.same {u U : State} (h : u.vm = U.vm) (hn : nOk u) : nOk U := fun w hw => by
  have h2 := (List.mem_filter.mp hw).2
  have h3 := hn w hw
  cases w <;> first | (cases h2; done) | exact va_Nw.same rfl h h3
theorem nOk.warm {s U : State} (hW : s.WarmedH U.vm) (hn : nOk s) : nOk U := fun w hw => by
  have h2 := (List.mem_filter.mp hw).2
  have h3 := hn w hw
  cases w <;> first | (cases h2; done) | exact va_Nw.warmF hW h3 | exact va_Nw.warmM hW h3
/-- a method's start and end -/
def PB (D : va_G) (cI cO : ClassId) (ad : Nat → Nat) (sz : Nat) (S : vS) (U : State) : Prop := U.heap.size = sz ∧ va_P D clsL (wd cI cO ad S) U.heap ∧ va_K D clsL (tysL cI cO) U ∧ va_D (fun _ => True) (wd cI cO ad S) ∧ nOk U
def CI (l : Launch) (y : MethodName) (b : ByteArray) (nL : Nat) (ret : FieldType) (rm : Room) (as : List Value) (D : va_G) (cI cO : ClassId) (ad : Nat → Nat) (S : vS) (r : Int32) (S' : vS) : Prop := ∀ sz : Nat, Met l y (.code y b nL (some ret) :: tW) rm (va_Pc as (PB D cI cO ad sz S)) (va_Qi (fun r1 (u : vS) => r1 = r ∧ u = S') (fun u t => va_P D clsL (wd cI cO ad u) t.heap) (AA ad sz)) 0 0 (AA ad sz)
def CV (l : Launch) (y : MethodName) (b : ByteArray) (nL : Nat) (rm : Room) (as : List Value) (D : va_G) (cI cO : ClassId) (ad : Nat → Nat) (S : vS) (S' : vS) : Prop := ∀ sz : Nat, Met l y (.code y b nL none :: tW) rm (va_Pc as (PB D cI cO ad sz S)) (va_Qv (fun (u : vS) => u = S') (fun u t => va_P D clsL (wd cI cO ad u) t.heap) (AA ad sz)) 0 0 (AA ad sz)
/-- inside a method: the world now -/
def WD (D : va_G) (cI cO : ClassId) (ad : Nat → Nat) (s : State) (S : vS) (H : Heap) (locs : List Loc) : Prop := va_K D clsL (tysL cI cO) s ∧ va_P D clsL (wd cI cO ad S) H ∧ va_D (AA ad s.heap.size) (wd cI cO ad S) ∧ va_S (AA ad s.heap.size) s.heap H locs ∧ nOk s
theorem AA.in {ad : Nat → Nat} {sz k : Nat} (h : k < 109) : AA ad sz (ad k) := Or.inl ⟨k, h, rfl⟩
theorem CI.of {l : Launch} {y : MethodName} {b : ByteArray} {nL : Nat} {ret : FieldType} {rm : Room} {as : List Value} {D : va_G} {cI cO : ClassId} {ad : Nat → Nat} {S : vS} {r : Int32} {S' : vS} (hy : plainName y.cls = true) (hn : (lg_sl as).length ≤ nL)
    (body : ∀ (p : Program) (e : Env) (s : State) (m : MethodId) (args : Array Value) (below : List Frame) (meth : Method) (c : Code) (Q : State → Prop) (ls : Array Slot), CallFix p m c b nL s args (.code y b nL (some ret) :: tW) y.cls → lv_has ls nL (lv_args 0 as) → WD D cI cO ad s S s.heap [] →
      (∀ (H : Heap) (locs : List Loc) (v : Int32) (S1 : vS) (pc : Nat) (ls : Array Slot), WD D cI cO ad s S1 H locs → v = r → S1 = S' → narrow ret (.int v) = .int v → decode b pc = .ok (.ireturn, 1) → W p l e rm s m args below meth c H locs 0 0 Q (F0 m pc ls [.int v])) →
      W p l e rm s m args below meth c s.heap [] 0 0 Q (F0 m 0 ls [])) : CI l y b nL ret rm as D cI cO ad S r S' := by
  intro sz
  refine Met.ofW (cc := b) (maxL := nL) (ret := some ret) hy rfl ?_
  intro p e s m args below meth c s₁ B hml hv
  obtain ⟨rfl, hsz, hP, hK, hD0, hnO⟩ := hv
  subst hsz
  have hts := atoms_spec (ws := .code y b nL (some ret) :: tW) B.pre
  have hown : s.vm.findClass y.cls = some m.cls := findClass_of_methodNamed B.named
  have hlocks := B.notSynchronized
  have hl := lv_entry as (n := nL) hn
  rw [lg_entry_eq]
  generalize (lg_sl as ++ List.replicate (nL - (lg_sl as).length) Slot.unset).toArray = ls at hl ⊢
  refine body p e s m _ below meth c _ ls ⟨B.exec, B.bytes, hml, hown, hts⟩ hl ⟨hK, hP, wd_D hD0 (fun k hk => AA.in hk), va_S.rf, hnO⟩ ?_
  intro H locs v S1 pc ls hw e1 e2 hnar hdg
  subst e1; subst e2
  exact W.zret B.exec B.bytes B.returns hnar (fun t ht hW => ⟨⟨v, S1, rfl, ⟨rfl, rfl⟩, by show va_P _ _ _ t.heap; rw [ht]; exact hw.2.1⟩, hw.2.2.2.1.F ht⟩) hw.2.2.2.1.2.2 hdg
theorem CV.of {l : Launch} {y : MethodName} {b : ByteArray} {nL : Nat} {rm : Room} {as : List Value} {D : va_G} {cI cO : ClassId} {ad : Nat → Nat} {S : vS} {r : Int32} {S' : vS} (hy : plainName y.cls = true) (hn : (lg_sl as).length ≤ nL)
    (body : ∀ (p : Program) (e : Env) (s : State) (m : MethodId) (args : Array Value) (below : List Frame) (meth : Method) (c : Code) (Q : State → Prop) (ls : Array Slot), CallFix p m c b nL s args (.code y b nL none :: tW) y.cls → lv_has ls nL (lv_args 0 as) → WD D cI cO ad s S s.heap [] →
      (∀ (H : Heap) (locs : List Loc) (v : Int32) (S1 : vS) (pc : Nat) (ls : Array Slot), WD D cI cO ad s S1 H locs → v = r → S1 = S' → decode b pc = .ok (.return_, 1) → W p l e rm s m args below meth c H locs 0 0 Q (F0 m pc ls [])) →
      W p l e rm s m args below meth c s.heap [] 0 0 Q (F0 m 0 ls [])) : CV l y b nL rm as D cI cO ad S S' := by
  intro sz
  refine Met.ofW (cc := b) (maxL := nL) (ret := none) hy rfl ?_
  intro p e s m args below meth c s₁ B hml hv
  obtain ⟨rfl, hsz, hP, hK, hD0, hnO⟩ := hv
  subst hsz
  have hts := atoms_spec (ws := .code y b nL none :: tW) B.pre
  have hown : s.vm.findClass y.cls = some m.cls := findClass_of_methodNamed B.named
  have hlocks := B.notSynchronized
  have hl := lv_entry as (n := nL) hn
  rw [lg_entry_eq]
  generalize (lg_sl as ++ List.replicate (nL - (lg_sl as).length) Slot.unset).toArray = ls at hl ⊢
  refine body p e s m _ below meth c _ ls ⟨B.exec, B.bytes, hml, hown, hts⟩ hl ⟨hK, hP, wd_D hD0 (fun k hk => AA.in hk), va_S.rf, hnO⟩ ?_
  intro H locs v S1 pc ls hw e1 e2 hdg
  subst e2
  exact W.vret B.exec B.bytes B.returns (fun t ht hW => ⟨⟨S1, rfl, rfl, by show va_P _ _ _ t.heap; rw [ht]; exact hw.2.1⟩, hw.2.2.2.1.F ht⟩) hw.2.2.2.1.2.2 hdg
/-- pure helpers: a program's pure picture is an Option; none where a check fails or fuel ends -/
def lt {α β : Type} (x : α) (f : α → β) : β := f x
theorem lt_e {α β : Type} {x y : α} {f : α → β} {r : β} (e : y = x) (h : lt x f = r) : f y = r := by rw [e]; exact h
theorem if_t {α : Type} {c : Prop} [Decidable c] {a b r : α} (h : c) (e : (if c then a else b) = r) : a = r := by rw [if_pos h] at e; exact e
theorem if_f {α : Type} {c : Prop} [Decidable c] {a b r : α} (h : ¬ c) (e : (if c then a else b) = r) : b = r := by rw [if_neg h] at e; exact e
theorem if_s {α : Type} {c : Prop} [Decidable c] {a : Option α} {r : α} (e : (if c then a else none) = some r) : c ∧ a = some r := by
  by_cases h : c
  · rw [if_pos h] at e; exact ⟨h, e⟩
  · rw [if_neg h] at e; cases e
def b1 {α γ : Type} (o : Option α) (k : α → Option γ) : Option γ := match o with | some a => k a | none => none
def b2 {α β γ : Type} (o : Option (α × β)) (k : α → β → Option γ) : Option γ := match o with | some (a, b) => k a b | none => none
def b3 {α1 α2 α3 γ : Type} (o : Option (α1 × α2 × α3)) (k : α1 → α2 → α3 → Option γ) : Option γ := match o with | some (a, b, c) => k a b c | none => none
def b4 {α1 α2 α3 α4 γ : Type} (o : Option (α1 × α2 × α3 × α4)) (k : α1 → α2 → α3 → α4 → Option γ) : Option γ := match o with | some (a, b, c, d) => k a b c d | none => none
def b5 {α1 α2 α3 α4 α5 γ : Type} (o : Option (α1 × α2 × α3 × α4 × α5)) (k : α1 → α2 → α3 → α4 → α5 → Option γ) : Option γ := match o with | some (a, b, c, d, e) => k a b c d e | none => none
def b6 {α1 α2 α3 α4 α5 α6 γ : Type} (o : Option (α1 × α2 × α3 × α4 × α5 × α6)) (k : α1 → α2 → α3 → α4 → α5 → α6 → Option γ) : Option γ := match o with | some (a, b, c, d, e, f) => k a b c d e f | none => none
def b7 {α1 α2 α3 α4 α5 α6 α7 γ : Type} (o : Option (α1 × α2 × α3 × α4 × α5 × α6 × α7)) (k : α1 → α2 → α3 → α4 → α5 → α6 → α7 → Option γ) : Option γ := match o with | some (a, b, c, d, e, f, g) => k a b c d e f g | none => none
theorem b1_s {α γ : Type} {o : Option α} {k : α → Option γ} {r : γ} (h : b1 o k = some r) : ∃ a, o = some a ∧ k a = some r := by
  cases o with | none => cases h | some q => exact ⟨q, rfl, h⟩
theorem b2_s {α β γ : Type} {o : Option (α × β)} {k : α → β → Option γ} {r : γ} (h : b2 o k = some r) : ∃ a b, o = some (a, b) ∧ k a b = some r := by
  cases o with | none => cases h | some q => exact ⟨q.1, q.2, rfl, h⟩
theorem b3_s {α1 α2 α3 γ : Type} {o : Option (α1 × α2 × α3)} {k : α1 → α2 → α3 → Option γ} {r : γ} (h : b3 o k = some r) : ∃ a b c, o = some (a, b, c) ∧ k a b c = some r := by
  cases o with | none => cases h | some q => exact ⟨q.1, q.2.1, q.2.2, rfl, h⟩
theorem b4_s {α1 α2 α3 α4 γ : Type} {o : Option (α1 × α2 × α3 × α4)} {k : α1 → α2 → α3 → α4 → Option γ} {r : γ} (h : b4 o k = some r) : ∃ a b c d, o = some (a, b, c, d) ∧ k a b c d = some r := by
  cases o with | none => cases h | some q => exact ⟨q.1, q.2.1, q.2.2.1, q.2.2.2, rfl, h⟩
theorem b5_s {α1 α2 α3 α4 α5 γ : Type} {o : Option (α1 × α2 × α3 × α4 × α5)} {k : α1 → α2 → α3 → α4 → α5 → Option γ} {r : γ} (h : b5 o k = some r) : ∃ a b c d e, o = some (a, b, c, d, e) ∧ k a b c d e = some r := by
  cases o with | none => cases h | some q => exact ⟨q.1, q.2.1, q.2.2.1, q.2.2.2.1, q.2.2.2.2, rfl, h⟩
theorem b6_s {α1 α2 α3 α4 α5 α6 γ : Type} {o : Option (α1 × α2 × α3 × α4 × α5 × α6)} {k : α1 → α2 → α3 → α4 → α5 → α6 → Option γ} {r : γ} (h : b6 o k = some r) : ∃ a b c d e f, o = some (a, b, c, d, e, f) ∧ k a b c d e f = some r := by
  cases o with | none => cases h | some q => exact ⟨q.1, q.2.1, q.2.2.1, q.2.2.2.1, q.2.2.2.2.1, q.2.2.2.2.2, rfl, h⟩
theorem b7_s {α1 α2 α3 α4 α5 α6 α7 γ : Type} {o : Option (α1 × α2 × α3 × α4 × α5 × α6 × α7)} {k : α1 → α2 → α3 → α4 → α5 → α6 → α7 → Option γ} {r : γ} (h : b7 o k = some r) : ∃ a b c d e f g, o = some (a, b, c, d, e, f, g) ∧ k a b c d e f g = some r := by
  cases o with | none => cases h | some q => exact ⟨q.1, q.2.1, q.2.2.1, q.2.2.2.1, q.2.2.2.2.1, q.2.2.2.2.2.1, q.2.2.2.2.2.2, rfl, h⟩
/-- a loop that may also return: the return, or what goes on behind it -/
def bS {α β γ : Type} (o : Option (α ⊕ β)) (ret : β → Option γ) (k : α → Option γ) : Option γ := match o with | some (.inl a) => k a | some (.inr b) => ret b | none => none
theorem bS_s {α β γ : Type} {o : Option (α ⊕ β)} {ret : β → Option γ} {k : α → Option γ} {r : γ} (h : bS o ret k = some r) : (∃ a, o = some (.inl a) ∧ k a = some r) ∨ ∃ b, o = some (.inr b) ∧ ret b = some r := by
  cases o with
  | none => cases h
  | some q => cases q with
    | inl a => exact Or.inl ⟨a, rfl, h⟩
    | inr b => exact Or.inr ⟨b, rfl, h⟩
def mx (x y : Int32) : Int32 := if x < y then y else x
def mn (x y : Int32) : Int32 := if y < x then y else x
theorem bo_n {v : Int32} (h : v = 0 ∨ v = 1) : narrow .boolean (.int v) = .int v := by rcases h with rfl | rfl <;> rfl
theorem bo_f {v : Int32} (h : v = 0 ∨ v = 1) : fits .boolean (.int v) = true := by rcases h with rfl | rfl <;> rfl
/-- an index in its row, as a test -/
def inb (i : Int32) (n : Nat) : Bool := !(decide (i < 0)) && decide (i.toNatClampNeg < n)
theorem inb_in {i : Int32} {n : Nat} (h : inb i n = true) : vp_in i n := by
  simp only [inb, Bool.and_eq_true, Bool.not_eq_true', decide_eq_false_iff_not, decide_eq_true_eq] at h
  exact fun q => q.elim h.1 (fun q => absurd h.2 (Nat.not_lt.mpr q))
theorem inb_lt {i : Int32} {n : Nat} (h : inb i n = true) : i.toNatClampNeg < n := by
  simp only [inb, Bool.and_eq_true, decide_eq_true_eq] at h
  exact h.2
theorem bS_x {α β γ : Type} {o : Option (α ⊕ β)} {ret : β → Option γ} {k : α → Option γ} {r : γ} (h : bS o ret k = some r) : ∃ q, o = some q ∧ (∀ a, q = .inl a → k a = some r) ∧ ∀ b, q = .inr b → ret b = some r := by
  cases o with
  | none => cases h
  | some q => cases q with
    | inl a => exact ⟨_, rfl, fun a2 e => (by cases e; exact h), fun b e => (by cases e)⟩
    | inr b => exact ⟨_, rfl, fun a e => (by cases e), fun b2 e => (by cases e; exact h)⟩
def FU : Nat := 6000
theorem alen_34 {j : Nat} (h : j < 20) : alen (34 + j) = 7 := by simp only [alen]; rw [if_neg (by omega), if_pos (by omega)]
theorem alen_54 {j : Nat} (h : j < 6) : alen (54 + j) = 9 := by simp only [alen]; rw [if_neg (by omega), if_neg (by omega), if_pos (by omega)]
theorem alen_60 {j : Nat} (h : j < 6) : alen (60 + j) = 6 := by simp only [alen]; rw [if_neg (by omega), if_neg (by omega), if_neg (by omega), if_pos (by omega)]
theorem alen_66 {j : Nat} (h : j < 20) : alen (66 + j) = 7 := by simp only [alen]; rw [if_neg (by omega), if_neg (by omega), if_neg (by omega), if_neg (by omega), if_pos (by omega)]
theorem alen_86 {j : Nat} (h : j < 6) : alen (86 + j) = 9 := by simp only [alen]; rw [if_neg (by omega), if_neg (by omega), if_neg (by omega), if_neg (by omega), if_neg (by omega), if_pos (by omega)]
theorem alen_92 {j : Nat} (h : j < 6) : alen (92 + j) = 6 := by simp only [alen]; rw [if_neg (by omega), if_neg (by omega), if_neg (by omega), if_neg (by omega), if_neg (by omega), if_neg (by omega)]
theorem pfI : parseFieldDescriptor "I" = some .int := by decide +kernel
theorem pfZ : parseFieldDescriptor "Z" = some .boolean := by decide +kernel
theorem narI (v : Int32) : narrow .int (.int v) = .int v := rfl
theorem s2a {a c : Int32} {b d : vS} (h : some (a, b) = some (c, d)) : a = c := by cases h; rfl
theorem s2b {a c : Int32} {b d : vS} (h : some (a, b) = some (c, d)) : b = d := by cases h; rfl
end
section
section XR
variable {p : Program} {l : Launch} {e : Env} {R : Room} {s : State} {m : MethodId} {args : Array Value} {below : List Frame} {meth : Method} {c : Code} {H : Heap} {locs : List Loc} {Q : State → Prop} {cc : ByteArray} {pc nL : Nat} {ls : Array Slot} {rest : List Value} {D : va_G} {cI cO : ClassId} {ad : Nat → Nat} {S : vS} {own : String} {c0 : Cond}
theorem hA_of {s : State} {H : Heap} {locs : List Loc} {ad : Nat → Nat} (hS : va_S (AA ad s.heap.size) s.heap H locs) : ∀ q, q < H.size → AA ad H.size q → AA ad s.heap.size q := fun q hq h => by
  rcases h with h | h
  · exact Or.inl h
  · exact absurd hq (Nat.not_lt.mpr h)
theorem hA_of2 {s : State} {H : Heap} {locs : List Loc} {ad : Nat → Nat} (hS : va_S (AA ad s.heap.size) s.heap H locs) : ∀ q, AA ad H.size q → AA ad s.heap.size q := fun q h => by
  rcases h with h | h
  · exact Or.inl h
  · exact Or.inr (Nat.le_trans hS.1 h)
theorem x_iald (X : CallFix p m c cc nL s args (c0 :: tW) own) (hw : WD D cI cO ad s S H locs) (a : Nat) (ha : 1 ≤ a ∧ a ≤ 97) {n : Nat} (hn : alen a = n) {i : Int32} (hin : inb i n = true) (j : Nat) (hj : i.toNatClampNeg = j) (hdg : decode cc pc = .ok (.iaload, 1))
    (kk : W p l e R s m args below meth c H locs 0 0 Q (F0 m (pc + 1) ls (.int (S a j) :: rest))) : W p l e R s m args below meth c H locs 0 0 Q (F0 m pc ls (.int i :: .ref (ar ad a) :: rest)) :=
  va_iald X.1 X.2.1 hw.1 hw.2.1 (11 + a) 0 (wd_arr ha) rfl (by rw [hn]; exact inb_in hin) hdg (by rw [hj]; exact kk)
theorem x_iast (X : CallFix p m c cc nL s args (c0 :: tW) own) (hw : WD D cI cO ad s S H locs) (a : Nat) (ha : 1 ≤ a ∧ a ≤ 97) {n : Nat} (hn : alen a = n) {i x : Int32} (hin : inb i n = true) (j : Nat) (hj : i.toNatClampNeg = j) (hdg : decode cc pc = .ok (.iastore, 1))
    (kk : ∀ S1 : vS, S1 = upk S a (upd (S a) j x) → ∀ (H1 : Heap) (locs1 : List Loc), WD D cI cO ad s S1 H1 locs1 → W p l e R s m args below meth c H1 locs1 0 0 Q (F0 m (pc + 1) ls rest)) : W p l e R s m args below meth c H locs 0 0 Q (F0 m pc ls (.int x :: .int i :: .ref (ar ad a) :: rest)) := by
  refine va_iast X.1 X.2.1 hw.1 hw.2.1 hw.2.2.1 hw.2.2.2.1 (11 + a) 0 (wd_arr ha) rfl (by rw [hn]; exact inb_in hin) hdg (fun H1 locs1 hP hD hS => ?_)
  rw [wd_seta ha, hj] at hP hD
  exact kk _ rfl H1 locs1 ⟨hw.1, hP, hD, hS, hw.2.2.2.2⟩
theorem x_alen (X : CallFix p m c cc nL s args (c0 :: tW) own) (hw : WD D cI cO ad s S H locs) (a : Nat) (ha : 1 ≤ a ∧ a ≤ 97) {v : Int32} (hv : Int32.ofNat (alen a) = v) (hdg : decode cc pc = .ok (.arraylength, 1))
    (kk : W p l e R s m args below meth c H locs 0 0 Q (F0 m (pc + 1) ls (.int v :: rest))) : W p l e R s m args below meth c H locs 0 0 Q (F0 m pc ls (.ref (ar ad a) :: rest)) :=
  va_alen X.1 X.2.1 hw.1 hw.2.1 (11 + a) 0 (wd_arr ha) rfl hv hdg kk
theorem x_aald (X : CallFix p m c cc nL s args (c0 :: tW) own) (hw : WD D cI cO ad s S H locs) (o : Nat) (ho : o < 109) {n : Nat} {f : Nat → Option Nat} (hc : cel cI cO ad S o = .inl (cO, n, .inr (.inr (.inr (.inr f))))) {i : Int32} (hin : inb i n = true) {v : Nat} (hv : f i.toNatClampNeg = some v) (hdg : decode cc pc = .ok (.aaload, 1))
    (kk : W p l e R s m args below meth c H locs 0 0 Q (F0 m (pc + 1) ls (.ref v :: rest))) : W p l e R s m args below meth c H locs 0 0 Q (F0 m pc ls (.int i :: .ref (ad o) :: rest)) := by
  have hlt : i.toNatClampNeg < n := inb_lt hin
  have hin := inb_in hin
  have ha : (wd cI cO ad S)[o]? = some (ad o, .inl (cO, n, .inr (.inr (.inr (.inr f))))) := by rw [wd_get ho, hc]
  exact W.aald (v := .ref v) (ty := .array .int) X.1 X.2.1 (hw.2.1 o _ ha) ((hw.1.2 1 (cO, .array .int) rfl).1 n (fun j => va_rf (f j))) rfl (fun q => by cases q) (by show ¬ (i < 0 ∨ (arrV _ _ _).slots.size ≤ _); rw [arrV_size]; exact hin) (by show (arrV _ _ _).slots[_]? = _; rw [arrV_read _ _ hlt, hv]; rfl) rfl rfl hdg kk
theorem x_get (X : CallFix p m c cc nL s args (c0 :: tW) own) (hw : WD D cI cO ad s S H locs) (o : Nat) (ho : o < 109) {ci : Nat} {fs : List Value} (hce : cel cI cO ad S o = .inr (ci, fs)) {C : String} {T : u_T} {N : Nat} (hc : clsL[ci]? = some (C, T, N)) (hin : ∀ w ∈ u_ws C T N, w ∈ tW) (k : Nat) (hk : k < N) {index : Nat} {nm ds : String} (hl : Cond.fieldLink own index C nm ds ∈ tW) (hT : (T k).1 = C ∧ (T k).2.1 = nm ∧ (T k).2.2.1 = ds) {v : Value} (hv : fs[k]? = some v) (hdg : decode cc pc = .ok (.getfield index, 3))
    (kk : W p l e R s m args below meth c H locs 0 0 Q (F0 m (pc + 3) ls (v :: rest))) : W p l e R s m args below meth c H locs 0 0 Q (F0 m pc ls (.ref (ad o) :: rest)) := by
  obtain ⟨h1, h2, h3⟩ := hT
  exact va_get (Ts := c0 :: tW) X.1 X.2.1 X.2.2.2.2 (fun w h => List.mem_cons_of_mem _ (hin w h)) X.2.2.2.1 hw.1 hw.2.1 o (by rw [wd_get ho, hce]) hc k hk (by rw [h2, h3]; exact X.2.2.2.2 _ (List.mem_cons_of_mem _ hl)) (fun x h9 => by rw [h1] at h9; exact h9) hv hdg kk
theorem x_getN (X : CallFix p m c cc nL s args (c0 :: tW) own) (hw : WD D cI cO ad s S H locs) (o : Nat) (ho : o < 109) {ci : Nat} {fs : List Value} (hce : cel cI cO ad S o = .inr (ci, fs)) {C : String} {T : u_T} {N : Nat} (hc : clsL[ci]? = some (C, T, N)) (hin : ∀ w ∈ u_ws C T N, w ∈ tW) (k : Nat) (hk : k < N) {index : Nat} {nm ds host : String} (hl : Cond.fieldLinkNest own index C nm ds host ∈ nW) (hT : (T k).1 = C ∧ (T k).2.1 = nm ∧ (T k).2.2.1 = ds) {v : Value} (hv : fs[k]? = some v) (hdg : decode cc pc = .ok (.getfield index, 3))
    (kk : W p l e R s m args below meth c H locs 0 0 Q (F0 m (pc + 3) ls (v :: rest))) : W p l e R s m args below meth c H locs 0 0 Q (F0 m pc ls (.ref (ad o) :: rest)) := by
  obtain ⟨h1, h2, h3⟩ := hT
  exact va_getN (Ts := c0 :: tW) (host := host) X.1 X.2.1 X.2.2.2.2 (fun w h => List.mem_cons_of_mem _ (hin w h)) X.2.2.2.1 hw.1 hw.2.1 o (by rw [wd_get ho, hce]) hc k hk (by rw [h2, h3]; exact va_Nw.use rfl (hw.2.2.2.2 _ hl)) (fun x h9 => by rw [h1] at h9; exact h9) hv hdg kk
theorem x_put (X : CallFix p m c cc nL s args (c0 :: tW) own) (hw : WD D cI cO ad s S H locs) (o : Nat) (ho : o < 109) {ci : Nat} {fs : List Value} (hce : cel cI cO ad S o = .inr (ci, fs)) {C : String} {T : u_T} {N : Nat} (hc : clsL[ci]? = some (C, T, N)) (hin : ∀ w ∈ u_ws C T N, w ∈ tW) {ty0 : Nat → FieldType} (hty : ∀ k, k < N → parseFieldDescriptor (T k).2.2.1 = some (ty0 k)) (hnm : ∀ a, a < N → ∀ b, b < N → a ≠ b → (T a).2.1 ≠ (T b).2.1) (k : Nat) (hk : k < N) {index : Nat} {nm ds : String} (hl : Cond.fieldLink own index C nm ds ∈ tW) (hT : (T k).1 = C ∧ (T k).2.1 = nm ∧ (T k).2.2.1 = ds) (hfin : (T k).2.2.2 = false) {ty : FieldType} {x : Int32} (hd : parseFieldDescriptor ds = some ty) (hn : narrow ty (.int x) = .int x) (hfit : fits ty (.int x) = true) (hlen : k < fs.length) (j : Nat) (hset : (wd cI cO ad S).set o (ad o, .inr (ci, fs.set k (.int x))) = wd cI cO ad (upk S 0 (upd (S 0) j x))) (hdg : decode cc pc = .ok (.putfield index, 3))
    (kk : ∀ S1 : vS, S1 = upk S 0 (upd (S 0) j x) → ∀ (H1 : Heap) (locs1 : List Loc), WD D cI cO ad s S1 H1 locs1 → W p l e R s m args below meth c H1 locs1 0 0 Q (F0 m (pc + 3) ls rest)) : W p l e R s m args below meth c H locs 0 0 Q (F0 m pc ls (.int x :: .ref (ad o) :: rest)) := by
  obtain ⟨h1, h2, h3⟩ := hT
  refine va_put (Ts := c0 :: tW) (ty := ty) X.1 X.2.1 X.2.2.2.2 (fun w h => List.mem_cons_of_mem _ (hin w h)) ty0 hty hnm X.2.2.2.1 hw.1 hw.2.1 hw.2.2.1 hw.2.2.2.1 o (by rw [wd_get ho, hce]) hc k hk (by rw [h2, h3]; exact X.2.2.2.2 _ (List.mem_cons_of_mem _ hl)) (fun x h9 => by rw [h1] at h9; exact h9) hfin (by rw [h3]; exact hd) hn hfit hlen hdg (fun H1 locs1 hP hD hS => ?_)
  rw [hset] at hP hD
  exact kk _ rfl H1 locs1 ⟨hw.1, hP, hD, hS, hw.2.2.2.2⟩
theorem x_putN (X : CallFix p m c cc nL s args (c0 :: tW) own) (hw : WD D cI cO ad s S H locs) (o : Nat) (ho : o < 109) {ci : Nat} {fs : List Value} (hce : cel cI cO ad S o = .inr (ci, fs)) {C : String} {T : u_T} {N : Nat} (hc : clsL[ci]? = some (C, T, N)) (hin : ∀ w ∈ u_ws C T N, w ∈ tW) {ty0 : Nat → FieldType} (hty : ∀ k, k < N → parseFieldDescriptor (T k).2.2.1 = some (ty0 k)) (hnm : ∀ a, a < N → ∀ b, b < N → a ≠ b → (T a).2.1 ≠ (T b).2.1) (k : Nat) (hk : k < N) {index : Nat} {nm ds host : String} (hl : Cond.fieldLinkNest own index C nm ds host ∈ nW) (hT : (T k).1 = C ∧ (T k).2.1 = nm ∧ (T k).2.2.1 = ds) (hfin : (T k).2.2.2 = false) {ty : FieldType} {x : Int32} (hd : parseFieldDescriptor ds = some ty) (hn : narrow ty (.int x) = .int x) (hfit : fits ty (.int x) = true) (hlen : k < fs.length) (j : Nat) (hset : (wd cI cO ad S).set o (ad o, .inr (ci, fs.set k (.int x))) = wd cI cO ad (upk S 0 (upd (S 0) j x))) (hdg : decode cc pc = .ok (.putfield index, 3))
    (kk : ∀ S1 : vS, S1 = upk S 0 (upd (S 0) j x) → ∀ (H1 : Heap) (locs1 : List Loc), WD D cI cO ad s S1 H1 locs1 → W p l e R s m args below meth c H1 locs1 0 0 Q (F0 m (pc + 3) ls rest)) : W p l e R s m args below meth c H locs 0 0 Q (F0 m pc ls (.int x :: .ref (ad o) :: rest)) := by
  obtain ⟨h1, h2, h3⟩ := hT
  refine va_putN (Ts := c0 :: tW) (host := host) (ty := ty) X.1 X.2.1 X.2.2.2.2 (fun w h => List.mem_cons_of_mem _ (hin w h)) ty0 hty hnm X.2.2.2.1 hw.1 hw.2.1 hw.2.2.1 hw.2.2.2.1 o (by rw [wd_get ho, hce]) hc k hk (by rw [h2, h3]; exact va_Nw.use rfl (hw.2.2.2.2 _ hl)) (fun x h9 => by rw [h1] at h9; exact h9) hfin (by rw [h3]; exact hd) hn hfit hlen hdg (fun H1 locs1 hP hD hS => ?_)
  rw [hset] at hP hD
  exact kk _ rfl H1 locs1 ⟨hw.1, hP, hD, hS, hw.2.2.2.2⟩
theorem x_max (X : CallFix p m c cc nL s args (c0 :: tW) own) (hls : ls.size = nL) {index : Nat} (h1 : Cond.methodLink own index Lib.Math.max.name ∈ tW) (h2 : Cond.static Lib.Math.max.name ∈ tW) (h3 : Cond.initialized "java/lang/Math" ∈ tW) (h4 : Cond.code Lib.Math.max.name Lib.Math.max.code 2 (some .int) ∈ tW) (hf : 1 ≤ R.frames) (hlo : (rest.map fun v => v.category).sum + 13 ≤ R.locals) {x y : Int32} (hdg : decode cc pc = .ok (.invokestatic index, 3))
    (kk : W p l e R s m args below meth c H locs 0 0 Q (F0 m (pc + 3) ls (.int (mx x y) :: rest))) : W p l e R s m args below meth c H locs 0 0 Q (F0 m pc ls (.int y :: .int x :: rest)) :=
  va_mmax X.1 X.2.1 (X.2.2.1.trans hls.symm) X.2.2.2.1 (X.2.2.2.2 _ (List.mem_cons_of_mem _ h1)) (X.2.2.2.2 _ (List.mem_cons_of_mem _ h2)) (X.2.2.2.2 _ (List.mem_cons_of_mem _ h3)) (X.2.2.2.2 _ (List.mem_cons_of_mem _ h4)) hf hlo (Nat.zero_le _) (Nat.zero_le _) hdg kk
theorem x_min (X : CallFix p m c cc nL s args (c0 :: tW) own) (hls : ls.size = nL) {index : Nat} (h1 : Cond.methodLink own index Lib.Math.min.name ∈ tW) (h2 : Cond.static Lib.Math.min.name ∈ tW) (h3 : Cond.initialized "java/lang/Math" ∈ tW) (h4 : Cond.code Lib.Math.min.name Lib.Math.min.code 2 (some .int) ∈ tW) (hf : 1 ≤ R.frames) (hlo : (rest.map fun v => v.category).sum + 13 ≤ R.locals) {x y : Int32} (hdg : decode cc pc = .ok (.invokestatic index, 3))
    (kk : W p l e R s m args below meth c H locs 0 0 Q (F0 m (pc + 3) ls (.int (mn x y) :: rest))) : W p l e R s m args below meth c H locs 0 0 Q (F0 m pc ls (.int y :: .int x :: rest)) :=
  va_mmin X.1 X.2.1 (X.2.2.1.trans hls.symm) X.2.2.2.1 (X.2.2.2.2 _ (List.mem_cons_of_mem _ h1)) (X.2.2.2.2 _ (List.mem_cons_of_mem _ h2)) (X.2.2.2.2 _ (List.mem_cons_of_mem _ h3)) (X.2.2.2.2 _ (List.mem_cons_of_mem _ h4)) hf hlo (Nat.zero_le _) (Nat.zero_le _) hdg kk
theorem x_copy (X : CallFix p m c cc nL s args (c0 :: tW) own) (hw : WD D cI cO ad s S H locs) (hls : ls.size = nL) {index : Nat} (h1 : Cond.methodLink own index arraycopyName ∈ tW) (h2 : Cond.native arraycopyName ∈ tW) (h3 : Cond.static arraycopyName ∈ tW) (h4 : Cond.initialized "java/lang/System" ∈ tW) (a b : Nat) (ha : 1 ≤ a ∧ a ≤ 97) (hb : 1 ≤ b ∧ b ≤ 97) {sp dp n : Int32} (hin : (¬ sp < 0 ∧ ¬ dp < 0 ∧ ¬ n < 0) ∧ sp.toNatClampNeg + n.toNatClampNeg ≤ alen a ∧ dp.toNatClampNeg + n.toNatClampNeg ≤ alen b) (hf : 1 ≤ R.frames) (hlo : (rest.map fun v => v.category).sum + (nativeFrameWords "java/lang/System" "arraycopy" 5 + 11) ≤ R.locals) (hdg : decode cc pc = .ok (.invokestatic index, 3))
    (kk : ∀ S1 : vS, S1 = upk S b (va_cpy (S a) (S b) sp.toNatClampNeg dp.toNatClampNeg n.toNatClampNeg) → ∀ (H1 : Heap) (locs1 : List Loc), WD D cI cO ad s S1 H1 locs1 → W p l e R s m args below meth c H1 locs1 0 0 Q (F0 m (pc + 3) ls rest)) : W p l e R s m args below meth c H locs 0 0 Q (F0 m pc ls (.int n :: .int dp :: .ref (ar ad b) :: .int sp :: .ref (ar ad a) :: rest)) := by
  obtain ⟨⟨q1, q2, q3⟩, q4, q5⟩ := hin
  refine va_copyi X.1 X.2.1 (X.2.2.1.trans hls.symm) X.2.2.2.1 (X.2.2.2.2 _ (List.mem_cons_of_mem _ h1)) (X.2.2.2.2 _ (List.mem_cons_of_mem _ h2)) (X.2.2.2.2 _ (List.mem_cons_of_mem _ h3)) (X.2.2.2.2 _ (List.mem_cons_of_mem _ h4)) hw.1 hw.2.1 hw.2.2.1 hw.2.2.2.1 (11 + a) (11 + b) 0 0 (wd_arr ha) (wd_arr hb) rfl rfl rfl q1 q2 q3 q4 q5 (fun i hi => rfl) hf hlo hdg (fun H1 locs1 hP hD hS => ?_)
  rw [wd_seta hb] at hP hD
  exact kk _ rfl H1 locs1 ⟨hw.1, hP, hD, hS, hw.2.2.2.2⟩
/-- calls -/
theorem pb_blind {as : List Value} {sz : Nat} {S : vS} : FrameBlind (va_Pc as (PB D cI cO ad sz S)) := fun a U g mk q => by
  obtain ⟨q0, q1, qP, qK, qD, qN⟩ := q
  exact ⟨q0, q1, qP, va_K.moved (u := U) (U := U.calling g mk a) (Vm.Alike.refl U.vm) qK, qD, nOk.same (u := U) (U := U.calling g mk a) rfl qN⟩
theorem pb_pre (hw : WD D cI cO ad s S H locs) (as : List Value) : ∀ U : State, U.heap = H → s.WarmedH U.vm → va_Pc as (PB D cI cO ad H.size S) as.toArray U := fun U hU hW =>
  ⟨rfl, by rw [hU], by rw [hU]; exact hw.2.1, va_K.moved hW.alike hw.1, wd_D hw.2.2.1 (fun _ _ => trivial), nOk.warm hW hw.2.2.2.2⟩
theorem pb_recv (hw : WD D cI cO ad s S H locs) {o : Nat} (ho : o < 109) {ci : Nat} {fs : List Value} (hce : cel cI cO ad S o = .inr (ci, fs)) {q : vw_C} (hc : clsL[ci]? = some q) : ∃ cell : Cell, H[ad o]? = some cell ∧ cell.vm.isStatics = false ∧ s.vm.findClass q.1 = some cell.cls := va_recv hw.1 hw.2.1 hc (q0 := o) (by rw [wd_get ho, hce])
theorem wd_next (hw : WD D cI cO ad s S H locs) {S1 : vS} {t : State} {H1 : Heap} {locs1 : List Loc} (ht : t.heap = H1) (hB : va_P D clsL (wd cI cO ad S1) t.heap) (hS : va_S (AA ad s.heap.size) s.heap H1 locs1) : WD D cI cO ad s S1 H1 locs1 := ⟨hw.1, by rw [ht] at hB; exact hB, wd_D hw.2.2.1 (fun k hk => AA.in hk), hS, hw.2.2.2.2⟩
theorem kVi (X : CallFix p m c cc nL s args (c0 :: tW) own) (hw : WD D cI cO ad s S H locs) {y : MethodName} {b : ByteArray} {nM : Nat} {ret : FieldType} {rm : Room} {As : List Value} {r : Int32} {S' : vS} {o ci n index : Nat} {fs : List Value} {T : u_T} {N : Nat} (hM : CI l y b nM ret rm (.ref (ad o) :: As) D cI cO ad S r S') (ho : o < 109) (hce : cel cI cO ad S o = .inr (ci, fs)) (hc : clsL[ci]? = some (y.cls, T, N)) (hrm : rm.cells = 0 ∧ rm.slots = 0) (h1 : Cond.methodLink own index y ∈ tW) (h2 : Cond.instanceMethod y ∈ tW) (h3 : Cond.selects y.cls y y ∈ tW) (h4 : Cond.initialized y.cls ∈ tW) (h5 : Cond.code y b nM (some ret) ∈ tW)
    (hd : y.cls ≠ "java/lang/invoke/MethodHandle" ∧ y.cls ≠ "java/lang/invoke/VarHandle" ∧ (parseMethodDescriptor y.desc).map (fun d => d.parameters.length) = some n) (hR : rm.frames + 1 ≤ R.frames ∧ 8 + (nM + 11) + rm.locals ≤ R.locals) (hn : As.length = n) (hls : ls.size = nL) {st0 : List Value} (hst : st0 = As.reverse ++ .ref (ad o) :: rest) (hcat : (rest.map fun v => v.category).sum ≤ 8) (hdg : decode cc pc = .ok (.invokevirtual index, 3))
    (kk : ∀ (H1 : Heap) (locs1 : List Loc), WD D cI cO ad s S' H1 locs1 → W p l e R s m args below meth c H1 locs1 0 0 Q (F0 m (pc + 3) ls (.int r :: rest))) : W p l e R s m args below meth c H locs 0 0 Q (F0 m pc ls st0) := by
  have hts := X.2.2.2.2
  have tw : ∀ {w : Cond}, w ∈ tW → w.before args s = true := fun h => hts _ (List.mem_cons_of_mem _ h)
  refine va_calli (A0 := AA ad s.heap.size) (H0 := s.heap) (va_runV (As := As) (rest := rest) X (hM H.size) ⟨callB_of n hts (gTc h5) rfl hrm.1 hrm.2 (tw h4) (tw h1) hd hR, tw h2, tw h3⟩ ⟨pb_blind, pb_recv hw ho hce hc, pb_pre hw (.ref (ad o) :: As)⟩ rfl hn hls hst (lv_room hcat) hdg ⟨Nat.zero_le _, Nat.zero_le _⟩) hw.2.2.2.1 (hA_of hw.2.2.2.1) (hA_of2 hw.2.2.2.1) (fun r1 u t H1 locs1 ht hvm hq hB hz hk hS => ?_)
  obtain ⟨rfl, rfl⟩ := hq
  exact kk H1 locs1 (wd_next hw ht hB hS)
theorem kVv (X : CallFix p m c cc nL s args (c0 :: tW) own) (hw : WD D cI cO ad s S H locs) {y : MethodName} {b : ByteArray} {nM : Nat} {rm : Room} {As : List Value} {S' : vS} {o ci n index : Nat} {fs : List Value} {T : u_T} {N : Nat} (hM : CV l y b nM rm (.ref (ad o) :: As) D cI cO ad S S') (ho : o < 109) (hce : cel cI cO ad S o = .inr (ci, fs)) (hc : clsL[ci]? = some (y.cls, T, N)) (hrm : rm.cells = 0 ∧ rm.slots = 0) (h1 : Cond.methodLink own index y ∈ tW) (h2 : Cond.instanceMethod y ∈ tW) (h3 : Cond.selects y.cls y y ∈ tW) (h4 : Cond.initialized y.cls ∈ tW) (h5 : Cond.code y b nM none ∈ tW)
    (hd : y.cls ≠ "java/lang/invoke/MethodHandle" ∧ y.cls ≠ "java/lang/invoke/VarHandle" ∧ (parseMethodDescriptor y.desc).map (fun d => d.parameters.length) = some n) (hR : rm.frames + 1 ≤ R.frames ∧ 8 + (nM + 11) + rm.locals ≤ R.locals) (hn : As.length = n) (hls : ls.size = nL) {st0 : List Value} (hst : st0 = As.reverse ++ .ref (ad o) :: rest) (hcat : (rest.map fun v => v.category).sum ≤ 8) (hdg : decode cc pc = .ok (.invokevirtual index, 3))
    (kk : ∀ (H1 : Heap) (locs1 : List Loc), WD D cI cO ad s S' H1 locs1 → W p l e R s m args below meth c H1 locs1 0 0 Q (F0 m (pc + 3) ls rest)) : W p l e R s m args below meth c H locs 0 0 Q (F0 m pc ls st0) := by
  have hts := X.2.2.2.2
  have tw : ∀ {w : Cond}, w ∈ tW → w.before args s = true := fun h => hts _ (List.mem_cons_of_mem _ h)
  refine va_callv (A0 := AA ad s.heap.size) (H0 := s.heap) (va_runV (As := As) (rest := rest) X (hM H.size) ⟨callB_of n hts (gTc h5) rfl hrm.1 hrm.2 (tw h4) (tw h1) hd hR, tw h2, tw h3⟩ ⟨pb_blind, pb_recv hw ho hce hc, pb_pre hw (.ref (ad o) :: As)⟩ rfl hn hls hst (lv_room hcat) hdg ⟨Nat.zero_le _, Nat.zero_le _⟩) hw.2.2.2.1 (hA_of hw.2.2.2.1) (hA_of2 hw.2.2.2.1) (fun u t H1 locs1 ht hvm hq hB hz hk hS => ?_)
  subst hq
  exact kk H1 locs1 (wd_next hw ht hB hS)
theorem kNi (X : CallFix p m c cc nL s args (c0 :: tW) own) (hw : WD D cI cO ad s S H locs) {y : MethodName} {b : ByteArray} {nM : Nat} {ret : FieldType} {rm : Room} {As : List Value} {r : Int32} {S' : vS} {o ci n index : Nat} {host : String} {fs : List Value} {T : u_T} {N : Nat} (hM : CI l y b nM ret rm (.ref (ad o) :: As) D cI cO ad S r S') (ho : o < 109) (hce : cel cI cO ad S o = .inr (ci, fs)) (hc : clsL[ci]? = some (y.cls, T, N)) (hrm : rm.cells = 0 ∧ rm.slots = 0) (h1 : Cond.methodLinkNest own index y host ∈ nW) (h2 : Cond.instanceMethod y ∈ tW) (h3 : Cond.selects y.cls y y ∈ tW) (h4 : Cond.initialized y.cls ∈ tW) (h5 : Cond.code y b nM (some ret) ∈ tW)
    (hd : y.cls ≠ "java/lang/invoke/MethodHandle" ∧ y.cls ≠ "java/lang/invoke/VarHandle" ∧ (parseMethodDescriptor y.desc).map (fun d => d.parameters.length) = some n) (hR : rm.frames + 1 ≤ R.frames ∧ 8 + (nM + 11) + rm.locals ≤ R.locals) (hn : As.length = n) (hls : ls.size = nL) {st0 : List Value} (hst : st0 = As.reverse ++ .ref (ad o) :: rest) (hcat : (rest.map fun v => v.category).sum ≤ 8) (hdg : decode cc pc = .ok (.invokevirtual index, 3))
    (kk : ∀ (H1 : Heap) (locs1 : List Loc), WD D cI cO ad s S' H1 locs1 → W p l e R s m args below meth c H1 locs1 0 0 Q (F0 m (pc + 3) ls (.int r :: rest))) : W p l e R s m args below meth c H locs 0 0 Q (F0 m pc ls st0) := by
  have hts := X.2.2.2.2
  have tw : ∀ {w : Cond}, w ∈ tW → w.before args s = true := fun h => hts _ (List.mem_cons_of_mem _ h)
  refine va_calli (A0 := AA ad s.heap.size) (H0 := s.heap) (va_runVN (As := As) (rest := rest) X (hM H.size) ⟨va_cnB n hts (gTc h5) rfl hrm.1 hrm.2 (hw.2.2.2.2 _ h1) (tw h4) hd hR, tw h2, tw h3⟩ ⟨pb_blind, pb_recv hw ho hce hc, pb_pre hw (.ref (ad o) :: As)⟩ rfl hn hls hst (lv_room hcat) hdg ⟨Nat.zero_le _, Nat.zero_le _⟩) hw.2.2.2.1 (hA_of hw.2.2.2.1) (hA_of2 hw.2.2.2.1) (fun r1 u t H1 locs1 ht hvm hq hB hz hk hS => ?_)
  obtain ⟨rfl, rfl⟩ := hq
  exact kk H1 locs1 (wd_next hw ht hB hS)
theorem kNv (X : CallFix p m c cc nL s args (c0 :: tW) own) (hw : WD D cI cO ad s S H locs) {y : MethodName} {b : ByteArray} {nM : Nat} {rm : Room} {As : List Value} {S' : vS} {o ci n index : Nat} {host : String} {fs : List Value} {T : u_T} {N : Nat} (hM : CV l y b nM rm (.ref (ad o) :: As) D cI cO ad S S') (ho : o < 109) (hce : cel cI cO ad S o = .inr (ci, fs)) (hc : clsL[ci]? = some (y.cls, T, N)) (hrm : rm.cells = 0 ∧ rm.slots = 0) (h1 : Cond.methodLinkNest own index y host ∈ nW) (h2 : Cond.instanceMethod y ∈ tW) (h3 : Cond.selects y.cls y y ∈ tW) (h4 : Cond.initialized y.cls ∈ tW) (h5 : Cond.code y b nM none ∈ tW)
    (hd : y.cls ≠ "java/lang/invoke/MethodHandle" ∧ y.cls ≠ "java/lang/invoke/VarHandle" ∧ (parseMethodDescriptor y.desc).map (fun d => d.parameters.length) = some n) (hR : rm.frames + 1 ≤ R.frames ∧ 8 + (nM + 11) + rm.locals ≤ R.locals) (hn : As.length = n) (hls : ls.size = nL) {st0 : List Value} (hst : st0 = As.reverse ++ .ref (ad o) :: rest) (hcat : (rest.map fun v => v.category).sum ≤ 8) (hdg : decode cc pc = .ok (.invokevirtual index, 3))
    (kk : ∀ (H1 : Heap) (locs1 : List Loc), WD D cI cO ad s S' H1 locs1 → W p l e R s m args below meth c H1 locs1 0 0 Q (F0 m (pc + 3) ls rest)) : W p l e R s m args below meth c H locs 0 0 Q (F0 m pc ls st0) := by
  have hts := X.2.2.2.2
  have tw : ∀ {w : Cond}, w ∈ tW → w.before args s = true := fun h => hts _ (List.mem_cons_of_mem _ h)
  refine va_callv (A0 := AA ad s.heap.size) (H0 := s.heap) (va_runVN (As := As) (rest := rest) X (hM H.size) ⟨va_cnB n hts (gTc h5) rfl hrm.1 hrm.2 (hw.2.2.2.2 _ h1) (tw h4) hd hR, tw h2, tw h3⟩ ⟨pb_blind, pb_recv hw ho hce hc, pb_pre hw (.ref (ad o) :: As)⟩ rfl hn hls hst (lv_room hcat) hdg ⟨Nat.zero_le _, Nat.zero_le _⟩) hw.2.2.2.1 (hA_of hw.2.2.2.1) (hA_of2 hw.2.2.2.1) (fun u t H1 locs1 ht hvm hq hB hz hk hS => ?_)
  subst hq
  exact kk H1 locs1 (wd_next hw ht hB hS)
theorem kSi (X : CallFix p m c cc nL s args (c0 :: tW) own) (hw : WD D cI cO ad s S H locs) {y : MethodName} {b : ByteArray} {nM : Nat} {ret : FieldType} {rm : Room} {As : List Value} {r : Int32} {S' : vS} {n index : Nat} (hM : CI l y b nM ret rm As D cI cO ad S r S') (hrm : rm.cells = 0 ∧ rm.slots = 0) (h1 : Cond.methodLink own index y ∈ tW) (h2 : Cond.static y ∈ tW) (h4 : Cond.initialized y.cls ∈ tW) (h5 : Cond.code y b nM (some ret) ∈ tW)
    (hd : y.cls ≠ "java/lang/invoke/MethodHandle" ∧ y.cls ≠ "java/lang/invoke/VarHandle" ∧ (parseMethodDescriptor y.desc).map (fun d => d.parameters.length) = some n) (hR : rm.frames + 1 ≤ R.frames ∧ 8 + (nM + 11) + rm.locals ≤ R.locals) (hn : As.length = n) (hls : ls.size = nL) {st0 : List Value} (hst : st0 = As.reverse ++ rest) (hcat : (rest.map fun v => v.category).sum ≤ 8) (hdg : decode cc pc = .ok (.invokestatic index, 3))
    (kk : ∀ (H1 : Heap) (locs1 : List Loc), WD D cI cO ad s S' H1 locs1 → W p l e R s m args below meth c H1 locs1 0 0 Q (F0 m (pc + 3) ls (.int r :: rest))) : W p l e R s m args below meth c H locs 0 0 Q (F0 m pc ls st0) := by
  have hts := X.2.2.2.2
  have tw : ∀ {w : Cond}, w ∈ tW → w.before args s = true := fun h => hts _ (List.mem_cons_of_mem _ h)
  refine va_calli (A0 := AA ad s.heap.size) (H0 := s.heap) (va_runS (As := As) (rest := rest) X (hM H.size) ⟨callB_of n hts (gTc h5) rfl hrm.1 hrm.2 (tw h4) (tw h1) hd hR, tw h2⟩ ⟨pb_blind, pb_pre hw As⟩ rfl hn hls hst (lv_room hcat) hdg ⟨Nat.zero_le _, Nat.zero_le _⟩) hw.2.2.2.1 (hA_of hw.2.2.2.1) (hA_of2 hw.2.2.2.1) (fun r1 u t H1 locs1 ht hvm hq hB hz hk hS => ?_)
  obtain ⟨rfl, rfl⟩ := hq
  exact kk H1 locs1 (wd_next hw ht hB hS)
theorem kSv (X : CallFix p m c cc nL s args (c0 :: tW) own) (hw : WD D cI cO ad s S H locs) {y : MethodName} {b : ByteArray} {nM : Nat} {rm : Room} {As : List Value} {S' : vS} {n index : Nat} (hM : CV l y b nM rm As D cI cO ad S S') (hrm : rm.cells = 0 ∧ rm.slots = 0) (h1 : Cond.methodLink own index y ∈ tW) (h2 : Cond.static y ∈ tW) (h4 : Cond.initialized y.cls ∈ tW) (h5 : Cond.code y b nM none ∈ tW)
    (hd : y.cls ≠ "java/lang/invoke/MethodHandle" ∧ y.cls ≠ "java/lang/invoke/VarHandle" ∧ (parseMethodDescriptor y.desc).map (fun d => d.parameters.length) = some n) (hR : rm.frames + 1 ≤ R.frames ∧ 8 + (nM + 11) + rm.locals ≤ R.locals) (hn : As.length = n) (hls : ls.size = nL) {st0 : List Value} (hst : st0 = As.reverse ++ rest) (hcat : (rest.map fun v => v.category).sum ≤ 8) (hdg : decode cc pc = .ok (.invokestatic index, 3))
    (kk : ∀ (H1 : Heap) (locs1 : List Loc), WD D cI cO ad s S' H1 locs1 → W p l e R s m args below meth c H1 locs1 0 0 Q (F0 m (pc + 3) ls rest)) : W p l e R s m args below meth c H locs 0 0 Q (F0 m pc ls st0) := by
  have hts := X.2.2.2.2
  have tw : ∀ {w : Cond}, w ∈ tW → w.before args s = true := fun h => hts _ (List.mem_cons_of_mem _ h)
  refine va_callv (A0 := AA ad s.heap.size) (H0 := s.heap) (va_runS (As := As) (rest := rest) X (hM H.size) ⟨callB_of n hts (gTc h5) rfl hrm.1 hrm.2 (tw h4) (tw h1) hd hR, tw h2⟩ ⟨pb_blind, pb_pre hw As⟩ rfl hn hls hst (lv_room hcat) hdg ⟨Nat.zero_le _, Nat.zero_le _⟩) hw.2.2.2.1 (hA_of hw.2.2.2.1) (hA_of2 hw.2.2.2.1) (fun u t H1 locs1 ht hvm hq hB hz hk hS => ?_)
  subst hq
  exact kk H1 locs1 (wd_next hw ht hB hS)
theorem kSNi (X : CallFix p m c cc nL s args (c0 :: tW) own) (hw : WD D cI cO ad s S H locs) {y : MethodName} {b : ByteArray} {nM : Nat} {ret : FieldType} {rm : Room} {As : List Value} {r : Int32} {S' : vS} {n index : Nat} {host : String} (hM : CI l y b nM ret rm As D cI cO ad S r S') (hrm : rm.cells = 0 ∧ rm.slots = 0) (h1 : Cond.methodLinkNest own index y host ∈ nW) (h2 : Cond.static y ∈ tW) (h4 : Cond.initialized y.cls ∈ tW) (h5 : Cond.code y b nM (some ret) ∈ tW)
    (hd : y.cls ≠ "java/lang/invoke/MethodHandle" ∧ y.cls ≠ "java/lang/invoke/VarHandle" ∧ (parseMethodDescriptor y.desc).map (fun d => d.parameters.length) = some n) (hR : rm.frames + 1 ≤ R.frames ∧ 8 + (nM + 11) + rm.locals ≤ R.locals) (hn : As.length = n) (hls : ls.size = nL) {st0 : List Value} (hst : st0 = As.reverse ++ rest) (hcat : (rest.map fun v => v.category).sum ≤ 8) (hdg : decode cc pc = .ok (.invokestatic index, 3))
    (kk : ∀ (H1 : Heap) (locs1 : List Loc), WD D cI cO ad s S' H1 locs1 → W p l e R s m args below meth c H1 locs1 0 0 Q (F0 m (pc + 3) ls (.int r :: rest))) : W p l e R s m args below meth c H locs 0 0 Q (F0 m pc ls st0) := by
  have hts := X.2.2.2.2
  have tw : ∀ {w : Cond}, w ∈ tW → w.before args s = true := fun h => hts _ (List.mem_cons_of_mem _ h)
  refine va_calli (A0 := AA ad s.heap.size) (H0 := s.heap) (va_runSN (As := As) (rest := rest) X (hM H.size) ⟨va_cnB n hts (gTc h5) rfl hrm.1 hrm.2 (hw.2.2.2.2 _ h1) (tw h4) hd hR, tw h2, trivial⟩ ⟨pb_blind, pb_pre hw As⟩ rfl hn hls hst (lv_room hcat) hdg ⟨Nat.zero_le _, Nat.zero_le _⟩) hw.2.2.2.1 (hA_of hw.2.2.2.1) (hA_of2 hw.2.2.2.1) (fun r1 u t H1 locs1 ht hvm hq hB hz hk hS => ?_)
  obtain ⟨rfl, rfl⟩ := hq
  exact kk H1 locs1 (wd_next hw ht hB hS)
end XR
-- each object's fields, and what a store into one is
section XF
variable {cI cO : ClassId} {ad : Nat → Nat} {S : vS}
theorem ce0 : cel cI cO ad S 0 = .inr (3, [.ref (ad 1), .ref (ad 2), .ref (ad 3), .ref (ad 4), .ref (ar ad 32), .ref (ar ad 33), .int (S 0 17), .int (S 0 18)]) := rfl
theorem ce1 : cel cI cO ad S 1 = .inr (2, [.ref (ar ad 22), .int (S 0 10), .int (S 0 11)]) := rfl
theorem ce2 : cel cI cO ad S 2 = .inr (0, [.ref (ad 6), .ref (ad 7), .ref (ar ad 23), .ref (ad 8), .int (S 0 12)]) := rfl
theorem ce3 : cel cI cO ad S 3 = .inr (0, [.ref (ad 9), .ref (ad 10), .ref (ar ad 24), .ref (ad 11), .int (S 0 13)]) := rfl
theorem ce4 : cel cI cO ad S 4 = .inr (1, [.ref (ar ad 25), .ref (ar ad 26), .ref (ar ad 27), .ref (ar ad 28), .ref (ar ad 29), .ref (ar ad 30), .ref (ar ad 31), .int (S 0 14), .int (S 0 15), .int (S 0 16)]) := rfl
theorem ce5 : cel cI cO ad S 5 = .inr (4, [.ref (ar ad 1), .ref (ar ad 2), .ref (ar ad 3), .ref (ar ad 4), .ref (ar ad 5), .ref (ar ad 6), .ref (ar ad 7), .ref (ar ad 8), .ref (ar ad 9), .ref (ar ad 10), .ref (ar ad 11), .ref (ar ad 12), .ref (ar ad 13), .int (S 0 0), .int (S 0 1), .int (S 0 2), .int (S 0 3), .ref (ar ad 14), .ref (ar ad 15), .ref (ar ad 16), .ref (ar ad 17), .ref (ar ad 18), .ref (ar ad 19), .int (S 0 4), .ref (ar ad 20), .int (S 0 5), .ref (ar ad 21), .int (S 0 6), .int (S 0 7), .int (S 0 8)]) := rfl
theorem ce6 : cel cI cO ad S 6 = .inl (cO, 20, .inr (.inr (.inr (.inr (fun i => some (ar ad (34 + i))))))) := rfl
theorem ce7 : cel cI cO ad S 7 = .inl (cO, 6, .inr (.inr (.inr (.inr (fun i => some (ar ad (54 + i))))))) := rfl
theorem ce8 : cel cI cO ad S 8 = .inl (cO, 6, .inr (.inr (.inr (.inr (fun i => some (ar ad (60 + i))))))) := rfl
theorem ce9 : cel cI cO ad S 9 = .inl (cO, 20, .inr (.inr (.inr (.inr (fun i => some (ar ad (66 + i))))))) := rfl
theorem ce10 : cel cI cO ad S 10 = .inl (cO, 6, .inr (.inr (.inr (.inr (fun i => some (ar ad (86 + i))))))) := rfl
theorem ce11 : cel cI cO ad S 11 = .inl (cO, 6, .inr (.inr (.inr (.inr (fun i => some (ar ad (92 + i))))))) := rfl
theorem ws_17 (x : Int32) : (wd cI cO ad S).set 0 (ad 0, .inr (3, ([.ref (ad 1), .ref (ad 2), .ref (ad 3), .ref (ad 4), .ref (ar ad 32), .ref (ar ad 33), .int (S 0 17), .int (S 0 18)] : List Value).set 6 (.int x))) = wd cI cO ad (upk S 0 (upd (S 0) 17 x)) := wd_set (Nat.le_of_ble_eq_true rfl) (by simp [cel, upk, upd]) (fun i hi => by unfold cel; split <;> first | rfl | (simp [upk, upd]; done) | exact absurd rfl hi)
theorem ws_18 (x : Int32) : (wd cI cO ad S).set 0 (ad 0, .inr (3, ([.ref (ad 1), .ref (ad 2), .ref (ad 3), .ref (ad 4), .ref (ar ad 32), .ref (ar ad 33), .int (S 0 17), .int (S 0 18)] : List Value).set 7 (.int x))) = wd cI cO ad (upk S 0 (upd (S 0) 18 x)) := wd_set (Nat.le_of_ble_eq_true rfl) (by simp [cel, upk, upd]) (fun i hi => by unfold cel; split <;> first | rfl | (simp [upk, upd]; done) | exact absurd rfl hi)
theorem ws_10 (x : Int32) : (wd cI cO ad S).set 1 (ad 1, .inr (2, ([.ref (ar ad 22), .int (S 0 10), .int (S 0 11)] : List Value).set 1 (.int x))) = wd cI cO ad (upk S 0 (upd (S 0) 10 x)) := wd_set (Nat.le_of_ble_eq_true rfl) (by simp [cel, upk, upd]) (fun i hi => by unfold cel; split <;> first | rfl | (simp [upk, upd]; done) | exact absurd rfl hi)
theorem ws_11 (x : Int32) : (wd cI cO ad S).set 1 (ad 1, .inr (2, ([.ref (ar ad 22), .int (S 0 10), .int (S 0 11)] : List Value).set 2 (.int x))) = wd cI cO ad (upk S 0 (upd (S 0) 11 x)) := wd_set (Nat.le_of_ble_eq_true rfl) (by simp [cel, upk, upd]) (fun i hi => by unfold cel; split <;> first | rfl | (simp [upk, upd]; done) | exact absurd rfl hi)
theorem ws_12 (x : Int32) : (wd cI cO ad S).set 2 (ad 2, .inr (0, ([.ref (ad 6), .ref (ad 7), .ref (ar ad 23), .ref (ad 8), .int (S 0 12)] : List Value).set 4 (.int x))) = wd cI cO ad (upk S 0 (upd (S 0) 12 x)) := wd_set (Nat.le_of_ble_eq_true rfl) (by simp [cel, upk, upd]) (fun i hi => by unfold cel; split <;> first | rfl | (simp [upk, upd]; done) | exact absurd rfl hi)
theorem ws_13 (x : Int32) : (wd cI cO ad S).set 3 (ad 3, .inr (0, ([.ref (ad 9), .ref (ad 10), .ref (ar ad 24), .ref (ad 11), .int (S 0 13)] : List Value).set 4 (.int x))) = wd cI cO ad (upk S 0 (upd (S 0) 13 x)) := wd_set (Nat.le_of_ble_eq_true rfl) (by simp [cel, upk, upd]) (fun i hi => by unfold cel; split <;> first | rfl | (simp [upk, upd]; done) | exact absurd rfl hi)
theorem ws_14 (x : Int32) : (wd cI cO ad S).set 4 (ad 4, .inr (1, ([.ref (ar ad 25), .ref (ar ad 26), .ref (ar ad 27), .ref (ar ad 28), .ref (ar ad 29), .ref (ar ad 30), .ref (ar ad 31), .int (S 0 14), .int (S 0 15), .int (S 0 16)] : List Value).set 7 (.int x))) = wd cI cO ad (upk S 0 (upd (S 0) 14 x)) := wd_set (Nat.le_of_ble_eq_true rfl) (by simp [cel, upk, upd]) (fun i hi => by unfold cel; split <;> first | rfl | (simp [upk, upd]; done) | exact absurd rfl hi)
theorem ws_15 (x : Int32) : (wd cI cO ad S).set 4 (ad 4, .inr (1, ([.ref (ar ad 25), .ref (ar ad 26), .ref (ar ad 27), .ref (ar ad 28), .ref (ar ad 29), .ref (ar ad 30), .ref (ar ad 31), .int (S 0 14), .int (S 0 15), .int (S 0 16)] : List Value).set 8 (.int x))) = wd cI cO ad (upk S 0 (upd (S 0) 15 x)) := wd_set (Nat.le_of_ble_eq_true rfl) (by simp [cel, upk, upd]) (fun i hi => by unfold cel; split <;> first | rfl | (simp [upk, upd]; done) | exact absurd rfl hi)
theorem ws_16 (x : Int32) : (wd cI cO ad S).set 4 (ad 4, .inr (1, ([.ref (ar ad 25), .ref (ar ad 26), .ref (ar ad 27), .ref (ar ad 28), .ref (ar ad 29), .ref (ar ad 30), .ref (ar ad 31), .int (S 0 14), .int (S 0 15), .int (S 0 16)] : List Value).set 9 (.int x))) = wd cI cO ad (upk S 0 (upd (S 0) 16 x)) := wd_set (Nat.le_of_ble_eq_true rfl) (by simp [cel, upk, upd]) (fun i hi => by unfold cel; split <;> first | rfl | (simp [upk, upd]; done) | exact absurd rfl hi)
theorem ws_0 (x : Int32) : (wd cI cO ad S).set 5 (ad 5, .inr (4, ([.ref (ar ad 1), .ref (ar ad 2), .ref (ar ad 3), .ref (ar ad 4), .ref (ar ad 5), .ref (ar ad 6), .ref (ar ad 7), .ref (ar ad 8), .ref (ar ad 9), .ref (ar ad 10), .ref (ar ad 11), .ref (ar ad 12), .ref (ar ad 13), .int (S 0 0), .int (S 0 1), .int (S 0 2), .int (S 0 3), .ref (ar ad 14), .ref (ar ad 15), .ref (ar ad 16), .ref (ar ad 17), .ref (ar ad 18), .ref (ar ad 19), .int (S 0 4), .ref (ar ad 20), .int (S 0 5), .ref (ar ad 21), .int (S 0 6), .int (S 0 7), .int (S 0 8)] : List Value).set 13 (.int x))) = wd cI cO ad (upk S 0 (upd (S 0) 0 x)) := wd_set (Nat.le_of_ble_eq_true rfl) (by simp [cel, upk, upd]) (fun i hi => by unfold cel; split <;> first | rfl | (simp [upk, upd]; done) | exact absurd rfl hi)
theorem ws_1 (x : Int32) : (wd cI cO ad S).set 5 (ad 5, .inr (4, ([.ref (ar ad 1), .ref (ar ad 2), .ref (ar ad 3), .ref (ar ad 4), .ref (ar ad 5), .ref (ar ad 6), .ref (ar ad 7), .ref (ar ad 8), .ref (ar ad 9), .ref (ar ad 10), .ref (ar ad 11), .ref (ar ad 12), .ref (ar ad 13), .int (S 0 0), .int (S 0 1), .int (S 0 2), .int (S 0 3), .ref (ar ad 14), .ref (ar ad 15), .ref (ar ad 16), .ref (ar ad 17), .ref (ar ad 18), .ref (ar ad 19), .int (S 0 4), .ref (ar ad 20), .int (S 0 5), .ref (ar ad 21), .int (S 0 6), .int (S 0 7), .int (S 0 8)] : List Value).set 14 (.int x))) = wd cI cO ad (upk S 0 (upd (S 0) 1 x)) := wd_set (Nat.le_of_ble_eq_true rfl) (by simp [cel, upk, upd]) (fun i hi => by unfold cel; split <;> first | rfl | (simp [upk, upd]; done) | exact absurd rfl hi)
theorem ws_2 (x : Int32) : (wd cI cO ad S).set 5 (ad 5, .inr (4, ([.ref (ar ad 1), .ref (ar ad 2), .ref (ar ad 3), .ref (ar ad 4), .ref (ar ad 5), .ref (ar ad 6), .ref (ar ad 7), .ref (ar ad 8), .ref (ar ad 9), .ref (ar ad 10), .ref (ar ad 11), .ref (ar ad 12), .ref (ar ad 13), .int (S 0 0), .int (S 0 1), .int (S 0 2), .int (S 0 3), .ref (ar ad 14), .ref (ar ad 15), .ref (ar ad 16), .ref (ar ad 17), .ref (ar ad 18), .ref (ar ad 19), .int (S 0 4), .ref (ar ad 20), .int (S 0 5), .ref (ar ad 21), .int (S 0 6), .int (S 0 7), .int (S 0 8)] : List Value).set 15 (.int x))) = wd cI cO ad (upk S 0 (upd (S 0) 2 x)) := wd_set (Nat.le_of_ble_eq_true rfl) (by simp [cel, upk, upd]) (fun i hi => by unfold cel; split <;> first | rfl | (simp [upk, upd]; done) | exact absurd rfl hi)
theorem ws_3 (x : Int32) : (wd cI cO ad S).set 5 (ad 5, .inr (4, ([.ref (ar ad 1), .ref (ar ad 2), .ref (ar ad 3), .ref (ar ad 4), .ref (ar ad 5), .ref (ar ad 6), .ref (ar ad 7), .ref (ar ad 8), .ref (ar ad 9), .ref (ar ad 10), .ref (ar ad 11), .ref (ar ad 12), .ref (ar ad 13), .int (S 0 0), .int (S 0 1), .int (S 0 2), .int (S 0 3), .ref (ar ad 14), .ref (ar ad 15), .ref (ar ad 16), .ref (ar ad 17), .ref (ar ad 18), .ref (ar ad 19), .int (S 0 4), .ref (ar ad 20), .int (S 0 5), .ref (ar ad 21), .int (S 0 6), .int (S 0 7), .int (S 0 8)] : List Value).set 16 (.int x))) = wd cI cO ad (upk S 0 (upd (S 0) 3 x)) := wd_set (Nat.le_of_ble_eq_true rfl) (by simp [cel, upk, upd]) (fun i hi => by unfold cel; split <;> first | rfl | (simp [upk, upd]; done) | exact absurd rfl hi)
theorem ws_4 (x : Int32) : (wd cI cO ad S).set 5 (ad 5, .inr (4, ([.ref (ar ad 1), .ref (ar ad 2), .ref (ar ad 3), .ref (ar ad 4), .ref (ar ad 5), .ref (ar ad 6), .ref (ar ad 7), .ref (ar ad 8), .ref (ar ad 9), .ref (ar ad 10), .ref (ar ad 11), .ref (ar ad 12), .ref (ar ad 13), .int (S 0 0), .int (S 0 1), .int (S 0 2), .int (S 0 3), .ref (ar ad 14), .ref (ar ad 15), .ref (ar ad 16), .ref (ar ad 17), .ref (ar ad 18), .ref (ar ad 19), .int (S 0 4), .ref (ar ad 20), .int (S 0 5), .ref (ar ad 21), .int (S 0 6), .int (S 0 7), .int (S 0 8)] : List Value).set 23 (.int x))) = wd cI cO ad (upk S 0 (upd (S 0) 4 x)) := wd_set (Nat.le_of_ble_eq_true rfl) (by simp [cel, upk, upd]) (fun i hi => by unfold cel; split <;> first | rfl | (simp [upk, upd]; done) | exact absurd rfl hi)
theorem ws_5 (x : Int32) : (wd cI cO ad S).set 5 (ad 5, .inr (4, ([.ref (ar ad 1), .ref (ar ad 2), .ref (ar ad 3), .ref (ar ad 4), .ref (ar ad 5), .ref (ar ad 6), .ref (ar ad 7), .ref (ar ad 8), .ref (ar ad 9), .ref (ar ad 10), .ref (ar ad 11), .ref (ar ad 12), .ref (ar ad 13), .int (S 0 0), .int (S 0 1), .int (S 0 2), .int (S 0 3), .ref (ar ad 14), .ref (ar ad 15), .ref (ar ad 16), .ref (ar ad 17), .ref (ar ad 18), .ref (ar ad 19), .int (S 0 4), .ref (ar ad 20), .int (S 0 5), .ref (ar ad 21), .int (S 0 6), .int (S 0 7), .int (S 0 8)] : List Value).set 25 (.int x))) = wd cI cO ad (upk S 0 (upd (S 0) 5 x)) := wd_set (Nat.le_of_ble_eq_true rfl) (by simp [cel, upk, upd]) (fun i hi => by unfold cel; split <;> first | rfl | (simp [upk, upd]; done) | exact absurd rfl hi)
theorem ws_6 (x : Int32) : (wd cI cO ad S).set 5 (ad 5, .inr (4, ([.ref (ar ad 1), .ref (ar ad 2), .ref (ar ad 3), .ref (ar ad 4), .ref (ar ad 5), .ref (ar ad 6), .ref (ar ad 7), .ref (ar ad 8), .ref (ar ad 9), .ref (ar ad 10), .ref (ar ad 11), .ref (ar ad 12), .ref (ar ad 13), .int (S 0 0), .int (S 0 1), .int (S 0 2), .int (S 0 3), .ref (ar ad 14), .ref (ar ad 15), .ref (ar ad 16), .ref (ar ad 17), .ref (ar ad 18), .ref (ar ad 19), .int (S 0 4), .ref (ar ad 20), .int (S 0 5), .ref (ar ad 21), .int (S 0 6), .int (S 0 7), .int (S 0 8)] : List Value).set 27 (.int x))) = wd cI cO ad (upk S 0 (upd (S 0) 6 x)) := wd_set (Nat.le_of_ble_eq_true rfl) (by simp [cel, upk, upd]) (fun i hi => by unfold cel; split <;> first | rfl | (simp [upk, upd]; done) | exact absurd rfl hi)
theorem ws_7 (x : Int32) : (wd cI cO ad S).set 5 (ad 5, .inr (4, ([.ref (ar ad 1), .ref (ar ad 2), .ref (ar ad 3), .ref (ar ad 4), .ref (ar ad 5), .ref (ar ad 6), .ref (ar ad 7), .ref (ar ad 8), .ref (ar ad 9), .ref (ar ad 10), .ref (ar ad 11), .ref (ar ad 12), .ref (ar ad 13), .int (S 0 0), .int (S 0 1), .int (S 0 2), .int (S 0 3), .ref (ar ad 14), .ref (ar ad 15), .ref (ar ad 16), .ref (ar ad 17), .ref (ar ad 18), .ref (ar ad 19), .int (S 0 4), .ref (ar ad 20), .int (S 0 5), .ref (ar ad 21), .int (S 0 6), .int (S 0 7), .int (S 0 8)] : List Value).set 28 (.int x))) = wd cI cO ad (upk S 0 (upd (S 0) 7 x)) := wd_set (Nat.le_of_ble_eq_true rfl) (by simp [cel, upk, upd]) (fun i hi => by unfold cel; split <;> first | rfl | (simp [upk, upd]; done) | exact absurd rfl hi)
theorem ws_8 (x : Int32) : (wd cI cO ad S).set 5 (ad 5, .inr (4, ([.ref (ar ad 1), .ref (ar ad 2), .ref (ar ad 3), .ref (ar ad 4), .ref (ar ad 5), .ref (ar ad 6), .ref (ar ad 7), .ref (ar ad 8), .ref (ar ad 9), .ref (ar ad 10), .ref (ar ad 11), .ref (ar ad 12), .ref (ar ad 13), .int (S 0 0), .int (S 0 1), .int (S 0 2), .int (S 0 3), .ref (ar ad 14), .ref (ar ad 15), .ref (ar ad 16), .ref (ar ad 17), .ref (ar ad 18), .ref (ar ad 19), .int (S 0 4), .ref (ar ad 20), .int (S 0 5), .ref (ar ad 21), .int (S 0 6), .int (S 0 7), .int (S 0 8)] : List Value).set 29 (.int x))) = wd cI cO ad (upk S 0 (upd (S 0) 8 x)) := wd_set (Nat.le_of_ble_eq_true rfl) (by simp [cel, upk, upd]) (fun i hi => by unfold cel; split <;> first | rfl | (simp [upk, upd]; done) | exact absurd rfl hi)
end XF
theorem i_X0 : ∀ w ∈ wsX00, w ∈ tW := fun w h => List.mem_filter.mpr ⟨(by decide +kernel : ∀ w ∈ wsX00, w ∈ lw_tbl) w h, (by decide +kernel : ∀ w ∈ wsX00, goodWord w = true) w h⟩
theorem i_X1 : ∀ w ∈ wsX10, w ∈ tW := fun w h => List.mem_filter.mpr ⟨(by decide +kernel : ∀ w ∈ wsX10, w ∈ lw_tbl) w h, (by decide +kernel : ∀ w ∈ wsX10, goodWord w = true) w h⟩
theorem i_X2 : ∀ w ∈ wsX20, w ∈ tW := fun w h => List.mem_filter.mpr ⟨(by decide +kernel : ∀ w ∈ wsX20, w ∈ lw_tbl) w h, (by decide +kernel : ∀ w ∈ wsX20, goodWord w = true) w h⟩
theorem i_X3 : ∀ w ∈ wsX30, w ∈ tW := fun w h => List.mem_filter.mpr ⟨(by decide +kernel : ∀ w ∈ wsX30, w ∈ lw_tbl) w h, (by decide +kernel : ∀ w ∈ wsX30, goodWord w = true) w h⟩
theorem i_X4 : ∀ w ∈ wsX40, w ∈ tW := fun w h => List.mem_filter.mpr ⟨(by decide +kernel : ∀ w ∈ wsX40, w ∈ lw_tbl) w h, (by decide +kernel : ∀ w ∈ wsX40, goodWord w = true) w h⟩
end
section
theorem q0 : Cond.selects "NineLands" yX3_refuse yX3_refuse ∈ tW := List.mem_filter.mpr ⟨List.mem_of_getElem? (i := 0) (by decide +kernel), by decide +kernel⟩
theorem q3 : Cond.selects "NineLands$Tape" yX2_readNumber yX2_readNumber ∈ tW := List.mem_filter.mpr ⟨List.mem_of_getElem? (i := 3) (by decide +kernel), by decide +kernel⟩
theorem q6 : Cond.selects "NineLands" yX3_isSpell yX3_isSpell ∈ tW := List.mem_filter.mpr ⟨List.mem_of_getElem? (i := 6) (by decide +kernel), by decide +kernel⟩
theorem q7 : Cond.selects "NineLands$Sums" yX1_reckon yX1_reckon ∈ tW := List.mem_filter.mpr ⟨List.mem_of_getElem? (i := 7) (by decide +kernel), by decide +kernel⟩
theorem q8 : Cond.selects "NineLands$Sums" yX1_clear yX1_clear ∈ tW := List.mem_filter.mpr ⟨List.mem_of_getElem? (i := 8) (by decide +kernel), by decide +kernel⟩
theorem q9 : Cond.selects "NineLands$Book" yX0_nextChange yX0_nextChange ∈ tW := List.mem_filter.mpr ⟨List.mem_of_getElem? (i := 9) (by decide +kernel), by decide +kernel⟩
theorem q10 : Cond.selects "NineLands$Sums" yX1_addStretch yX1_addStretch ∈ tW := List.mem_filter.mpr ⟨List.mem_of_getElem? (i := 10) (by decide +kernel), by decide +kernel⟩
theorem q11 : Cond.selects "NineLands$Book" yX0_payAt yX0_payAt ∈ tW := List.mem_filter.mpr ⟨List.mem_of_getElem? (i := 11) (by decide +kernel), by decide +kernel⟩
theorem q12 : Cond.selects "NineLands$Book" yX0_workCounts yX0_workCounts ∈ tW := List.mem_filter.mpr ⟨List.mem_of_getElem? (i := 12) (by decide +kernel), by decide +kernel⟩
theorem q13 : Cond.selects "NineLands$Book" yX0_isHeld yX0_isHeld ∈ tW := List.mem_filter.mpr ⟨List.mem_of_getElem? (i := 13) (by decide +kernel), by decide +kernel⟩
theorem q14 : Cond.selects "NineLands$Sums" yX1_addOwn yX1_addOwn ∈ tW := List.mem_filter.mpr ⟨List.mem_of_getElem? (i := 14) (by decide +kernel), by decide +kernel⟩
theorem q15 : Cond.selects "NineLands$Sums" yX1_addPut yX1_addPut ∈ tW := List.mem_filter.mpr ⟨List.mem_of_getElem? (i := 15) (by decide +kernel), by decide +kernel⟩
theorem q16 : Cond.selects "NineLands$Sums" yX1_payPut yX1_payPut ∈ tW := List.mem_filter.mpr ⟨List.mem_of_getElem? (i := 16) (by decide +kernel), by decide +kernel⟩
theorem q17 : Cond.selects "NineLands$Book" yX0_holders yX0_holders ∈ tW := List.mem_filter.mpr ⟨List.mem_of_getElem? (i := 17) (by decide +kernel), by decide +kernel⟩
theorem q18 : Cond.selects "NineLands$Sums" yX1_dueBy yX1_dueBy ∈ tW := List.mem_filter.mpr ⟨List.mem_of_getElem? (i := 18) (by decide +kernel), by decide +kernel⟩
theorem q19 : Cond.selects "NineLands$Sums" yX1_dueWhole yX1_dueWhole ∈ tW := List.mem_filter.mpr ⟨List.mem_of_getElem? (i := 19) (by decide +kernel), by decide +kernel⟩
theorem q20 : Cond.selects "NineLands$Sums" yX1_duePut yX1_duePut ∈ tW := List.mem_filter.mpr ⟨List.mem_of_getElem? (i := 20) (by decide +kernel), by decide +kernel⟩
theorem q21 : Cond.selects "NineLands" yX3_owedByAll yX3_owedByAll ∈ tW := List.mem_filter.mpr ⟨List.mem_of_getElem? (i := 21) (by decide +kernel), by decide +kernel⟩
theorem q22 : Cond.selects "NineLands$Sums" yX1_settle yX1_settle ∈ tW := List.mem_filter.mpr ⟨List.mem_of_getElem? (i := 22) (by decide +kernel), by decide +kernel⟩
theorem q23 : Cond.selects "NineLands$Sums" yX1_changesInTurn yX1_changesInTurn ∈ tW := List.mem_filter.mpr ⟨List.mem_of_getElem? (i := 23) (by decide +kernel), by decide +kernel⟩
theorem q24 : Cond.selects "NineLands" yX3_paidFrom yX3_paidFrom ∈ tW := List.mem_filter.mpr ⟨List.mem_of_getElem? (i := 24) (by decide +kernel), by decide +kernel⟩
theorem q25 : Cond.selects "NineLands" yX3_paidLivingIn yX3_paidLivingIn ∈ tW := List.mem_filter.mpr ⟨List.mem_of_getElem? (i := 25) (by decide +kernel), by decide +kernel⟩
theorem q26 : Cond.selects "NineLands$Book" yX0_behind yX0_behind ∈ tW := List.mem_filter.mpr ⟨List.mem_of_getElem? (i := 26) (by decide +kernel), by decide +kernel⟩
theorem q27 : Cond.selects "NineLands$Sums" yX1_addBench yX1_addBench ∈ tW := List.mem_filter.mpr ⟨List.mem_of_getElem? (i := 27) (by decide +kernel), by decide +kernel⟩
theorem q28 : Cond.selects "NineLands" yX3_owedByAllIf yX3_owedByAllIf ∈ tW := List.mem_filter.mpr ⟨List.mem_of_getElem? (i := 28) (by decide +kernel), by decide +kernel⟩
theorem q29 : Cond.selects "NineLands" yX3_refuseSum yX3_refuseSum ∈ tW := List.mem_filter.mpr ⟨List.mem_of_getElem? (i := 29) (by decide +kernel), by decide +kernel⟩
theorem q30 : Cond.selects "NineLands" yX3_owedByAllWithYear yX3_owedByAllWithYear ∈ tW := List.mem_filter.mpr ⟨List.mem_of_getElem? (i := 30) (by decide +kernel), by decide +kernel⟩
theorem q31 : Cond.selects "NineLands$Book" yX0_copyFrom yX0_copyFrom ∈ tW := List.mem_filter.mpr ⟨List.mem_of_getElem? (i := 31) (by decide +kernel), by decide +kernel⟩
theorem q32 : Cond.selects "NineLands$Book" yX0_shownSpells yX0_shownSpells ∈ tW := List.mem_filter.mpr ⟨List.mem_of_getElem? (i := 32) (by decide +kernel), by decide +kernel⟩
theorem q33 : Cond.selects "NineLands$Book" yX0_madePacts yX0_madePacts ∈ tW := List.mem_filter.mpr ⟨List.mem_of_getElem? (i := 33) (by decide +kernel), by decide +kernel⟩
theorem q34 : Cond.selects "NineLandsModel" yX4_no yX4_no ∈ tW := List.mem_filter.mpr ⟨List.mem_of_getElem? (i := 34) (by decide +kernel), by decide +kernel⟩
theorem q35 : Cond.selects "NineLandsModel" yX4_reads yX4_reads ∈ tW := List.mem_filter.mpr ⟨List.mem_of_getElem? (i := 35) (by decide +kernel), by decide +kernel⟩
theorem q36 : Cond.selects "NineLandsModel" yX4_sign yX4_sign ∈ tW := List.mem_filter.mpr ⟨List.mem_of_getElem? (i := 36) (by decide +kernel), by decide +kernel⟩
theorem q37 : Cond.selects "NineLandsModel" yX4_number yX4_number ∈ tW := List.mem_filter.mpr ⟨List.mem_of_getElem? (i := 37) (by decide +kernel), by decide +kernel⟩
theorem q38 : Cond.selects "NineLandsModel" yX4_takes yX4_takes ∈ tW := List.mem_filter.mpr ⟨List.mem_of_getElem? (i := 38) (by decide +kernel), by decide +kernel⟩
theorem q39 : Cond.selects "NineLandsModel" yX4_isSpell yX4_isSpell ∈ tW := List.mem_filter.mpr ⟨List.mem_of_getElem? (i := 39) (by decide +kernel), by decide +kernel⟩
theorem q40 : Cond.selects "NineLandsModel" yX4_findMonths yX4_findMonths ∈ tW := List.mem_filter.mpr ⟨List.mem_of_getElem? (i := 40) (by decide +kernel), by decide +kernel⟩
theorem q41 : Cond.selects "NineLandsModel" yX4_lawOf yX4_lawOf ∈ tW := List.mem_filter.mpr ⟨List.mem_of_getElem? (i := 41) (by decide +kernel), by decide +kernel⟩
theorem q42 : Cond.selects "NineLandsModel" yX4_sums yX4_sums ∈ tW := List.mem_filter.mpr ⟨List.mem_of_getElem? (i := 42) (by decide +kernel), by decide +kernel⟩
theorem q43 : Cond.selects "NineLandsModel" yX4_putPay yX4_putPay ∈ tW := List.mem_filter.mpr ⟨List.mem_of_getElem? (i := 43) (by decide +kernel), by decide +kernel⟩
theorem q44 : Cond.selects "NineLandsModel" yX4_says yX4_says ∈ tW := List.mem_filter.mpr ⟨List.mem_of_getElem? (i := 44) (by decide +kernel), by decide +kernel⟩
theorem q45 : Cond.selects "NineLandsModel" yX4_isRight yX4_isRight ∈ tW := List.mem_filter.mpr ⟨List.mem_of_getElem? (i := 45) (by decide +kernel), by decide +kernel⟩
theorem q46 : Cond.selects "NineLandsModel" yX4_byRate yX4_byRate ∈ tW := List.mem_filter.mpr ⟨List.mem_of_getElem? (i := 46) (by decide +kernel), by decide +kernel⟩
theorem q47 : Cond.selects "NineLandsModel" yX4_leastOf yX4_leastOf ∈ tW := List.mem_filter.mpr ⟨List.mem_of_getElem? (i := 47) (by decide +kernel), by decide +kernel⟩
theorem q48 : Cond.selects "NineLandsModel" yX4_putOf yX4_putOf ∈ tW := List.mem_filter.mpr ⟨List.mem_of_getElem? (i := 48) (by decide +kernel), by decide +kernel⟩
theorem q49 : Cond.selects "NineLandsModel" yX4_finds yX4_finds ∈ tW := List.mem_filter.mpr ⟨List.mem_of_getElem? (i := 49) (by decide +kernel), by decide +kernel⟩
theorem q50 : Cond.selects "NineLandsModel" yX4_sumOf yX4_sumOf ∈ tW := List.mem_filter.mpr ⟨List.mem_of_getElem? (i := 50) (by decide +kernel), by decide +kernel⟩
theorem q51 : Cond.selects "NineLandsModel" yX4_paid yX4_paid ∈ tW := List.mem_filter.mpr ⟨List.mem_of_getElem? (i := 51) (by decide +kernel), by decide +kernel⟩
theorem q52 : Cond.selects "NineLandsModel" yX4_livingIn yX4_livingIn ∈ tW := List.mem_filter.mpr ⟨List.mem_of_getElem? (i := 52) (by decide +kernel), by decide +kernel⟩
theorem q53 : Cond.selects "NineLandsModel" yX4_behind yX4_behind ∈ tW := List.mem_filter.mpr ⟨List.mem_of_getElem? (i := 53) (by decide +kernel), by decide +kernel⟩
theorem q54 : Cond.selects "NineLandsModel" yX4_findsWith yX4_findsWith ∈ tW := List.mem_filter.mpr ⟨List.mem_of_getElem? (i := 54) (by decide +kernel), by decide +kernel⟩
theorem q55 : Cond.selects "NineLandsModel" yX4_less yX4_less ∈ tW := List.mem_filter.mpr ⟨List.mem_of_getElem? (i := 55) (by decide +kernel), by decide +kernel⟩
theorem q56 : Cond.selects "NineLandsModel" yX4_passesAll yX4_passesAll ∈ tW := List.mem_filter.mpr ⟨List.mem_of_getElem? (i := 56) (by decide +kernel), by decide +kernel⟩
theorem q57 : Cond.selects "NineLandsModel" yX4_passes yX4_passes ∈ tW := List.mem_filter.mpr ⟨List.mem_of_getElem? (i := 57) (by decide +kernel), by decide +kernel⟩
theorem q59 : Cond.initialized "NineLands" ∈ tW := List.mem_filter.mpr ⟨List.mem_of_getElem? (i := 59) (by decide +kernel), by decide +kernel⟩
theorem q60 : Cond.initialized "NineLands$Tape" ∈ tW := List.mem_filter.mpr ⟨List.mem_of_getElem? (i := 60) (by decide +kernel), by decide +kernel⟩
theorem q61 : Cond.initialized "NineLands$Book" ∈ tW := List.mem_filter.mpr ⟨List.mem_of_getElem? (i := 61) (by decide +kernel), by decide +kernel⟩
theorem q62 : Cond.initialized "java/lang/System" ∈ tW := List.mem_filter.mpr ⟨List.mem_of_getElem? (i := 62) (by decide +kernel), by decide +kernel⟩
theorem q63 : Cond.initialized "NineLands$Sums" ∈ tW := List.mem_filter.mpr ⟨List.mem_of_getElem? (i := 63) (by decide +kernel), by decide +kernel⟩
theorem q64 : Cond.initialized "NineLandsModel" ∈ tW := List.mem_filter.mpr ⟨List.mem_of_getElem? (i := 64) (by decide +kernel), by decide +kernel⟩
theorem q67 : Cond.initialized "java/lang/Math" ∈ tW := List.mem_filter.mpr ⟨List.mem_of_getElem? (i := 67) (by decide +kernel), by decide +kernel⟩
theorem q71 : Cond.initialized "java/util/Arrays" ∈ tW := List.mem_filter.mpr ⟨List.mem_of_getElem? (i := 71) (by decide +kernel), by decide +kernel⟩
theorem q86 : Cond.fieldLink "NineLands$Tape" 9 "NineLands$Tape" "bytes" "[I" ∈ tW := List.mem_filter.mpr ⟨List.mem_of_getElem? (i := 86) (by decide +kernel), by decide +kernel⟩
theorem q87 : Cond.fieldLinkNest "NineLands" 55 "NineLands$Tape" "bytes" "[I" "NineLands" ∈ nW := List.mem_filter.mpr ⟨List.mem_of_getElem? (i := 87) (by decide +kernel), by decide +kernel⟩
theorem q88 : Cond.fieldLink "NineLands$Tape" 15 "NineLands$Tape" "length" "I" ∈ tW := List.mem_filter.mpr ⟨List.mem_of_getElem? (i := 88) (by decide +kernel), by decide +kernel⟩
theorem q89 : Cond.fieldLinkNest "NineLands" 52 "NineLands$Tape" "length" "I" "NineLands" ∈ nW := List.mem_filter.mpr ⟨List.mem_of_getElem? (i := 89) (by decide +kernel), by decide +kernel⟩
theorem q90 : Cond.fieldLink "NineLands$Tape" 19 "NineLands$Tape" "place" "I" ∈ tW := List.mem_filter.mpr ⟨List.mem_of_getElem? (i := 90) (by decide +kernel), by decide +kernel⟩
theorem q110 : Cond.methodLink "NineLands$Book" 33 arraycopyName ∈ tW := List.mem_filter.mpr ⟨List.mem_of_getElem? (i := 110) (by decide +kernel), by decide +kernel⟩
theorem q111 : Cond.static arraycopyName ∈ tW := List.mem_filter.mpr ⟨List.mem_of_getElem? (i := 111) (by decide +kernel), by decide +kernel⟩
theorem q112 : Cond.native arraycopyName ∈ tW := List.mem_filter.mpr ⟨List.mem_of_getElem? (i := 112) (by decide +kernel), by decide +kernel⟩
theorem q113 : Cond.fieldLink "NineLands$Book" 11 "NineLands$Book" "spells" "[[I" ∈ tW := List.mem_filter.mpr ⟨List.mem_of_getElem? (i := 113) (by decide +kernel), by decide +kernel⟩
theorem q114 : Cond.fieldLinkNest "NineLands" 63 "NineLands$Book" "spells" "[[I" "NineLands" ∈ nW := List.mem_filter.mpr ⟨List.mem_of_getElem? (i := 114) (by decide +kernel), by decide +kernel⟩
theorem q115 : Cond.fieldLink "NineLands$Book" 16 "NineLands$Book" "laws" "[[I" ∈ tW := List.mem_filter.mpr ⟨List.mem_of_getElem? (i := 115) (by decide +kernel), by decide +kernel⟩
theorem q116 : Cond.fieldLinkNest "NineLands" 84 "NineLands$Book" "laws" "[[I" "NineLands" ∈ nW := List.mem_filter.mpr ⟨List.mem_of_getElem? (i := 116) (by decide +kernel), by decide +kernel⟩
theorem q117 : Cond.fieldLinkNest "NineLands$Sums" 89 "NineLands$Book" "laws" "[[I" "NineLands" ∈ nW := List.mem_filter.mpr ⟨List.mem_of_getElem? (i := 117) (by decide +kernel), by decide +kernel⟩
theorem q118 : Cond.fieldLink "NineLands$Book" 19 "NineLands$Book" "kinds" "[I" ∈ tW := List.mem_filter.mpr ⟨List.mem_of_getElem? (i := 118) (by decide +kernel), by decide +kernel⟩
theorem q119 : Cond.fieldLinkNest "NineLands" 90 "NineLands$Book" "kinds" "[I" "NineLands" ∈ nW := List.mem_filter.mpr ⟨List.mem_of_getElem? (i := 119) (by decide +kernel), by decide +kernel⟩
theorem q120 : Cond.fieldLinkNest "NineLands$Sums" 92 "NineLands$Book" "kinds" "[I" "NineLands" ∈ nW := List.mem_filter.mpr ⟨List.mem_of_getElem? (i := 120) (by decide +kernel), by decide +kernel⟩
theorem q121 : Cond.fieldLink "NineLands$Book" 23 "NineLands$Book" "pacts" "[[I" ∈ tW := List.mem_filter.mpr ⟨List.mem_of_getElem? (i := 121) (by decide +kernel), by decide +kernel⟩
theorem q122 : Cond.fieldLinkNest "NineLands$Sums" 81 "NineLands$Book" "pacts" "[[I" "NineLands" ∈ nW := List.mem_filter.mpr ⟨List.mem_of_getElem? (i := 122) (by decide +kernel), by decide +kernel⟩
theorem q123 : Cond.fieldLinkNest "NineLands" 93 "NineLands$Book" "pacts" "[[I" "NineLands" ∈ nW := List.mem_filter.mpr ⟨List.mem_of_getElem? (i := 123) (by decide +kernel), by decide +kernel⟩
theorem q124 : Cond.fieldLink "NineLands$Book" 26 "NineLands$Book" "written" "I" ∈ tW := List.mem_filter.mpr ⟨List.mem_of_getElem? (i := 124) (by decide +kernel), by decide +kernel⟩
theorem q125 : Cond.fieldLinkNest "NineLands" 60 "NineLands$Book" "written" "I" "NineLands" ∈ nW := List.mem_filter.mpr ⟨List.mem_of_getElem? (i := 125) (by decide +kernel), by decide +kernel⟩
theorem q143 : Cond.fieldLink "NineLands$Sums" 9 "NineLands$Sums" "payHere" "[I" ∈ tW := List.mem_filter.mpr ⟨List.mem_of_getElem? (i := 143) (by decide +kernel), by decide +kernel⟩
theorem q144 : Cond.fieldLink "NineLands$Sums" 15 "NineLands$Sums" "months" "[I" ∈ tW := List.mem_filter.mpr ⟨List.mem_of_getElem? (i := 144) (by decide +kernel), by decide +kernel⟩
theorem q145 : Cond.fieldLinkNest "NineLands" 100 "NineLands$Sums" "months" "[I" "NineLands" ∈ nW := List.mem_filter.mpr ⟨List.mem_of_getElem? (i := 145) (by decide +kernel), by decide +kernel⟩
theorem q146 : Cond.fieldLink "NineLands$Sums" 18 "NineLands$Sums" "pays" "[I" ∈ tW := List.mem_filter.mpr ⟨List.mem_of_getElem? (i := 146) (by decide +kernel), by decide +kernel⟩
theorem q147 : Cond.fieldLinkNest "NineLands" 103 "NineLands$Sums" "pays" "[I" "NineLands" ∈ nW := List.mem_filter.mpr ⟨List.mem_of_getElem? (i := 147) (by decide +kernel), by decide +kernel⟩
theorem q148 : Cond.fieldLink "NineLands$Sums" 21 "NineLands$Sums" "putMonths" "[I" ∈ tW := List.mem_filter.mpr ⟨List.mem_of_getElem? (i := 148) (by decide +kernel), by decide +kernel⟩
theorem q149 : Cond.fieldLinkNest "NineLands" 106 "NineLands$Sums" "putMonths" "[I" "NineLands" ∈ nW := List.mem_filter.mpr ⟨List.mem_of_getElem? (i := 149) (by decide +kernel), by decide +kernel⟩
theorem q150 : Cond.fieldLink "NineLands$Sums" 24 "NineLands$Sums" "putPays" "[I" ∈ tW := List.mem_filter.mpr ⟨List.mem_of_getElem? (i := 150) (by decide +kernel), by decide +kernel⟩
theorem q151 : Cond.fieldLinkNest "NineLands" 109 "NineLands$Sums" "putPays" "[I" "NineLands" ∈ nW := List.mem_filter.mpr ⟨List.mem_of_getElem? (i := 151) (by decide +kernel), by decide +kernel⟩
theorem q152 : Cond.fieldLink "NineLands$Sums" 27 "NineLands$Sums" "whole" "[I" ∈ tW := List.mem_filter.mpr ⟨List.mem_of_getElem? (i := 152) (by decide +kernel), by decide +kernel⟩
theorem q153 : Cond.fieldLink "NineLands$Sums" 30 "NineLands$Sums" "owes" "[I" ∈ tW := List.mem_filter.mpr ⟨List.mem_of_getElem? (i := 153) (by decide +kernel), by decide +kernel⟩
theorem q154 : Cond.fieldLinkNest "NineLands" 135 "NineLands$Sums" "owes" "[I" "NineLands" ∈ nW := List.mem_filter.mpr ⟨List.mem_of_getElem? (i := 154) (by decide +kernel), by decide +kernel⟩
theorem q155 : Cond.fieldLink "NineLands$Sums" 33 "NineLands$Sums" "overMonths" "I" ∈ tW := List.mem_filter.mpr ⟨List.mem_of_getElem? (i := 155) (by decide +kernel), by decide +kernel⟩
theorem q156 : Cond.fieldLinkNest "NineLands" 116 "NineLands$Sums" "overMonths" "I" "NineLands" ∈ nW := List.mem_filter.mpr ⟨List.mem_of_getElem? (i := 156) (by decide +kernel), by decide +kernel⟩
theorem q157 : Cond.fieldLink "NineLands$Sums" 37 "NineLands$Sums" "firstOver" "I" ∈ tW := List.mem_filter.mpr ⟨List.mem_of_getElem? (i := 157) (by decide +kernel), by decide +kernel⟩
theorem q158 : Cond.fieldLinkNest "NineLands" 119 "NineLands$Sums" "firstOver" "I" "NineLands" ∈ nW := List.mem_filter.mpr ⟨List.mem_of_getElem? (i := 158) (by decide +kernel), by decide +kernel⟩
theorem q159 : Cond.fieldLink "NineLands$Sums" 40 "NineLands$Sums" "isAtRest" "Z" ∈ tW := List.mem_filter.mpr ⟨List.mem_of_getElem? (i := 159) (by decide +kernel), by decide +kernel⟩
theorem q160 : Cond.fieldLinkNest "NineLands" 138 "NineLands$Sums" "isAtRest" "Z" "NineLands" ∈ nW := List.mem_filter.mpr ⟨List.mem_of_getElem? (i := 160) (by decide +kernel), by decide +kernel⟩
theorem q182 : Cond.fieldLink "NineLands" 10 "NineLands" "tape" "LNineLands$Tape;" ∈ tW := List.mem_filter.mpr ⟨List.mem_of_getElem? (i := 182) (by decide +kernel), by decide +kernel⟩
theorem q183 : Cond.fieldLink "NineLands" 19 "NineLands" "book" "LNineLands$Book;" ∈ tW := List.mem_filter.mpr ⟨List.mem_of_getElem? (i := 183) (by decide +kernel), by decide +kernel⟩
theorem q184 : Cond.fieldLink "NineLands" 23 "NineLands" "kept" "LNineLands$Book;" ∈ tW := List.mem_filter.mpr ⟨List.mem_of_getElem? (i := 184) (by decide +kernel), by decide +kernel⟩
theorem q185 : Cond.fieldLink "NineLands" 29 "NineLands" "sums" "LNineLands$Sums;" ∈ tW := List.mem_filter.mpr ⟨List.mem_of_getElem? (i := 185) (by decide +kernel), by decide +kernel⟩
theorem q186 : Cond.fieldLink "NineLands" 33 "NineLands" "row" "[I" ∈ tW := List.mem_filter.mpr ⟨List.mem_of_getElem? (i := 186) (by decide +kernel), by decide +kernel⟩
theorem q187 : Cond.fieldLink "NineLands" 37 "NineLands" "refused" "[I" ∈ tW := List.mem_filter.mpr ⟨List.mem_of_getElem? (i := 187) (by decide +kernel), by decide +kernel⟩
theorem q188 : Cond.fieldLink "NineLands" 40 "NineLands" "rowLength" "I" ∈ tW := List.mem_filter.mpr ⟨List.mem_of_getElem? (i := 188) (by decide +kernel), by decide +kernel⟩
theorem q189 : Cond.fieldLink "NineLands" 44 "NineLands" "hasKept" "Z" ∈ tW := List.mem_filter.mpr ⟨List.mem_of_getElem? (i := 189) (by decide +kernel), by decide +kernel⟩
theorem q211 : Cond.methodLink "NineLands" 48 yX3_refuse ∈ tW := List.mem_filter.mpr ⟨List.mem_of_getElem? (i := 211) (by decide +kernel), by decide +kernel⟩
theorem q213 : Cond.instanceMethod yX3_refuse ∈ tW := List.mem_filter.mpr ⟨List.mem_of_getElem? (i := 213) (by decide +kernel), by decide +kernel⟩
theorem q214 : Cond.code yX3_refuse cX3_refuse 2 (some .int) ∈ tW := List.mem_filter.mpr ⟨List.mem_of_getElem? (i := 214) (by decide +kernel), by decide +kernel⟩
theorem q215 : Cond.constantLong "NineLands" 58 (255) ∈ tW := List.mem_filter.mpr ⟨List.mem_of_getElem? (i := 215) (by decide +kernel), by decide +kernel⟩
theorem q258 : Cond.static Lib.Math.max.name ∈ tW := List.mem_filter.mpr ⟨List.mem_of_getElem? (i := 258) (by decide +kernel), by decide +kernel⟩
theorem q259 : Cond.code Lib.Math.max.name Lib.Math.max.code 2 (some .int) ∈ tW := List.mem_filter.mpr ⟨List.mem_of_getElem? (i := 259) (by decide +kernel), by decide +kernel⟩
theorem q261 : Cond.static Lib.Math.min.name ∈ tW := List.mem_filter.mpr ⟨List.mem_of_getElem? (i := 261) (by decide +kernel), by decide +kernel⟩
theorem q262 : Cond.code Lib.Math.min.name Lib.Math.min.code 2 (some .int) ∈ tW := List.mem_filter.mpr ⟨List.mem_of_getElem? (i := 262) (by decide +kernel), by decide +kernel⟩
theorem q316 : Cond.methodLink "NineLands$Tape" 30 yX2_readNumber ∈ tW := List.mem_filter.mpr ⟨List.mem_of_getElem? (i := 316) (by decide +kernel), by decide +kernel⟩
theorem q318 : Cond.instanceMethod yX2_readNumber ∈ tW := List.mem_filter.mpr ⟨List.mem_of_getElem? (i := 318) (by decide +kernel), by decide +kernel⟩
theorem q319 : Cond.code yX2_readNumber cX2_readNumber 5 (some .boolean) ∈ tW := List.mem_filter.mpr ⟨List.mem_of_getElem? (i := 319) (by decide +kernel), by decide +kernel⟩
theorem q333 : Cond.methodLink "NineLands" 74 yX3_isSpell ∈ tW := List.mem_filter.mpr ⟨List.mem_of_getElem? (i := 333) (by decide +kernel), by decide +kernel⟩
theorem q335 : Cond.instanceMethod yX3_isSpell ∈ tW := List.mem_filter.mpr ⟨List.mem_of_getElem? (i := 335) (by decide +kernel), by decide +kernel⟩
theorem q336 : Cond.code yX3_isSpell cX3_isSpell 2 (some .boolean) ∈ tW := List.mem_filter.mpr ⟨List.mem_of_getElem? (i := 336) (by decide +kernel), by decide +kernel⟩
theorem q345 : Cond.methodLink "NineLands" 78 yX3_isLand ∈ tW := List.mem_filter.mpr ⟨List.mem_of_getElem? (i := 345) (by decide +kernel), by decide +kernel⟩
theorem q346 : Cond.static yX3_isLand ∈ tW := List.mem_filter.mpr ⟨List.mem_of_getElem? (i := 346) (by decide +kernel), by decide +kernel⟩
theorem q347 : Cond.code yX3_isLand cX3_isLand 1 (some .boolean) ∈ tW := List.mem_filter.mpr ⟨List.mem_of_getElem? (i := 347) (by decide +kernel), by decide +kernel⟩
theorem q354 : Cond.methodLink "NineLands" 87 yX3_isKind ∈ tW := List.mem_filter.mpr ⟨List.mem_of_getElem? (i := 354) (by decide +kernel), by decide +kernel⟩
theorem q355 : Cond.static yX3_isKind ∈ tW := List.mem_filter.mpr ⟨List.mem_of_getElem? (i := 355) (by decide +kernel), by decide +kernel⟩
theorem q356 : Cond.code yX3_isKind cX3_isKind 1 (some .boolean) ∈ tW := List.mem_filter.mpr ⟨List.mem_of_getElem? (i := 356) (by decide +kernel), by decide +kernel⟩
theorem q365 : Cond.methodLinkNest "NineLands" 96 yX1_reckon "NineLands" ∈ nW := List.mem_filter.mpr ⟨List.mem_of_getElem? (i := 365) (by decide +kernel), by decide +kernel⟩
theorem q367 : Cond.instanceMethod yX1_reckon ∈ tW := List.mem_filter.mpr ⟨List.mem_of_getElem? (i := 367) (by decide +kernel), by decide +kernel⟩
theorem q368 : Cond.code yX1_reckon cX1_reckon 5 none ∈ tW := List.mem_filter.mpr ⟨List.mem_of_getElem? (i := 368) (by decide +kernel), by decide +kernel⟩
theorem q369 : Cond.methodLink "NineLands$Sums" 44 yX1_clear ∈ tW := List.mem_filter.mpr ⟨List.mem_of_getElem? (i := 369) (by decide +kernel), by decide +kernel⟩
theorem q371 : Cond.instanceMethod yX1_clear ∈ tW := List.mem_filter.mpr ⟨List.mem_of_getElem? (i := 371) (by decide +kernel), by decide +kernel⟩
theorem q372 : Cond.code yX1_clear cX1_clear 1 none ∈ tW := List.mem_filter.mpr ⟨List.mem_of_getElem? (i := 372) (by decide +kernel), by decide +kernel⟩
theorem q373 : Cond.methodLink "NineLands$Sums" 57 yJ7_fill_53178 ∈ tW := List.mem_filter.mpr ⟨List.mem_of_getElem? (i := 373) (by decide +kernel), by decide +kernel⟩
theorem q374 : Cond.static yJ7_fill_53178 ∈ tW := List.mem_filter.mpr ⟨List.mem_of_getElem? (i := 374) (by decide +kernel), by decide +kernel⟩
theorem q375 : Cond.code yJ7_fill_53178 cJ7_fill_53178 4 none ∈ tW := List.mem_filter.mpr ⟨List.mem_of_getElem? (i := 375) (by decide +kernel), by decide +kernel⟩
theorem q376 : Cond.methodLinkNest "NineLands$Sums" 47 yX0_nextChange "NineLands" ∈ nW := List.mem_filter.mpr ⟨List.mem_of_getElem? (i := 376) (by decide +kernel), by decide +kernel⟩
theorem q378 : Cond.instanceMethod yX0_nextChange ∈ tW := List.mem_filter.mpr ⟨List.mem_of_getElem? (i := 378) (by decide +kernel), by decide +kernel⟩
theorem q379 : Cond.code yX0_nextChange cX0_nextChange 5 (some .int) ∈ tW := List.mem_filter.mpr ⟨List.mem_of_getElem? (i := 379) (by decide +kernel), by decide +kernel⟩
theorem q380 : Cond.methodLink "NineLands$Book" 45 Lib.Math.min.name ∈ tW := List.mem_filter.mpr ⟨List.mem_of_getElem? (i := 380) (by decide +kernel), by decide +kernel⟩
theorem q381 : Cond.methodLink "NineLands$Sums" 53 yX1_addStretch ∈ tW := List.mem_filter.mpr ⟨List.mem_of_getElem? (i := 381) (by decide +kernel), by decide +kernel⟩
theorem q383 : Cond.instanceMethod yX1_addStretch ∈ tW := List.mem_filter.mpr ⟨List.mem_of_getElem? (i := 383) (by decide +kernel), by decide +kernel⟩
theorem q384 : Cond.code yX1_addStretch cX1_addStretch 5 none ∈ tW := List.mem_filter.mpr ⟨List.mem_of_getElem? (i := 384) (by decide +kernel), by decide +kernel⟩
theorem q385 : Cond.methodLinkNest "NineLands$Sums" 63 yX0_payAt "NineLands" ∈ nW := List.mem_filter.mpr ⟨List.mem_of_getElem? (i := 385) (by decide +kernel), by decide +kernel⟩
theorem q387 : Cond.instanceMethod yX0_payAt ∈ tW := List.mem_filter.mpr ⟨List.mem_of_getElem? (i := 387) (by decide +kernel), by decide +kernel⟩
theorem q388 : Cond.code yX0_payAt cX0_payAt 7 (some .int) ∈ tW := List.mem_filter.mpr ⟨List.mem_of_getElem? (i := 388) (by decide +kernel), by decide +kernel⟩
theorem q389 : Cond.methodLink "NineLands$Book" 52 yX0_workCounts ∈ tW := List.mem_filter.mpr ⟨List.mem_of_getElem? (i := 389) (by decide +kernel), by decide +kernel⟩
theorem q391 : Cond.instanceMethod yX0_workCounts ∈ tW := List.mem_filter.mpr ⟨List.mem_of_getElem? (i := 391) (by decide +kernel), by decide +kernel⟩
theorem q392 : Cond.code yX0_workCounts cX0_workCounts 3 (some .boolean) ∈ tW := List.mem_filter.mpr ⟨List.mem_of_getElem? (i := 392) (by decide +kernel), by decide +kernel⟩
theorem q393 : Cond.methodLink "NineLands$Book" 48 yX0_isHeld ∈ tW := List.mem_filter.mpr ⟨List.mem_of_getElem? (i := 393) (by decide +kernel), by decide +kernel⟩
theorem q395 : Cond.instanceMethod yX0_isHeld ∈ tW := List.mem_filter.mpr ⟨List.mem_of_getElem? (i := 395) (by decide +kernel), by decide +kernel⟩
theorem q396 : Cond.code yX0_isHeld cX0_isHeld 4 (some .boolean) ∈ tW := List.mem_filter.mpr ⟨List.mem_of_getElem? (i := 396) (by decide +kernel), by decide +kernel⟩
theorem q397 : Cond.methodLink "NineLands$Book" 39 Lib.Math.max.name ∈ tW := List.mem_filter.mpr ⟨List.mem_of_getElem? (i := 397) (by decide +kernel), by decide +kernel⟩
theorem q398 : Cond.methodLink "NineLands$Sums" 67 yX1_addOwn ∈ tW := List.mem_filter.mpr ⟨List.mem_of_getElem? (i := 398) (by decide +kernel), by decide +kernel⟩
theorem q400 : Cond.instanceMethod yX1_addOwn ∈ tW := List.mem_filter.mpr ⟨List.mem_of_getElem? (i := 400) (by decide +kernel), by decide +kernel⟩
theorem q401 : Cond.code yX1_addOwn cX1_addOwn 3 none ∈ tW := List.mem_filter.mpr ⟨List.mem_of_getElem? (i := 401) (by decide +kernel), by decide +kernel⟩
theorem q402 : Cond.methodLink "NineLands$Sums" 71 yX1_addPut ∈ tW := List.mem_filter.mpr ⟨List.mem_of_getElem? (i := 402) (by decide +kernel), by decide +kernel⟩
theorem q404 : Cond.instanceMethod yX1_addPut ∈ tW := List.mem_filter.mpr ⟨List.mem_of_getElem? (i := 404) (by decide +kernel), by decide +kernel⟩
theorem q405 : Cond.code yX1_addPut cX1_addPut 5 none ∈ tW := List.mem_filter.mpr ⟨List.mem_of_getElem? (i := 405) (by decide +kernel), by decide +kernel⟩
theorem q406 : Cond.methodLink "NineLands$Sums" 77 yX1_payPut ∈ tW := List.mem_filter.mpr ⟨List.mem_of_getElem? (i := 406) (by decide +kernel), by decide +kernel⟩
theorem q408 : Cond.instanceMethod yX1_payPut ∈ tW := List.mem_filter.mpr ⟨List.mem_of_getElem? (i := 408) (by decide +kernel), by decide +kernel⟩
theorem q409 : Cond.code yX1_payPut cX1_payPut 4 (some .int) ∈ tW := List.mem_filter.mpr ⟨List.mem_of_getElem? (i := 409) (by decide +kernel), by decide +kernel⟩
theorem q410 : Cond.methodLinkNest "NineLands$Sums" 74 yX0_holders "NineLands" ∈ nW := List.mem_filter.mpr ⟨List.mem_of_getElem? (i := 410) (by decide +kernel), by decide +kernel⟩
theorem q412 : Cond.instanceMethod yX0_holders ∈ tW := List.mem_filter.mpr ⟨List.mem_of_getElem? (i := 412) (by decide +kernel), by decide +kernel⟩
theorem q413 : Cond.code yX0_holders cX0_holders 4 (some .int) ∈ tW := List.mem_filter.mpr ⟨List.mem_of_getElem? (i := 413) (by decide +kernel), by decide +kernel⟩
theorem q418 : Cond.methodLinkNest "NineLands" 112 yX0_payAt "NineLands" ∈ nW := List.mem_filter.mpr ⟨List.mem_of_getElem? (i := 418) (by decide +kernel), by decide +kernel⟩
theorem q427 : Cond.methodLinkNest "NineLands" 122 yX1_dueBy "NineLands" ∈ nW := List.mem_filter.mpr ⟨List.mem_of_getElem? (i := 427) (by decide +kernel), by decide +kernel⟩
theorem q429 : Cond.instanceMethod yX1_dueBy ∈ tW := List.mem_filter.mpr ⟨List.mem_of_getElem? (i := 429) (by decide +kernel), by decide +kernel⟩
theorem q430 : Cond.code yX1_dueBy cX1_dueBy 6 (some .int) ∈ tW := List.mem_filter.mpr ⟨List.mem_of_getElem? (i := 430) (by decide +kernel), by decide +kernel⟩
theorem q431 : Cond.methodLink "NineLands$Sums" 95 yX1_dueWhole ∈ tW := List.mem_filter.mpr ⟨List.mem_of_getElem? (i := 431) (by decide +kernel), by decide +kernel⟩
theorem q433 : Cond.instanceMethod yX1_dueWhole ∈ tW := List.mem_filter.mpr ⟨List.mem_of_getElem? (i := 433) (by decide +kernel), by decide +kernel⟩
theorem q434 : Cond.code yX1_dueWhole cX1_dueWhole 7 (some .int) ∈ tW := List.mem_filter.mpr ⟨List.mem_of_getElem? (i := 434) (by decide +kernel), by decide +kernel⟩
theorem q435 : Cond.methodLink "NineLands$Sums" 111 yX1_hasRight ∈ tW := List.mem_filter.mpr ⟨List.mem_of_getElem? (i := 435) (by decide +kernel), by decide +kernel⟩
theorem q436 : Cond.static yX1_hasRight ∈ tW := List.mem_filter.mpr ⟨List.mem_of_getElem? (i := 436) (by decide +kernel), by decide +kernel⟩
theorem q437 : Cond.code yX1_hasRight cX1_hasRight 2 (some .boolean) ∈ tW := List.mem_filter.mpr ⟨List.mem_of_getElem? (i := 437) (by decide +kernel), by decide +kernel⟩
theorem q438 : Cond.methodLink "NineLands$Sums" 115 yX1_byRate ∈ tW := List.mem_filter.mpr ⟨List.mem_of_getElem? (i := 438) (by decide +kernel), by decide +kernel⟩
theorem q439 : Cond.static yX1_byRate ∈ tW := List.mem_filter.mpr ⟨List.mem_of_getElem? (i := 439) (by decide +kernel), by decide +kernel⟩
theorem q440 : Cond.code yX1_byRate cX1_byRate 2 (some .int) ∈ tW := List.mem_filter.mpr ⟨List.mem_of_getElem? (i := 440) (by decide +kernel), by decide +kernel⟩
theorem q441 : Cond.methodLink "NineLands$Sums" 127 Lib.Math.min.name ∈ tW := List.mem_filter.mpr ⟨List.mem_of_getElem? (i := 441) (by decide +kernel), by decide +kernel⟩
theorem q442 : Cond.methodLink "NineLands$Sums" 119 Lib.Math.max.name ∈ tW := List.mem_filter.mpr ⟨List.mem_of_getElem? (i := 442) (by decide +kernel), by decide +kernel⟩
theorem q443 : Cond.methodLink "NineLands$Sums" 124 yX1_duePut ∈ tW := List.mem_filter.mpr ⟨List.mem_of_getElem? (i := 443) (by decide +kernel), by decide +kernel⟩
theorem q445 : Cond.instanceMethod yX1_duePut ∈ tW := List.mem_filter.mpr ⟨List.mem_of_getElem? (i := 445) (by decide +kernel), by decide +kernel⟩
theorem q446 : Cond.code yX1_duePut cX1_duePut 4 (some .int) ∈ tW := List.mem_filter.mpr ⟨List.mem_of_getElem? (i := 446) (by decide +kernel), by decide +kernel⟩
theorem q447 : Cond.methodLink "NineLands$Sums" 107 yX1_lessOthers ∈ tW := List.mem_filter.mpr ⟨List.mem_of_getElem? (i := 447) (by decide +kernel), by decide +kernel⟩
theorem q448 : Cond.static yX1_lessOthers ∈ tW := List.mem_filter.mpr ⟨List.mem_of_getElem? (i := 448) (by decide +kernel), by decide +kernel⟩
theorem q449 : Cond.code yX1_lessOthers cX1_lessOthers 5 (some .int) ∈ tW := List.mem_filter.mpr ⟨List.mem_of_getElem? (i := 449) (by decide +kernel), by decide +kernel⟩
theorem q454 : Cond.methodLink "NineLands" 126 Lib.Math.max.name ∈ tW := List.mem_filter.mpr ⟨List.mem_of_getElem? (i := 454) (by decide +kernel), by decide +kernel⟩
theorem q459 : Cond.methodLink "NineLands" 131 yX3_owedByAll ∈ tW := List.mem_filter.mpr ⟨List.mem_of_getElem? (i := 459) (by decide +kernel), by decide +kernel⟩
theorem q461 : Cond.instanceMethod yX3_owedByAll ∈ tW := List.mem_filter.mpr ⟨List.mem_of_getElem? (i := 461) (by decide +kernel), by decide +kernel⟩
theorem q462 : Cond.code yX3_owedByAll cX3_owedByAll 1 (some .int) ∈ tW := List.mem_filter.mpr ⟨List.mem_of_getElem? (i := 462) (by decide +kernel), by decide +kernel⟩
theorem q463 : Cond.methodLinkNest "NineLands" 158 yX1_settle "NineLands" ∈ nW := List.mem_filter.mpr ⟨List.mem_of_getElem? (i := 463) (by decide +kernel), by decide +kernel⟩
theorem q465 : Cond.instanceMethod yX1_settle ∈ tW := List.mem_filter.mpr ⟨List.mem_of_getElem? (i := 465) (by decide +kernel), by decide +kernel⟩
theorem q466 : Cond.code yX1_settle cX1_settle 3 (some .int) ∈ tW := List.mem_filter.mpr ⟨List.mem_of_getElem? (i := 466) (by decide +kernel), by decide +kernel⟩
theorem q467 : Cond.methodLink "NineLands$Sums" 99 yX1_changesInTurn ∈ tW := List.mem_filter.mpr ⟨List.mem_of_getElem? (i := 467) (by decide +kernel), by decide +kernel⟩
theorem q469 : Cond.instanceMethod yX1_changesInTurn ∈ tW := List.mem_filter.mpr ⟨List.mem_of_getElem? (i := 469) (by decide +kernel), by decide +kernel⟩
theorem q470 : Cond.code yX1_changesInTurn cX1_changesInTurn 7 (some .boolean) ∈ tW := List.mem_filter.mpr ⟨List.mem_of_getElem? (i := 470) (by decide +kernel), by decide +kernel⟩
theorem q471 : Cond.methodLinkNest "NineLands$Sums" 103 yX3_sumOf "NineLands" ∈ nW := List.mem_filter.mpr ⟨List.mem_of_getElem? (i := 471) (by decide +kernel), by decide +kernel⟩
theorem q472 : Cond.static yX3_sumOf ∈ tW := List.mem_filter.mpr ⟨List.mem_of_getElem? (i := 472) (by decide +kernel), by decide +kernel⟩
theorem q473 : Cond.code yX3_sumOf cX3_sumOf 6 (some .int) ∈ tW := List.mem_filter.mpr ⟨List.mem_of_getElem? (i := 473) (by decide +kernel), by decide +kernel⟩
theorem q486 : Cond.methodLink "NineLands" 141 yX3_paidFrom ∈ tW := List.mem_filter.mpr ⟨List.mem_of_getElem? (i := 486) (by decide +kernel), by decide +kernel⟩
theorem q488 : Cond.instanceMethod yX3_paidFrom ∈ tW := List.mem_filter.mpr ⟨List.mem_of_getElem? (i := 488) (by decide +kernel), by decide +kernel⟩
theorem q489 : Cond.code yX3_paidFrom cX3_paidFrom 7 (some .int) ∈ tW := List.mem_filter.mpr ⟨List.mem_of_getElem? (i := 489) (by decide +kernel), by decide +kernel⟩
theorem q498 : Cond.methodLink "NineLands" 145 yX3_paidLivingIn ∈ tW := List.mem_filter.mpr ⟨List.mem_of_getElem? (i := 498) (by decide +kernel), by decide +kernel⟩
theorem q500 : Cond.instanceMethod yX3_paidLivingIn ∈ tW := List.mem_filter.mpr ⟨List.mem_of_getElem? (i := 500) (by decide +kernel), by decide +kernel⟩
theorem q501 : Cond.code yX3_paidLivingIn cX3_paidLivingIn 6 (some .int) ∈ tW := List.mem_filter.mpr ⟨List.mem_of_getElem? (i := 501) (by decide +kernel), by decide +kernel⟩
theorem q510 : Cond.methodLinkNest "NineLands" 148 yX0_behind "NineLands" ∈ nW := List.mem_filter.mpr ⟨List.mem_of_getElem? (i := 510) (by decide +kernel), by decide +kernel⟩
theorem q512 : Cond.instanceMethod yX0_behind ∈ tW := List.mem_filter.mpr ⟨List.mem_of_getElem? (i := 512) (by decide +kernel), by decide +kernel⟩
theorem q513 : Cond.code yX0_behind cX0_behind 3 (some .int) ∈ tW := List.mem_filter.mpr ⟨List.mem_of_getElem? (i := 513) (by decide +kernel), by decide +kernel⟩
theorem q514 : Cond.methodLink "NineLands" 151 Lib.Math.min.name ∈ tW := List.mem_filter.mpr ⟨List.mem_of_getElem? (i := 514) (by decide +kernel), by decide +kernel⟩
theorem q515 : Cond.methodLinkNest "NineLands" 154 yX1_addBench "NineLands" ∈ nW := List.mem_filter.mpr ⟨List.mem_of_getElem? (i := 515) (by decide +kernel), by decide +kernel⟩
theorem q517 : Cond.instanceMethod yX1_addBench ∈ tW := List.mem_filter.mpr ⟨List.mem_of_getElem? (i := 517) (by decide +kernel), by decide +kernel⟩
theorem q518 : Cond.code yX1_addBench cX1_addBench 6 none ∈ tW := List.mem_filter.mpr ⟨List.mem_of_getElem? (i := 518) (by decide +kernel), by decide +kernel⟩
theorem q519 : Cond.methodLinkNest "NineLands$Sums" 85 yX0_workCounts "NineLands" ∈ nW := List.mem_filter.mpr ⟨List.mem_of_getElem? (i := 519) (by decide +kernel), by decide +kernel⟩
theorem q524 : Cond.methodLink "NineLands" 162 yX3_owedByAllIf ∈ tW := List.mem_filter.mpr ⟨List.mem_of_getElem? (i := 524) (by decide +kernel), by decide +kernel⟩
theorem q526 : Cond.instanceMethod yX3_owedByAllIf ∈ tW := List.mem_filter.mpr ⟨List.mem_of_getElem? (i := 526) (by decide +kernel), by decide +kernel⟩
theorem q527 : Cond.code yX3_owedByAllIf cX3_owedByAllIf 5 (some .int) ∈ tW := List.mem_filter.mpr ⟨List.mem_of_getElem? (i := 527) (by decide +kernel), by decide +kernel⟩
theorem q532 : Cond.methodLink "NineLands" 165 yX3_refuseSum ∈ tW := List.mem_filter.mpr ⟨List.mem_of_getElem? (i := 532) (by decide +kernel), by decide +kernel⟩
theorem q534 : Cond.instanceMethod yX3_refuseSum ∈ tW := List.mem_filter.mpr ⟨List.mem_of_getElem? (i := 534) (by decide +kernel), by decide +kernel⟩
theorem q535 : Cond.code yX3_refuseSum cX3_refuseSum 2 (some .int) ∈ tW := List.mem_filter.mpr ⟨List.mem_of_getElem? (i := 535) (by decide +kernel), by decide +kernel⟩
theorem q536 : Cond.constant "NineLands" 190 (1000000000) ∈ tW := List.mem_filter.mpr ⟨List.mem_of_getElem? (i := 536) (by decide +kernel), by decide +kernel⟩
theorem q537 : Cond.methodLink "NineLands" 168 yX3_owedByAllWithYear ∈ tW := List.mem_filter.mpr ⟨List.mem_of_getElem? (i := 537) (by decide +kernel), by decide +kernel⟩
theorem q539 : Cond.instanceMethod yX3_owedByAllWithYear ∈ tW := List.mem_filter.mpr ⟨List.mem_of_getElem? (i := 539) (by decide +kernel), by decide +kernel⟩
theorem q540 : Cond.code yX3_owedByAllWithYear cX3_owedByAllWithYear 3 (some .int) ∈ tW := List.mem_filter.mpr ⟨List.mem_of_getElem? (i := 540) (by decide +kernel), by decide +kernel⟩
theorem q553 : Cond.methodLink "NineLands" 171 yJ7_fill_fda19 ∈ tW := List.mem_filter.mpr ⟨List.mem_of_getElem? (i := 553) (by decide +kernel), by decide +kernel⟩
theorem q554 : Cond.static yJ7_fill_fda19 ∈ tW := List.mem_filter.mpr ⟨List.mem_of_getElem? (i := 554) (by decide +kernel), by decide +kernel⟩
theorem q555 : Cond.code yJ7_fill_fda19 cJ7_fill_fda19 5 none ∈ tW := List.mem_filter.mpr ⟨List.mem_of_getElem? (i := 555) (by decide +kernel), by decide +kernel⟩
theorem q556 : Cond.methodLink "java/util/Arrays" 13 yJ7_rangeCheck_23922 ∈ tW := List.mem_filter.mpr ⟨List.mem_of_getElem? (i := 556) (by decide +kernel), by decide +kernel⟩
theorem q557 : Cond.static yJ7_rangeCheck_23922 ∈ tW := List.mem_filter.mpr ⟨List.mem_of_getElem? (i := 557) (by decide +kernel), by decide +kernel⟩
theorem q558 : Cond.code yJ7_rangeCheck_23922 cJ7_rangeCheck_23922 3 none ∈ tW := List.mem_filter.mpr ⟨List.mem_of_getElem? (i := 558) (by decide +kernel), by decide +kernel⟩
theorem q559 : Cond.methodLink "NineLands" 177 yX3_sumOf ∈ tW := List.mem_filter.mpr ⟨List.mem_of_getElem? (i := 559) (by decide +kernel), by decide +kernel⟩
theorem q564 : Cond.methodLinkNest "NineLands" 181 yX0_copyFrom "NineLands" ∈ nW := List.mem_filter.mpr ⟨List.mem_of_getElem? (i := 564) (by decide +kernel), by decide +kernel⟩
theorem q566 : Cond.instanceMethod yX0_copyFrom ∈ tW := List.mem_filter.mpr ⟨List.mem_of_getElem? (i := 566) (by decide +kernel), by decide +kernel⟩
theorem q567 : Cond.code yX0_copyFrom cX0_copyFrom 3 none ∈ tW := List.mem_filter.mpr ⟨List.mem_of_getElem? (i := 567) (by decide +kernel), by decide +kernel⟩
theorem q576 : Cond.methodLinkNest "NineLands" 184 yX0_shownSpells "NineLands" ∈ nW := List.mem_filter.mpr ⟨List.mem_of_getElem? (i := 576) (by decide +kernel), by decide +kernel⟩
theorem q578 : Cond.instanceMethod yX0_shownSpells ∈ tW := List.mem_filter.mpr ⟨List.mem_of_getElem? (i := 578) (by decide +kernel), by decide +kernel⟩
theorem q579 : Cond.code yX0_shownSpells cX0_shownSpells 3 (some .int) ∈ tW := List.mem_filter.mpr ⟨List.mem_of_getElem? (i := 579) (by decide +kernel), by decide +kernel⟩
theorem q580 : Cond.methodLinkNest "NineLands" 187 yX0_madePacts "NineLands" ∈ nW := List.mem_filter.mpr ⟨List.mem_of_getElem? (i := 580) (by decide +kernel), by decide +kernel⟩
theorem q582 : Cond.instanceMethod yX0_madePacts ∈ tW := List.mem_filter.mpr ⟨List.mem_of_getElem? (i := 582) (by decide +kernel), by decide +kernel⟩
theorem q583 : Cond.code yX0_madePacts cX0_madePacts 4 (some .int) ∈ tW := List.mem_filter.mpr ⟨List.mem_of_getElem? (i := 583) (by decide +kernel), by decide +kernel⟩
theorem q590 : Cond.fieldLink "NineLandsModel" 7 "NineLandsModel" "refused" "[I" ∈ tW := List.mem_filter.mpr ⟨List.mem_of_getElem? (i := 590) (by decide +kernel), by decide +kernel⟩
theorem q591 : Cond.fieldLink "NineLandsModel" 13 "NineLandsModel" "tape" "[I" ∈ tW := List.mem_filter.mpr ⟨List.mem_of_getElem? (i := 591) (by decide +kernel), by decide +kernel⟩
theorem q592 : Cond.fieldLink "NineLandsModel" 16 "NineLandsModel" "landOf" "[I" ∈ tW := List.mem_filter.mpr ⟨List.mem_of_getElem? (i := 592) (by decide +kernel), by decide +kernel⟩
theorem q593 : Cond.fieldLink "NineLandsModel" 19 "NineLandsModel" "work" "[I" ∈ tW := List.mem_filter.mpr ⟨List.mem_of_getElem? (i := 593) (by decide +kernel), by decide +kernel⟩
theorem q594 : Cond.fieldLink "NineLandsModel" 22 "NineLandsModel" "from" "[I" ∈ tW := List.mem_filter.mpr ⟨List.mem_of_getElem? (i := 594) (by decide +kernel), by decide +kernel⟩
theorem q595 : Cond.fieldLink "NineLandsModel" 25 "NineLandsModel" "till" "[I" ∈ tW := List.mem_filter.mpr ⟨List.mem_of_getElem? (i := 595) (by decide +kernel), by decide +kernel⟩
theorem q596 : Cond.fieldLink "NineLandsModel" 28 "NineLandsModel" "pay" "[I" ∈ tW := List.mem_filter.mpr ⟨List.mem_of_getElem? (i := 596) (by decide +kernel), by decide +kernel⟩
theorem q597 : Cond.fieldLink "NineLandsModel" 31 "NineLandsModel" "paidIn" "[I" ∈ tW := List.mem_filter.mpr ⟨List.mem_of_getElem? (i := 597) (by decide +kernel), by decide +kernel⟩
theorem q598 : Cond.fieldLink "NineLandsModel" 34 "NineLandsModel" "shown" "[I" ∈ tW := List.mem_filter.mpr ⟨List.mem_of_getElem? (i := 598) (by decide +kernel), by decide +kernel⟩
theorem q599 : Cond.fieldLink "NineLandsModel" 37 "NineLandsModel" "law" "[I" ∈ tW := List.mem_filter.mpr ⟨List.mem_of_getElem? (i := 599) (by decide +kernel), by decide +kernel⟩
theorem q600 : Cond.fieldLink "NineLandsModel" 40 "NineLandsModel" "kind" "[I" ∈ tW := List.mem_filter.mpr ⟨List.mem_of_getElem? (i := 600) (by decide +kernel), by decide +kernel⟩
theorem q601 : Cond.fieldLink "NineLandsModel" 43 "NineLandsModel" "pact" "[I" ∈ tW := List.mem_filter.mpr ⟨List.mem_of_getElem? (i := 601) (by decide +kernel), by decide +kernel⟩
theorem q602 : Cond.fieldLink "NineLandsModel" 46 "NineLandsModel" "top" "[I" ∈ tW := List.mem_filter.mpr ⟨List.mem_of_getElem? (i := 602) (by decide +kernel), by decide +kernel⟩
theorem q603 : Cond.fieldLink "NineLandsModel" 82 "NineLandsModel" "taped" "I" ∈ tW := List.mem_filter.mpr ⟨List.mem_of_getElem? (i := 603) (by decide +kernel), by decide +kernel⟩
theorem q604 : Cond.fieldLink "NineLandsModel" 91 "NineLandsModel" "at" "I" ∈ tW := List.mem_filter.mpr ⟨List.mem_of_getElem? (i := 604) (by decide +kernel), by decide +kernel⟩
theorem q605 : Cond.fieldLink "NineLandsModel" 102 "NineLandsModel" "spells" "I" ∈ tW := List.mem_filter.mpr ⟨List.mem_of_getElem? (i := 605) (by decide +kernel), by decide +kernel⟩
theorem q606 : Cond.fieldLink "NineLandsModel" 49 "NineLandsModel" "without" "I" ∈ tW := List.mem_filter.mpr ⟨List.mem_of_getElem? (i := 606) (by decide +kernel), by decide +kernel⟩
theorem q607 : Cond.fieldLink "NineLandsModel" 53 "NineLandsModel" "month" "[I" ∈ tW := List.mem_filter.mpr ⟨List.mem_of_getElem? (i := 607) (by decide +kernel), by decide +kernel⟩
theorem q608 : Cond.fieldLink "NineLandsModel" 56 "NineLandsModel" "many" "[I" ∈ tW := List.mem_filter.mpr ⟨List.mem_of_getElem? (i := 608) (by decide +kernel), by decide +kernel⟩
theorem q609 : Cond.fieldLink "NineLandsModel" 59 "NineLandsModel" "pays" "[I" ∈ tW := List.mem_filter.mpr ⟨List.mem_of_getElem? (i := 609) (by decide +kernel), by decide +kernel⟩
theorem q610 : Cond.fieldLink "NineLandsModel" 62 "NineLandsModel" "putMany" "[I" ∈ tW := List.mem_filter.mpr ⟨List.mem_of_getElem? (i := 610) (by decide +kernel), by decide +kernel⟩
theorem q611 : Cond.fieldLink "NineLandsModel" 65 "NineLandsModel" "putPays" "[I" ∈ tW := List.mem_filter.mpr ⟨List.mem_of_getElem? (i := 611) (by decide +kernel), by decide +kernel⟩
theorem q612 : Cond.fieldLink "NineLandsModel" 68 "NineLandsModel" "owes" "[I" ∈ tW := List.mem_filter.mpr ⟨List.mem_of_getElem? (i := 612) (by decide +kernel), by decide +kernel⟩
theorem q613 : Cond.fieldLink "NineLandsModel" 152 "NineLandsModel" "isResting" "Z" ∈ tW := List.mem_filter.mpr ⟨List.mem_of_getElem? (i := 613) (by decide +kernel), by decide +kernel⟩
theorem q614 : Cond.fieldLink "NineLandsModel" 71 "NineLandsModel" "row" "[I" ∈ tW := List.mem_filter.mpr ⟨List.mem_of_getElem? (i := 614) (by decide +kernel), by decide +kernel⟩
theorem q615 : Cond.fieldLink "NineLandsModel" 182 "NineLandsModel" "rowMany" "I" ∈ tW := List.mem_filter.mpr ⟨List.mem_of_getElem? (i := 615) (by decide +kernel), by decide +kernel⟩
theorem q616 : Cond.fieldLink "NineLandsModel" 74 "NineLandsModel" "kept" "[I" ∈ tW := List.mem_filter.mpr ⟨List.mem_of_getElem? (i := 616) (by decide +kernel), by decide +kernel⟩
theorem q617 : Cond.fieldLink "NineLandsModel" 195 "NineLandsModel" "hasImage" "Z" ∈ tW := List.mem_filter.mpr ⟨List.mem_of_getElem? (i := 617) (by decide +kernel), by decide +kernel⟩
theorem q618 : Cond.fieldLink "NineLandsModel" 185 "NineLandsModel" "isKeeping" "Z" ∈ tW := List.mem_filter.mpr ⟨List.mem_of_getElem? (i := 618) (by decide +kernel), by decide +kernel⟩
theorem q619 : Cond.fieldLink "NineLandsModel" 188 "NineLandsModel" "cursor" "I" ∈ tW := List.mem_filter.mpr ⟨List.mem_of_getElem? (i := 619) (by decide +kernel), by decide +kernel⟩
theorem q685 : Cond.methodLink "NineLandsModel" 78 yX4_out ∈ tW := List.mem_filter.mpr ⟨List.mem_of_getElem? (i := 685) (by decide +kernel), by decide +kernel⟩
theorem q686 : Cond.static yX4_out ∈ tW := List.mem_filter.mpr ⟨List.mem_of_getElem? (i := 686) (by decide +kernel), by decide +kernel⟩
theorem q687 : Cond.code yX4_out cX4_out 3 (some .int) ∈ tW := List.mem_filter.mpr ⟨List.mem_of_getElem? (i := 687) (by decide +kernel), by decide +kernel⟩
theorem q688 : Cond.methodLink "NineLandsModel" 85 yX4_no ∈ tW := List.mem_filter.mpr ⟨List.mem_of_getElem? (i := 688) (by decide +kernel), by decide +kernel⟩
theorem q690 : Cond.instanceMethod yX4_no ∈ tW := List.mem_filter.mpr ⟨List.mem_of_getElem? (i := 690) (by decide +kernel), by decide +kernel⟩
theorem q691 : Cond.code yX4_no cX4_no 2 (some .int) ∈ tW := List.mem_filter.mpr ⟨List.mem_of_getElem? (i := 691) (by decide +kernel), by decide +kernel⟩
theorem q692 : Cond.constantLong "NineLandsModel" 89 (255) ∈ tW := List.mem_filter.mpr ⟨List.mem_of_getElem? (i := 692) (by decide +kernel), by decide +kernel⟩
theorem q697 : Cond.methodLink "NineLandsModel" 115 yX4_reads ∈ tW := List.mem_filter.mpr ⟨List.mem_of_getElem? (i := 697) (by decide +kernel), by decide +kernel⟩
theorem q699 : Cond.instanceMethod yX4_reads ∈ tW := List.mem_filter.mpr ⟨List.mem_of_getElem? (i := 699) (by decide +kernel), by decide +kernel⟩
theorem q700 : Cond.code yX4_reads cX4_reads 4 (some .boolean) ∈ tW := List.mem_filter.mpr ⟨List.mem_of_getElem? (i := 700) (by decide +kernel), by decide +kernel⟩
theorem q701 : Cond.methodLink "NineLandsModel" 94 yX4_sign ∈ tW := List.mem_filter.mpr ⟨List.mem_of_getElem? (i := 701) (by decide +kernel), by decide +kernel⟩
theorem q703 : Cond.instanceMethod yX4_sign ∈ tW := List.mem_filter.mpr ⟨List.mem_of_getElem? (i := 703) (by decide +kernel), by decide +kernel⟩
theorem q704 : Cond.code yX4_sign cX4_sign 1 (some .int) ∈ tW := List.mem_filter.mpr ⟨List.mem_of_getElem? (i := 704) (by decide +kernel), by decide +kernel⟩
theorem q705 : Cond.methodLink "NineLandsModel" 105 yX4_isLand ∈ tW := List.mem_filter.mpr ⟨List.mem_of_getElem? (i := 705) (by decide +kernel), by decide +kernel⟩
theorem q706 : Cond.static yX4_isLand ∈ tW := List.mem_filter.mpr ⟨List.mem_of_getElem? (i := 706) (by decide +kernel), by decide +kernel⟩
theorem q707 : Cond.code yX4_isLand cX4_isLand 1 (some .boolean) ∈ tW := List.mem_filter.mpr ⟨List.mem_of_getElem? (i := 707) (by decide +kernel), by decide +kernel⟩
theorem q708 : Cond.methodLink "NineLandsModel" 109 yX4_number ∈ tW := List.mem_filter.mpr ⟨List.mem_of_getElem? (i := 708) (by decide +kernel), by decide +kernel⟩
theorem q710 : Cond.instanceMethod yX4_number ∈ tW := List.mem_filter.mpr ⟨List.mem_of_getElem? (i := 710) (by decide +kernel), by decide +kernel⟩
theorem q711 : Cond.code yX4_number cX4_number 3 (some .int) ∈ tW := List.mem_filter.mpr ⟨List.mem_of_getElem? (i := 711) (by decide +kernel), by decide +kernel⟩
theorem q712 : Cond.methodLink "NineLandsModel" 98 yX4_isIn ∈ tW := List.mem_filter.mpr ⟨List.mem_of_getElem? (i := 712) (by decide +kernel), by decide +kernel⟩
theorem q713 : Cond.static yX4_isIn ∈ tW := List.mem_filter.mpr ⟨List.mem_of_getElem? (i := 713) (by decide +kernel), by decide +kernel⟩
theorem q714 : Cond.code yX4_isIn cX4_isIn 3 (some .boolean) ∈ tW := List.mem_filter.mpr ⟨List.mem_of_getElem? (i := 714) (by decide +kernel), by decide +kernel⟩
theorem q715 : Cond.methodLink "NineLandsModel" 112 yX4_takes ∈ tW := List.mem_filter.mpr ⟨List.mem_of_getElem? (i := 715) (by decide +kernel), by decide +kernel⟩
theorem q717 : Cond.instanceMethod yX4_takes ∈ tW := List.mem_filter.mpr ⟨List.mem_of_getElem? (i := 717) (by decide +kernel), by decide +kernel⟩
theorem q718 : Cond.code yX4_takes cX4_takes 2 (some .boolean) ∈ tW := List.mem_filter.mpr ⟨List.mem_of_getElem? (i := 718) (by decide +kernel), by decide +kernel⟩
theorem q723 : Cond.methodLink "NineLandsModel" 119 yX4_isSpell ∈ tW := List.mem_filter.mpr ⟨List.mem_of_getElem? (i := 723) (by decide +kernel), by decide +kernel⟩
theorem q725 : Cond.instanceMethod yX4_isSpell ∈ tW := List.mem_filter.mpr ⟨List.mem_of_getElem? (i := 725) (by decide +kernel), by decide +kernel⟩
theorem q726 : Cond.code yX4_isSpell cX4_isSpell 2 (some .boolean) ∈ tW := List.mem_filter.mpr ⟨List.mem_of_getElem? (i := 726) (by decide +kernel), by decide +kernel⟩
theorem q747 : Cond.methodLink "NineLandsModel" 133 yX4_findMonths ∈ tW := List.mem_filter.mpr ⟨List.mem_of_getElem? (i := 747) (by decide +kernel), by decide +kernel⟩
theorem q749 : Cond.instanceMethod yX4_findMonths ∈ tW := List.mem_filter.mpr ⟨List.mem_of_getElem? (i := 749) (by decide +kernel), by decide +kernel⟩
theorem q750 : Cond.code yX4_findMonths cX4_findMonths 5 none ∈ tW := List.mem_filter.mpr ⟨List.mem_of_getElem? (i := 750) (by decide +kernel), by decide +kernel⟩
theorem q751 : Cond.methodLink "NineLandsModel" 122 yX4_lawOf ∈ tW := List.mem_filter.mpr ⟨List.mem_of_getElem? (i := 751) (by decide +kernel), by decide +kernel⟩
theorem q753 : Cond.instanceMethod yX4_lawOf ∈ tW := List.mem_filter.mpr ⟨List.mem_of_getElem? (i := 753) (by decide +kernel), by decide +kernel⟩
theorem q754 : Cond.code yX4_lawOf cX4_lawOf 3 (some .int) ∈ tW := List.mem_filter.mpr ⟨List.mem_of_getElem? (i := 754) (by decide +kernel), by decide +kernel⟩
theorem q755 : Cond.methodLink "NineLandsModel" 126 yX4_sums ∈ tW := List.mem_filter.mpr ⟨List.mem_of_getElem? (i := 755) (by decide +kernel), by decide +kernel⟩
theorem q757 : Cond.instanceMethod yX4_sums ∈ tW := List.mem_filter.mpr ⟨List.mem_of_getElem? (i := 757) (by decide +kernel), by decide +kernel⟩
theorem q758 : Cond.code yX4_sums cX4_sums 5 none ∈ tW := List.mem_filter.mpr ⟨List.mem_of_getElem? (i := 758) (by decide +kernel), by decide +kernel⟩
theorem q759 : Cond.methodLink "NineLandsModel" 130 yX4_putPay ∈ tW := List.mem_filter.mpr ⟨List.mem_of_getElem? (i := 759) (by decide +kernel), by decide +kernel⟩
theorem q761 : Cond.instanceMethod yX4_putPay ∈ tW := List.mem_filter.mpr ⟨List.mem_of_getElem? (i := 761) (by decide +kernel), by decide +kernel⟩
theorem q762 : Cond.code yX4_putPay cX4_putPay 4 (some .int) ∈ tW := List.mem_filter.mpr ⟨List.mem_of_getElem? (i := 762) (by decide +kernel), by decide +kernel⟩
theorem q775 : Cond.methodLink "NineLandsModel" 160 yX4_says ∈ tW := List.mem_filter.mpr ⟨List.mem_of_getElem? (i := 775) (by decide +kernel), by decide +kernel⟩
theorem q777 : Cond.instanceMethod yX4_says ∈ tW := List.mem_filter.mpr ⟨List.mem_of_getElem? (i := 777) (by decide +kernel), by decide +kernel⟩
theorem q778 : Cond.code yX4_says cX4_says 5 (some .int) ∈ tW := List.mem_filter.mpr ⟨List.mem_of_getElem? (i := 778) (by decide +kernel), by decide +kernel⟩
theorem q779 : Cond.methodLink "NineLandsModel" 136 yX4_isRight ∈ tW := List.mem_filter.mpr ⟨List.mem_of_getElem? (i := 779) (by decide +kernel), by decide +kernel⟩
theorem q781 : Cond.instanceMethod yX4_isRight ∈ tW := List.mem_filter.mpr ⟨List.mem_of_getElem? (i := 781) (by decide +kernel), by decide +kernel⟩
theorem q782 : Cond.code yX4_isRight cX4_isRight 3 (some .boolean) ∈ tW := List.mem_filter.mpr ⟨List.mem_of_getElem? (i := 782) (by decide +kernel), by decide +kernel⟩
theorem q783 : Cond.methodLink "NineLandsModel" 140 yX4_byRate ∈ tW := List.mem_filter.mpr ⟨List.mem_of_getElem? (i := 783) (by decide +kernel), by decide +kernel⟩
theorem q785 : Cond.instanceMethod yX4_byRate ∈ tW := List.mem_filter.mpr ⟨List.mem_of_getElem? (i := 785) (by decide +kernel), by decide +kernel⟩
theorem q786 : Cond.code yX4_byRate cX4_byRate 4 (some .int) ∈ tW := List.mem_filter.mpr ⟨List.mem_of_getElem? (i := 786) (by decide +kernel), by decide +kernel⟩
theorem q787 : Cond.methodLink "NineLandsModel" 146 yX4_leastOf ∈ tW := List.mem_filter.mpr ⟨List.mem_of_getElem? (i := 787) (by decide +kernel), by decide +kernel⟩
theorem q789 : Cond.instanceMethod yX4_leastOf ∈ tW := List.mem_filter.mpr ⟨List.mem_of_getElem? (i := 789) (by decide +kernel), by decide +kernel⟩
theorem q790 : Cond.code yX4_leastOf cX4_leastOf 2 (some .int) ∈ tW := List.mem_filter.mpr ⟨List.mem_of_getElem? (i := 790) (by decide +kernel), by decide +kernel⟩
theorem q791 : Cond.methodLink "NineLandsModel" 143 yX4_greater ∈ tW := List.mem_filter.mpr ⟨List.mem_of_getElem? (i := 791) (by decide +kernel), by decide +kernel⟩
theorem q792 : Cond.static yX4_greater ∈ tW := List.mem_filter.mpr ⟨List.mem_of_getElem? (i := 792) (by decide +kernel), by decide +kernel⟩
theorem q793 : Cond.code yX4_greater cX4_greater 2 (some .int) ∈ tW := List.mem_filter.mpr ⟨List.mem_of_getElem? (i := 793) (by decide +kernel), by decide +kernel⟩
theorem q794 : Cond.methodLink "NineLandsModel" 149 yX4_putOf ∈ tW := List.mem_filter.mpr ⟨List.mem_of_getElem? (i := 794) (by decide +kernel), by decide +kernel⟩
theorem q796 : Cond.instanceMethod yX4_putOf ∈ tW := List.mem_filter.mpr ⟨List.mem_of_getElem? (i := 796) (by decide +kernel), by decide +kernel⟩
theorem q797 : Cond.code yX4_putOf cX4_putOf 2 (some .int) ∈ tW := List.mem_filter.mpr ⟨List.mem_of_getElem? (i := 797) (by decide +kernel), by decide +kernel⟩
theorem q806 : Cond.methodLink "NineLandsModel" 163 yX4_finds ∈ tW := List.mem_filter.mpr ⟨List.mem_of_getElem? (i := 806) (by decide +kernel), by decide +kernel⟩
theorem q808 : Cond.instanceMethod yX4_finds ∈ tW := List.mem_filter.mpr ⟨List.mem_of_getElem? (i := 808) (by decide +kernel), by decide +kernel⟩
theorem q809 : Cond.code yX4_finds cX4_finds 5 none ∈ tW := List.mem_filter.mpr ⟨List.mem_of_getElem? (i := 809) (by decide +kernel), by decide +kernel⟩
theorem q810 : Cond.methodLink "NineLandsModel" 156 yX4_sumOf ∈ tW := List.mem_filter.mpr ⟨List.mem_of_getElem? (i := 810) (by decide +kernel), by decide +kernel⟩
theorem q812 : Cond.instanceMethod yX4_sumOf ∈ tW := List.mem_filter.mpr ⟨List.mem_of_getElem? (i := 812) (by decide +kernel), by decide +kernel⟩
theorem q813 : Cond.code yX4_sumOf cX4_sumOf 4 (some .int) ∈ tW := List.mem_filter.mpr ⟨List.mem_of_getElem? (i := 813) (by decide +kernel), by decide +kernel⟩
theorem q826 : Cond.methodLink "NineLandsModel" 166 yX4_paid ∈ tW := List.mem_filter.mpr ⟨List.mem_of_getElem? (i := 826) (by decide +kernel), by decide +kernel⟩
theorem q828 : Cond.instanceMethod yX4_paid ∈ tW := List.mem_filter.mpr ⟨List.mem_of_getElem? (i := 828) (by decide +kernel), by decide +kernel⟩
theorem q829 : Cond.code yX4_paid cX4_paid 5 (some .int) ∈ tW := List.mem_filter.mpr ⟨List.mem_of_getElem? (i := 829) (by decide +kernel), by decide +kernel⟩
theorem q838 : Cond.methodLink "NineLandsModel" 169 yX4_livingIn ∈ tW := List.mem_filter.mpr ⟨List.mem_of_getElem? (i := 838) (by decide +kernel), by decide +kernel⟩
theorem q840 : Cond.instanceMethod yX4_livingIn ∈ tW := List.mem_filter.mpr ⟨List.mem_of_getElem? (i := 840) (by decide +kernel), by decide +kernel⟩
theorem q841 : Cond.code yX4_livingIn cX4_livingIn 4 (some .int) ∈ tW := List.mem_filter.mpr ⟨List.mem_of_getElem? (i := 841) (by decide +kernel), by decide +kernel⟩
theorem q850 : Cond.methodLink "NineLandsModel" 172 yX4_behind ∈ tW := List.mem_filter.mpr ⟨List.mem_of_getElem? (i := 850) (by decide +kernel), by decide +kernel⟩
theorem q852 : Cond.instanceMethod yX4_behind ∈ tW := List.mem_filter.mpr ⟨List.mem_of_getElem? (i := 852) (by decide +kernel), by decide +kernel⟩
theorem q853 : Cond.code yX4_behind cX4_behind 3 (some .int) ∈ tW := List.mem_filter.mpr ⟨List.mem_of_getElem? (i := 853) (by decide +kernel), by decide +kernel⟩
theorem q854 : Cond.methodLink "NineLandsModel" 175 yX4_findsWith ∈ tW := List.mem_filter.mpr ⟨List.mem_of_getElem? (i := 854) (by decide +kernel), by decide +kernel⟩
theorem q856 : Cond.instanceMethod yX4_findsWith ∈ tW := List.mem_filter.mpr ⟨List.mem_of_getElem? (i := 856) (by decide +kernel), by decide +kernel⟩
theorem q857 : Cond.code yX4_findsWith cX4_findsWith 5 none ∈ tW := List.mem_filter.mpr ⟨List.mem_of_getElem? (i := 857) (by decide +kernel), by decide +kernel⟩
theorem q866 : Cond.methodLink "NineLandsModel" 179 yX4_less ∈ tW := List.mem_filter.mpr ⟨List.mem_of_getElem? (i := 866) (by decide +kernel), by decide +kernel⟩
theorem q868 : Cond.instanceMethod yX4_less ∈ tW := List.mem_filter.mpr ⟨List.mem_of_getElem? (i := 868) (by decide +kernel), by decide +kernel⟩
theorem q869 : Cond.code yX4_less cX4_less 2 (some .int) ∈ tW := List.mem_filter.mpr ⟨List.mem_of_getElem? (i := 869) (by decide +kernel), by decide +kernel⟩
theorem q870 : Cond.constant "NineLandsModel" 77 (1000000000) ∈ tW := List.mem_filter.mpr ⟨List.mem_of_getElem? (i := 870) (by decide +kernel), by decide +kernel⟩
theorem q887 : Cond.methodLink "NineLandsModel" 198 yX4_passesAll ∈ tW := List.mem_filter.mpr ⟨List.mem_of_getElem? (i := 887) (by decide +kernel), by decide +kernel⟩
theorem q889 : Cond.instanceMethod yX4_passesAll ∈ tW := List.mem_filter.mpr ⟨List.mem_of_getElem? (i := 889) (by decide +kernel), by decide +kernel⟩
theorem q890 : Cond.code yX4_passesAll cX4_passesAll 1 none ∈ tW := List.mem_filter.mpr ⟨List.mem_of_getElem? (i := 890) (by decide +kernel), by decide +kernel⟩
theorem q891 : Cond.methodLink "NineLandsModel" 191 yX4_passes ∈ tW := List.mem_filter.mpr ⟨List.mem_of_getElem? (i := 891) (by decide +kernel), by decide +kernel⟩
theorem q893 : Cond.instanceMethod yX4_passes ∈ tW := List.mem_filter.mpr ⟨List.mem_of_getElem? (i := 893) (by decide +kernel), by decide +kernel⟩
theorem q894 : Cond.code yX4_passes cX4_passes 3 none ∈ tW := List.mem_filter.mpr ⟨List.mem_of_getElem? (i := 894) (by decide +kernel), by decide +kernel⟩
end
section
/-- NineLandsModel.no(I)I -/
theorem dX4_no_0 : decode cX4_no 0 = .ok (.aload_n 0, 1) := by decide +kernel
theorem dX4_no_1 : decode cX4_no 1 = .ok (.getfield 7, 3) := by decide +kernel
theorem dX4_no_4 : decode cX4_no 4 = .ok (.iload_n 1, 1) := by decide +kernel
theorem dX4_no_5 : decode cX4_no 5 = .ok (.ineg, 1) := by decide +kernel
theorem dX4_no_6 : decode cX4_no 6 = .ok (.dup2, 1) := by decide +kernel
theorem dX4_no_7 : decode cX4_no 7 = .ok (.iaload, 1) := by decide +kernel
theorem dX4_no_8 : decode cX4_no 8 = .ok (.iconst 1, 1) := by decide +kernel
theorem dX4_no_9 : decode cX4_no 9 = .ok (.iadd, 1) := by decide +kernel
theorem dX4_no_10 : decode cX4_no 10 = .ok (.iastore, 1) := by decide +kernel
theorem dX4_no_11 : decode cX4_no 11 = .ok (.iload_n 1, 1) := by decide +kernel
theorem dX4_no_12 : decode cX4_no 12 = .ok (.ireturn, 1) := by decide +kernel
theorem hd_X4_no : yX4_no.cls ≠ "java/lang/invoke/MethodHandle" ∧ yX4_no.cls ≠ "java/lang/invoke/VarHandle" ∧ (parseMethodDescriptor yX4_no.desc).map (fun d => d.parameters.length) = some 1 := by decide +kernel
def f_X4_no (a1 : Int32) (S : vS) : Option (Int32 × vS) := if inb (-a1) 7 = true then lt (upk S 1 (upd (S 1) ((-a1).toNatClampNeg) ((S 1 ((-a1).toNatClampNeg)) + (1 : Int32)))) fun S2 => some (a1, S2) else none
set_option maxHeartbeats 4000000 in
set_option maxRecDepth 20000 in
theorem c_X4_no (l : Launch) (D : va_G) (cI cO : ClassId) (ad : Nat → Nat) (a1 : Int32) (S : vS) (R9 : Int32) (S9 : vS) (hf : f_X4_no a1 S = some (R9, S9)) : CI l yX4_no cX4_no 2 .int ({ frames := 0, cells := 0, slots := 0, locals := 0 }) [.ref (ad 5), .int a1] D cI cO ad S R9 S9 := by
  refine CI.of (by decide +kernel) (Nat.le_of_ble_eq_true rfl) (fun p e s m args below meth c Q ls X hl hw hfin => ?_)
  have hl : lv_has ls 2 [(0, .ref (ad 5)), (1, .int a1)] := hl
  have hx := X.1
  have hb := X.2.1
  unfold f_X4_no at hf
  refine lv_aload_n hx hb dX4_no_0 rfl (lv_at hl 0 rfl) ?_
  refine x_get X hw 5 (Nat.le_of_ble_eq_true rfl) ce5 rfl i_X4 0 (by decide) q590 ⟨rfl, rfl, rfl⟩ rfl dX4_no_1 ?_
  refine lv_iload_n hx hb dX4_no_4 rfl (lv_at hl 1 rfl) ?_
  refine lv_ineg hx hb dX4_no_5 ?_
  refine lv_dup2_11 hx hb dX4_no_6 rfl rfl ?_
  obtain ⟨h1, hf⟩ := if_s hf
  refine x_iald X hw 1 ⟨Nat.le_of_ble_eq_true rfl, Nat.le_of_ble_eq_true rfl⟩ rfl h1 ((-a1).toNatClampNeg) rfl dX4_no_7 ?_
  refine lv_iconst (v := 1) hx hb dX4_no_8 (by decide) ?_
  refine lv_iadd hx hb dX4_no_9 ?_
  refine x_iast X hw 1 ⟨Nat.le_of_ble_eq_true rfl, Nat.le_of_ble_eq_true rfl⟩ rfl h1 ((-a1).toNatClampNeg) rfl dX4_no_10 (fun S2 eS2 H locs hw => ?_)
  replace hf := lt_e eS2 hf
  refine lv_iload_n hx hb dX4_no_11 rfl (lv_at hl 1 rfl) ?_
  exact hfin _ _ _ _ _ _ hw (s2a hf) (s2b hf) (narI _) dX4_no_12
/-- NineLandsModel.less(I)I -/
theorem dX4_less_0 : decode cX4_less 0 = .ok (.aload_n 0, 1) := by decide +kernel
theorem dX4_less_1 : decode cX4_less 1 = .ok (.getfield 7, 3) := by decide +kernel
theorem dX4_less_4 : decode cX4_less 4 = .ok (.iload_n 1, 1) := by decide +kernel
theorem dX4_less_5 : decode cX4_less 5 = .ok (.ineg, 1) := by decide +kernel
theorem dX4_less_6 : decode cX4_less 6 = .ok (.dup2, 1) := by decide +kernel
theorem dX4_less_7 : decode cX4_less 7 = .ok (.iaload, 1) := by decide +kernel
theorem dX4_less_8 : decode cX4_less 8 = .ok (.iconst 1, 1) := by decide +kernel
theorem dX4_less_9 : decode cX4_less 9 = .ok (.iadd, 1) := by decide +kernel
theorem dX4_less_10 : decode cX4_less 10 = .ok (.iastore, 1) := by decide +kernel
theorem dX4_less_11 : decode cX4_less 11 = .ok (.ldc 77, 2) := by decide +kernel
theorem dX4_less_13 : decode cX4_less 13 = .ok (.iload_n 1, 1) := by decide +kernel
theorem dX4_less_14 : decode cX4_less 14 = .ok (.isub, 1) := by decide +kernel
theorem dX4_less_15 : decode cX4_less 15 = .ok (.ireturn, 1) := by decide +kernel
theorem hd_X4_less : yX4_less.cls ≠ "java/lang/invoke/MethodHandle" ∧ yX4_less.cls ≠ "java/lang/invoke/VarHandle" ∧ (parseMethodDescriptor yX4_less.desc).map (fun d => d.parameters.length) = some 1 := by decide +kernel
def f_X4_less (a1 : Int32) (S : vS) : Option (Int32 × vS) := if inb (-a1) 7 = true then lt (upk S 1 (upd (S 1) ((-a1).toNatClampNeg) ((S 1 ((-a1).toNatClampNeg)) + (1 : Int32)))) fun S2 => some (((1000000000 : Int32) - a1), S2) else none
set_option maxHeartbeats 4000000 in
set_option maxRecDepth 20000 in
theorem c_X4_less (l : Launch) (D : va_G) (cI cO : ClassId) (ad : Nat → Nat) (a1 : Int32) (S : vS) (R9 : Int32) (S9 : vS) (hf : f_X4_less a1 S = some (R9, S9)) : CI l yX4_less cX4_less 2 .int ({ frames := 0, cells := 0, slots := 0, locals := 0 }) [.ref (ad 5), .int a1] D cI cO ad S R9 S9 := by
  refine CI.of (by decide +kernel) (Nat.le_of_ble_eq_true rfl) (fun p e s m args below meth c Q ls X hl hw hfin => ?_)
  have hl : lv_has ls 2 [(0, .ref (ad 5)), (1, .int a1)] := hl
  have hx := X.1
  have hb := X.2.1
  unfold f_X4_less at hf
  refine lv_aload_n hx hb dX4_less_0 rfl (lv_at hl 0 rfl) ?_
  refine x_get X hw 5 (Nat.le_of_ble_eq_true rfl) ce5 rfl i_X4 0 (by decide) q590 ⟨rfl, rfl, rfl⟩ rfl dX4_less_1 ?_
  refine lv_iload_n hx hb dX4_less_4 rfl (lv_at hl 1 rfl) ?_
  refine lv_ineg hx hb dX4_less_5 ?_
  refine lv_dup2_11 hx hb dX4_less_6 rfl rfl ?_
  obtain ⟨h1, hf⟩ := if_s hf
  refine x_iald X hw 1 ⟨Nat.le_of_ble_eq_true rfl, Nat.le_of_ble_eq_true rfl⟩ rfl h1 ((-a1).toNatClampNeg) rfl dX4_less_7 ?_
  refine lv_iconst (v := 1) hx hb dX4_less_8 (by decide) ?_
  refine lv_iadd hx hb dX4_less_9 ?_
  refine x_iast X hw 1 ⟨Nat.le_of_ble_eq_true rfl, Nat.le_of_ble_eq_true rfl⟩ rfl h1 ((-a1).toNatClampNeg) rfl dX4_less_10 (fun S2 eS2 H locs hw => ?_)
  replace hf := lt_e eS2 hf
  refine lv_ldc (v := 1000000000) hx hb X.2.2.2.1 (X.2.2.2.2 _ (List.mem_cons_of_mem _ q870)) dX4_less_11 ?_
  refine lv_iload_n hx hb dX4_less_13 rfl (lv_at hl 1 rfl) ?_
  refine lv_isub hx hb dX4_less_14 ?_
  exact hfin _ _ _ _ _ _ hw (s2a hf) (s2b hf) (narI _) dX4_less_15
/-- NineLandsModel.isIn(III)Z -/
theorem dX4_isIn_0 : decode cX4_isIn 0 = .ok (.iload_n 0, 1) := by decide +kernel
theorem dX4_isIn_1 : decode cX4_isIn 1 = .ok (.iload_n 1, 1) := by decide +kernel
theorem dX4_isIn_2 : decode cX4_isIn 2 = .ok (.if_icmp .lt 12, 3) := by decide +kernel
theorem dX4_isIn_5 : decode cX4_isIn 5 = .ok (.iload_n 0, 1) := by decide +kernel
theorem dX4_isIn_6 : decode cX4_isIn 6 = .ok (.iload_n 2, 1) := by decide +kernel
theorem dX4_isIn_7 : decode cX4_isIn 7 = .ok (.if_icmp .gt 7, 3) := by decide +kernel
theorem dX4_isIn_10 : decode cX4_isIn 10 = .ok (.iconst 1, 1) := by decide +kernel
theorem dX4_isIn_11 : decode cX4_isIn 11 = .ok (.goto 4, 3) := by decide +kernel
theorem dX4_isIn_14 : decode cX4_isIn 14 = .ok (.iconst 0, 1) := by decide +kernel
theorem dX4_isIn_15 : decode cX4_isIn 15 = .ok (.ireturn, 1) := by decide +kernel
theorem hd_X4_isIn : yX4_isIn.cls ≠ "java/lang/invoke/MethodHandle" ∧ yX4_isIn.cls ≠ "java/lang/invoke/VarHandle" ∧ (parseMethodDescriptor yX4_isIn.desc).map (fun d => d.parameters.length) = some 3 := by decide +kernel
def f_X4_isIn (a0 : Int32) (a1 : Int32) (a2 : Int32) (S : vS) : Option Int32 := if a0 < a1 then some (0 : Int32) else if a2 < a0 then some (0 : Int32) else some (1 : Int32)
set_option maxHeartbeats 4000000 in
set_option maxRecDepth 20000 in
theorem c_X4_isIn (l : Launch) (D : va_G) (cI cO : ClassId) (ad : Nat → Nat) (a0 : Int32) (a1 : Int32) (a2 : Int32) (S : vS) (R9 : Int32) (hf : f_X4_isIn a0 a1 a2 S = some R9) : CI l yX4_isIn cX4_isIn 3 .boolean ({ frames := 0, cells := 0, slots := 0, locals := 0 }) [.int a0, .int a1, .int a2] D cI cO ad S R9 S := by
  refine CI.of (by decide +kernel) (Nat.le_of_ble_eq_true rfl) (fun p e s m args below meth c Q ls X hl hw hfin => ?_)
  have hl : lv_has ls 3 [(0, .int a0), (1, .int a1), (2, .int a2)] := hl
  have hx := X.1
  have hb := X.2.1
  unfold f_X4_isIn at hf
  refine lv_iload_n hx hb dX4_isIn_0 rfl (lv_at hl 0 rfl) ?_
  refine lv_iload_n hx hb dX4_isIn_1 rfl (lv_at hl 1 rfl) ?_
  refine lv_icmp_lt (tgt := 14) hx hb dX4_isIn_2 (by decide) (fun c1 => ?_) (fun c1 => ?_)
  · replace hf := if_t c1 hf
    refine lv_iconst (v := 0) hx hb dX4_isIn_14 (by decide) ?_
    exact hfin _ _ _ _ _ _ hw (Option.some.inj hf) rfl rfl dX4_isIn_15
  · replace hf := if_f c1 hf
    refine lv_iload_n hx hb dX4_isIn_5 rfl (lv_at hl 0 rfl) ?_
    refine lv_iload_n hx hb dX4_isIn_6 rfl (lv_at hl 2 rfl) ?_
    refine lv_icmp_gt (tgt := 14) hx hb dX4_isIn_7 (by decide) (fun c2 => ?_) (fun c2 => ?_)
    · replace hf := if_t c2 hf
      refine lv_iconst (v := 0) hx hb dX4_isIn_14 (by decide) ?_
      exact hfin _ _ _ _ _ _ hw (Option.some.inj hf) rfl rfl dX4_isIn_15
    · replace hf := if_f c2 hf
      refine lv_iconst (v := 1) hx hb dX4_isIn_10 (by decide) ?_
      refine lv_goto (tgt := 15) hx hb dX4_isIn_11 (by decide) ?_
      exact hfin _ _ _ _ _ _ hw (Option.some.inj hf) rfl rfl dX4_isIn_15
/-- NineLandsModel.out(III)I -/
theorem dX4_out_0 : decode cX4_out 0 = .ok (.iload_n 0, 1) := by decide +kernel
theorem dX4_out_1 : decode cX4_out 1 = .ok (.iload_n 1, 1) := by decide +kernel
theorem dX4_out_2 : decode cX4_out 2 = .ok (.if_icmp .ge 8, 3) := by decide +kernel
theorem dX4_out_5 : decode cX4_out 5 = .ok (.bipush (-4), 2) := by decide +kernel
theorem dX4_out_7 : decode cX4_out 7 = .ok (.goto 14, 3) := by decide +kernel
theorem dX4_out_10 : decode cX4_out 10 = .ok (.iload_n 0, 1) := by decide +kernel
theorem dX4_out_11 : decode cX4_out 11 = .ok (.iload_n 2, 1) := by decide +kernel
theorem dX4_out_12 : decode cX4_out 12 = .ok (.if_icmp .le 8, 3) := by decide +kernel
theorem dX4_out_15 : decode cX4_out 15 = .ok (.bipush (-6), 2) := by decide +kernel
theorem dX4_out_17 : decode cX4_out 17 = .ok (.goto 4, 3) := by decide +kernel
theorem dX4_out_20 : decode cX4_out 20 = .ok (.iconst 0, 1) := by decide +kernel
theorem dX4_out_21 : decode cX4_out 21 = .ok (.ireturn, 1) := by decide +kernel
theorem hd_X4_out : yX4_out.cls ≠ "java/lang/invoke/MethodHandle" ∧ yX4_out.cls ≠ "java/lang/invoke/VarHandle" ∧ (parseMethodDescriptor yX4_out.desc).map (fun d => d.parameters.length) = some 3 := by decide +kernel
def f_X4_out (a0 : Int32) (a1 : Int32) (a2 : Int32) (S : vS) : Option Int32 := if a1 ≤ a0 then if a0 ≤ a2 then some (0 : Int32) else some (-6 : Int32) else some (-4 : Int32)
set_option maxHeartbeats 4000000 in
set_option maxRecDepth 20000 in
theorem c_X4_out (l : Launch) (D : va_G) (cI cO : ClassId) (ad : Nat → Nat) (a0 : Int32) (a1 : Int32) (a2 : Int32) (S : vS) (R9 : Int32) (hf : f_X4_out a0 a1 a2 S = some R9) : CI l yX4_out cX4_out 3 .int ({ frames := 0, cells := 0, slots := 0, locals := 0 }) [.int a0, .int a1, .int a2] D cI cO ad S R9 S := by
  refine CI.of (by decide +kernel) (Nat.le_of_ble_eq_true rfl) (fun p e s m args below meth c Q ls X hl hw hfin => ?_)
  have hl : lv_has ls 3 [(0, .int a0), (1, .int a1), (2, .int a2)] := hl
  have hx := X.1
  have hb := X.2.1
  unfold f_X4_out at hf
  refine lv_iload_n hx hb dX4_out_0 rfl (lv_at hl 0 rfl) ?_
  refine lv_iload_n hx hb dX4_out_1 rfl (lv_at hl 1 rfl) ?_
  refine lv_icmp_ge (tgt := 10) hx hb dX4_out_2 (by decide) (fun c1 => ?_) (fun c1 => ?_)
  · replace hf := if_t c1 hf
    refine lv_iload_n hx hb dX4_out_10 rfl (lv_at hl 0 rfl) ?_
    refine lv_iload_n hx hb dX4_out_11 rfl (lv_at hl 2 rfl) ?_
    refine lv_icmp_le (tgt := 20) hx hb dX4_out_12 (by decide) (fun c2 => ?_) (fun c2 => ?_)
    · replace hf := if_t c2 hf
      refine lv_iconst (v := 0) hx hb dX4_out_20 (by decide) ?_
      exact hfin _ _ _ _ _ _ hw (Option.some.inj hf) rfl (narI _) dX4_out_21
    · replace hf := if_f c2 hf
      refine lv_bipush (v := -6) hx hb dX4_out_15 (by decide +kernel) ?_
      refine lv_goto (tgt := 21) hx hb dX4_out_17 (by decide) ?_
      exact hfin _ _ _ _ _ _ hw (Option.some.inj hf) rfl (narI _) dX4_out_21
  · replace hf := if_f c1 hf
    refine lv_bipush (v := -4) hx hb dX4_out_5 (by decide +kernel) ?_
    refine lv_goto (tgt := 21) hx hb dX4_out_7 (by decide) ?_
    exact hfin _ _ _ _ _ _ hw (Option.some.inj hf) rfl (narI _) dX4_out_21
/-- NineLandsModel.isLand(I)Z -/
theorem dX4_isLand_0 : decode cX4_isLand 0 = .ok (.iload_n 0, 1) := by decide +kernel
theorem dX4_isLand_1 : decode cX4_isLand 1 = .ok (.ifCond .lt 13, 3) := by decide +kernel
theorem dX4_isLand_4 : decode cX4_isLand 4 = .ok (.iload_n 0, 1) := by decide +kernel
theorem dX4_isLand_5 : decode cX4_isLand 5 = .ok (.bipush 6, 2) := by decide +kernel
theorem dX4_isLand_7 : decode cX4_isLand 7 = .ok (.if_icmp .ge 7, 3) := by decide +kernel
theorem dX4_isLand_10 : decode cX4_isLand 10 = .ok (.iconst 1, 1) := by decide +kernel
theorem dX4_isLand_11 : decode cX4_isLand 11 = .ok (.goto 4, 3) := by decide +kernel
theorem dX4_isLand_14 : decode cX4_isLand 14 = .ok (.iconst 0, 1) := by decide +kernel
theorem dX4_isLand_15 : decode cX4_isLand 15 = .ok (.ireturn, 1) := by decide +kernel
theorem hd_X4_isLand : yX4_isLand.cls ≠ "java/lang/invoke/MethodHandle" ∧ yX4_isLand.cls ≠ "java/lang/invoke/VarHandle" ∧ (parseMethodDescriptor yX4_isLand.desc).map (fun d => d.parameters.length) = some 1 := by decide +kernel
def f_X4_isLand (a0 : Int32) (S : vS) : Option Int32 := if a0 < 0 then some (0 : Int32) else if (6 : Int32) ≤ a0 then some (0 : Int32) else some (1 : Int32)
set_option maxHeartbeats 4000000 in
set_option maxRecDepth 20000 in
theorem c_X4_isLand (l : Launch) (D : va_G) (cI cO : ClassId) (ad : Nat → Nat) (a0 : Int32) (S : vS) (R9 : Int32) (hf : f_X4_isLand a0 S = some R9) : CI l yX4_isLand cX4_isLand 1 .boolean ({ frames := 0, cells := 0, slots := 0, locals := 0 }) [.int a0] D cI cO ad S R9 S := by
  refine CI.of (by decide +kernel) (Nat.le_of_ble_eq_true rfl) (fun p e s m args below meth c Q ls X hl hw hfin => ?_)
  have hl : lv_has ls 1 [(0, .int a0)] := hl
  have hx := X.1
  have hb := X.2.1
  unfold f_X4_isLand at hf
  refine lv_iload_n hx hb dX4_isLand_0 rfl (lv_at hl 0 rfl) ?_
  refine lv_if_lt (tgt := 14) hx hb dX4_isLand_1 (by decide) (fun c1 => ?_) (fun c1 => ?_)
  · replace hf := if_t c1 hf
    refine lv_iconst (v := 0) hx hb dX4_isLand_14 (by decide) ?_
    exact hfin _ _ _ _ _ _ hw (Option.some.inj hf) rfl rfl dX4_isLand_15
  · replace hf := if_f c1 hf
    refine lv_iload_n hx hb dX4_isLand_4 rfl (lv_at hl 0 rfl) ?_
    refine lv_bipush (v := 6) hx hb dX4_isLand_5 (by decide +kernel) ?_
    refine lv_icmp_ge (tgt := 14) hx hb dX4_isLand_7 (by decide) (fun c2 => ?_) (fun c2 => ?_)
    · replace hf := if_t c2 hf
      refine lv_iconst (v := 0) hx hb dX4_isLand_14 (by decide) ?_
      exact hfin _ _ _ _ _ _ hw (Option.some.inj hf) rfl rfl dX4_isLand_15
    · replace hf := if_f c2 hf
      refine lv_iconst (v := 1) hx hb dX4_isLand_10 (by decide) ?_
      refine lv_goto (tgt := 15) hx hb dX4_isLand_11 (by decide) ?_
      exact hfin _ _ _ _ _ _ hw (Option.some.inj hf) rfl rfl dX4_isLand_15
/-- NineLandsModel.feed(IJ)I -/
theorem dX4_feed_0 : decode cX4_feed 0 = .ok (.iload_n 1, 1) := by decide +kernel
theorem dX4_feed_1 : decode cX4_feed 1 = .ok (.iconst 1, 1) := by decide +kernel
theorem dX4_feed_2 : decode cX4_feed 2 = .ok (.bipush 8, 2) := by decide +kernel
theorem dX4_feed_4 : decode cX4_feed 4 = .ok (.invokestatic 78, 3) := by decide +kernel
theorem dX4_feed_7 : decode cX4_feed 7 = .ok (.istore 4, 2) := by decide +kernel
theorem dX4_feed_9 : decode cX4_feed 9 = .ok (.iload 4, 2) := by decide +kernel
theorem dX4_feed_11 : decode cX4_feed 11 = .ok (.ifCond .ne 18, 3) := by decide +kernel
theorem dX4_feed_14 : decode cX4_feed 14 = .ok (.aload_n 0, 1) := by decide +kernel
theorem dX4_feed_15 : decode cX4_feed 15 = .ok (.getfield 82, 3) := by decide +kernel
theorem dX4_feed_18 : decode cX4_feed 18 = .ok (.iload_n 1, 1) := by decide +kernel
theorem dX4_feed_19 : decode cX4_feed 19 = .ok (.iadd, 1) := by decide +kernel
theorem dX4_feed_20 : decode cX4_feed 20 = .ok (.bipush 16, 2) := by decide +kernel
theorem dX4_feed_22 : decode cX4_feed 22 = .ok (.if_icmp .le 7, 3) := by decide +kernel
theorem dX4_feed_25 : decode cX4_feed 25 = .ok (.bipush (-6), 2) := by decide +kernel
theorem dX4_feed_27 : decode cX4_feed 27 = .ok (.istore 4, 2) := by decide +kernel
theorem dX4_feed_29 : decode cX4_feed 29 = .ok (.iload 4, 2) := by decide +kernel
theorem dX4_feed_31 : decode cX4_feed 31 = .ok (.ifCond .eq 10, 3) := by decide +kernel
theorem dX4_feed_34 : decode cX4_feed 34 = .ok (.aload_n 0, 1) := by decide +kernel
theorem dX4_feed_35 : decode cX4_feed 35 = .ok (.iload 4, 2) := by decide +kernel
theorem dX4_feed_37 : decode cX4_feed 37 = .ok (.invokevirtual 85, 3) := by decide +kernel
theorem dX4_feed_40 : decode cX4_feed 40 = .ok (.ireturn, 1) := by decide +kernel
theorem dX4_feed_41 : decode cX4_feed 41 = .ok (.iconst 0, 1) := by decide +kernel
theorem dX4_feed_42 : decode cX4_feed 42 = .ok (.istore 5, 2) := by decide +kernel
theorem dX4_feed_44 : decode cX4_feed 44 = .ok (.iload 5, 2) := by decide +kernel
theorem dX4_feed_46 : decode cX4_feed 46 = .ok (.iload_n 1, 1) := by decide +kernel
theorem dX4_feed_47 : decode cX4_feed 47 = .ok (.if_icmp .ge 40, 3) := by decide +kernel
theorem dX4_feed_50 : decode cX4_feed 50 = .ok (.aload_n 0, 1) := by decide +kernel
theorem dX4_feed_51 : decode cX4_feed 51 = .ok (.getfield 13, 3) := by decide +kernel
theorem dX4_feed_54 : decode cX4_feed 54 = .ok (.aload_n 0, 1) := by decide +kernel
theorem dX4_feed_55 : decode cX4_feed 55 = .ok (.getfield 82, 3) := by decide +kernel
theorem dX4_feed_58 : decode cX4_feed 58 = .ok (.lload_n 2, 1) := by decide +kernel
theorem dX4_feed_59 : decode cX4_feed 59 = .ok (.bipush 8, 2) := by decide +kernel
theorem dX4_feed_61 : decode cX4_feed 61 = .ok (.iload 5, 2) := by decide +kernel
theorem dX4_feed_63 : decode cX4_feed 63 = .ok (.imul, 1) := by decide +kernel
theorem dX4_feed_64 : decode cX4_feed 64 = .ok (.lshr, 1) := by decide +kernel
theorem dX4_feed_65 : decode cX4_feed 65 = .ok (.ldc2_w 89, 3) := by decide +kernel
theorem dX4_feed_68 : decode cX4_feed 68 = .ok (.land, 1) := by decide +kernel
theorem dX4_feed_69 : decode cX4_feed 69 = .ok (.l2i, 1) := by decide +kernel
theorem dX4_feed_70 : decode cX4_feed 70 = .ok (.iastore, 1) := by decide +kernel
theorem dX4_feed_71 : decode cX4_feed 71 = .ok (.aload_n 0, 1) := by decide +kernel
theorem dX4_feed_72 : decode cX4_feed 72 = .ok (.dup, 1) := by decide +kernel
theorem dX4_feed_73 : decode cX4_feed 73 = .ok (.getfield 82, 3) := by decide +kernel
theorem dX4_feed_76 : decode cX4_feed 76 = .ok (.iconst 1, 1) := by decide +kernel
theorem dX4_feed_77 : decode cX4_feed 77 = .ok (.iadd, 1) := by decide +kernel
theorem dX4_feed_78 : decode cX4_feed 78 = .ok (.putfield 82, 3) := by decide +kernel
theorem dX4_feed_81 : decode cX4_feed 81 = .ok (.iinc 5 1, 3) := by decide +kernel
theorem dX4_feed_84 : decode cX4_feed 84 = .ok (.goto (-40), 3) := by decide +kernel
theorem dX4_feed_87 : decode cX4_feed 87 = .ok (.aload_n 0, 1) := by decide +kernel
theorem dX4_feed_88 : decode cX4_feed 88 = .ok (.getfield 82, 3) := by decide +kernel
theorem dX4_feed_91 : decode cX4_feed 91 = .ok (.ireturn, 1) := by decide +kernel
theorem hd_X4_feed : yX4_feed.cls ≠ "java/lang/invoke/MethodHandle" ∧ yX4_feed.cls ≠ "java/lang/invoke/VarHandle" ∧ (parseMethodDescriptor yX4_feed.desc).map (fun d => d.parameters.length) = some 2 := by decide +kernel
def f_X4_feed_L44 : Nat → Int32 → Int64 → Int32 → vS → Option vS
  | 0, _, _, _, _ => none
  | n + 1, x1, x2, x5, S => if x1 ≤ x5 then some S else if inb (S 0 0) 16 = true then lt (upk S 2 (upd (S 2) ((S 0 0).toNatClampNeg) (((x2 >>> (((8 : Int32) * x5).toInt64 &&& 63)) &&& (255 : Int64)).toInt32))) fun S7 => lt (upk S7 0 (upd (S7 0) 0 ((S7 0 0) + (1 : Int32)))) fun S8 => (f_X4_feed_L44 n) x1 x2 (x5 + 1) S8 else none
def f_X4_feed_J29 (x1 : Int32) (x2 : Int64) (x4 : Int32) (S : vS) : Option (Int32 × vS) := if x4 = 0 then b1 (f_X4_feed_L44 FU x1 x2 (0 : Int32) S) fun S9 => some ((S9 0 0), S9) else b2 (f_X4_no x4 S) fun r13 S12 => some (r13, S12)
def f_X4_feed (a1 : Int32) (a2 : Int64) (S : vS) : Option (Int32 × vS) := b1 (f_X4_out a1 (1 : Int32) (8 : Int32) S) fun r2 => if r2 = 0 then if ((S 0 0) + a1) ≤ (16 : Int32) then f_X4_feed_J29 a1 a2 r2 S else f_X4_feed_J29 a1 a2 (-6 : Int32) S else f_X4_feed_J29 a1 a2 r2 S
set_option maxHeartbeats 4000000 in
set_option maxRecDepth 20000 in
theorem c_X4_feed (l : Launch) (D : va_G) (cI cO : ClassId) (ad : Nat → Nat) (a1 : Int32) (a2 : Int64) (S : vS) (R9 : Int32) (S9 : vS) (hf : f_X4_feed a1 a2 S = some (R9, S9)) : CI l yX4_feed cX4_feed 6 .int ({ frames := 1, cells := 0, slots := 0, locals := 22 }) [.ref (ad 5), .int a1, .long a2] D cI cO ad S R9 S9 := by
  refine CI.of (by decide +kernel) (Nat.le_of_ble_eq_true rfl) (fun p e s m args below meth c Q ls X hl hw hfin => ?_)
  have hl : lv_has ls 6 [(0, .ref (ad 5)), (1, .int a1), (2, .long a2)] := hl
  have hx := X.1
  have hb := X.2.1
  have L44 : ∀ (n : Nat) (x1 : Int32) (x2 : Int64) (x5 : Int32) (S : vS) (res : vS), f_X4_feed_L44 n x1 x2 x5 S = some res → (K : ∀  (S2 : vS), some S2 = some res → ∀ (H : Heap) (locs : List Loc) (ls : Array Slot), WD D cI cO ad s S2 H locs → lv_has ls 6 [(0, .ref (ad 5))] → W p l e ({ frames := 1, cells := 0, slots := 0, locals := 22 }) s m args below meth c H locs 0 0 Q (F0 m 87 ls [])) → ∀ (H : Heap) (locs : List Loc) (ls : Array Slot), WD D cI cO ad s S H locs → lv_has ls 6 [(0, .ref (ad 5)), (1, .int x1), (2, .long x2), (5, .int x5)] → W p l e ({ frames := 1, cells := 0, slots := 0, locals := 22 }) s m args below meth c H locs 0 0 Q (F0 m 44 ls []) := by
    intro n
    induction n with
    | zero => intro x1 x2 x5 S res hf; cases hf
    | succ n ih =>
      intro x1 x2 x5 S res hf K H locs ls hw hl
      unfold f_X4_feed_L44 at hf
      refine lv_iload hx hb dX4_feed_44 (lv_at hl 3 rfl) ?_
      refine lv_iload_n hx hb dX4_feed_46 rfl (lv_at hl 1 rfl) ?_
      refine lv_icmp_ge (tgt := 87) hx hb dX4_feed_47 (by decide) (fun c5 => ?_) (fun c5 => ?_)
      · replace hf := if_t c5 hf
        exact K S hf _ _ _ hw (lv_sub hl [0] rfl)
      · replace hf := if_f c5 hf
        refine lv_aload_n hx hb dX4_feed_50 rfl (lv_at hl 0 rfl) ?_
        refine x_get X hw 5 (Nat.le_of_ble_eq_true rfl) ce5 rfl i_X4 1 (by decide) q591 ⟨rfl, rfl, rfl⟩ rfl dX4_feed_51 ?_
        refine lv_aload_n hx hb dX4_feed_54 rfl (lv_at hl 0 rfl) ?_
        refine x_get X hw 5 (Nat.le_of_ble_eq_true rfl) ce5 rfl i_X4 13 (by decide) q603 ⟨rfl, rfl, rfl⟩ rfl dX4_feed_55 ?_
        refine lv_lload_n hx hb dX4_feed_58 rfl (lv_at hl 2 rfl) ?_
        refine lv_bipush (v := 8) hx hb dX4_feed_59 (by decide +kernel) ?_
        refine lv_iload hx hb dX4_feed_61 (lv_at hl 3 rfl) ?_
        refine lv_imul hx hb dX4_feed_63 ?_
        refine lv_lshr (v := (x2 >>> (((8 : Int32) * x5).toInt64 &&& 63))) hx hb dX4_feed_64 rfl ?_
        refine lv_ldc2 (v := 255) hx hb X.2.2.2.1 (X.2.2.2.2 _ (List.mem_cons_of_mem _ q692)) dX4_feed_65 ?_
        refine lv_land hx hb dX4_feed_68 ?_
        refine lv_l2i (v := ((x2 >>> (((8 : Int32) * x5).toInt64 &&& 63)) &&& (255 : Int64)).toInt32) hx hb dX4_feed_69 rfl ?_
        obtain ⟨h6, hf⟩ := if_s hf
        refine x_iast X hw 2 ⟨Nat.le_of_ble_eq_true rfl, Nat.le_of_ble_eq_true rfl⟩ rfl h6 ((S 0 0).toNatClampNeg) rfl dX4_feed_70 (fun S7 eS7 H locs hw => ?_)
        replace hf := lt_e eS7 hf
        refine lv_aload_n hx hb dX4_feed_71 rfl (lv_at hl 0 rfl) ?_
        refine lv_dup hx hb dX4_feed_72 rfl ?_
        refine x_get X hw 5 (Nat.le_of_ble_eq_true rfl) ce5 rfl i_X4 13 (by decide) q603 ⟨rfl, rfl, rfl⟩ rfl dX4_feed_73 ?_
        refine lv_iconst (v := 1) hx hb dX4_feed_76 (by decide) ?_
        refine lv_iadd hx hb dX4_feed_77 ?_
        refine x_put X hw 5 (Nat.le_of_ble_eq_true rfl) ce5 rfl i_X4 tyX4_ok nmX4 13 (by decide) q603 ⟨rfl, rfl, rfl⟩ rfl pfI rfl rfl (Nat.le_of_ble_eq_true rfl) 0 (ws_0 _) dX4_feed_78 (fun S8 eS8 H locs hw => ?_)
        replace hf := lt_e eS8 hf
        refine lv_iinc (v := (x5 + 1)) (lv' := [(5, .int (x5 + 1)), (0, .ref (ad 5)), (1, .int x1), (2, .long x2)]) hx hb dX4_feed_81 hl (k := 3) rfl rfl (by decide) rfl (fun ls hl => ?_)
        refine lv_goto (tgt := 44) hx hb dX4_feed_84 (by decide) ?_
        exact ih x1 x2 (x5 + 1) S8 _ hf K _ _ _ hw (lv_sub hl [1, 2, 3, 0] rfl)
  have J29 : ∀ (x1 : Int32) (x2 : Int64) (x4 : Int32) (S : vS), f_X4_feed_J29 x1 x2 x4 S = some (R9, S9) → ∀ (H : Heap) (locs : List Loc) (ls : Array Slot), WD D cI cO ad s S H locs → lv_has ls 6 [(0, .ref (ad 5)), (1, .int x1), (2, .long x2), (4, .int x4)] → W p l e ({ frames := 1, cells := 0, slots := 0, locals := 22 }) s m args below meth c H locs 0 0 Q (F0 m 29 ls []) := by
    intro x1 x2 x4 S hf H locs ls hw hl
    unfold f_X4_feed_J29 at hf
    refine lv_iload hx hb dX4_feed_29 (lv_at hl 3 rfl) ?_
    refine lv_if_eq (tgt := 41) hx hb dX4_feed_31 (by decide) (fun c4 => ?_) (fun c4 => ?_)
    · replace hf := if_t c4 hf
      refine lv_iconst (v := 0) hx hb dX4_feed_41 (by decide) ?_
      refine lv_istore (lv' := [(5, .int (0 : Int32)), (0, .ref (ad 5)), (1, .int x1), (2, .long x2), (4, .int x4)]) hx hb dX4_feed_42 hl (by decide) rfl (fun ls hl => ?_)
      obtain ⟨S9, h10, hf⟩ := b1_s hf
      refine L44 FU x1 x2 (0 : Int32) S _ h10 (fun S9' eK H locs ls hw hl => ?_) _ _ _ hw (lv_sub hl [1, 2, 3, 0] rfl)
      cases eK
      refine lv_aload_n hx hb dX4_feed_87 rfl (lv_at hl 0 rfl) ?_
      refine x_get X hw 5 (Nat.le_of_ble_eq_true rfl) ce5 rfl i_X4 13 (by decide) q603 ⟨rfl, rfl, rfl⟩ rfl dX4_feed_88 ?_
      exact hfin _ _ _ _ _ _ hw (s2a hf) (s2b hf) (narI _) dX4_feed_91
    · replace hf := if_f c4 hf
      refine lv_aload_n hx hb dX4_feed_34 rfl (lv_at hl 0 rfl) ?_
      refine lv_iload hx hb dX4_feed_35 (lv_at hl 3 rfl) ?_
      obtain ⟨r13, S12, h11, hf⟩ := b2_s hf
      refine kVi X hw (c_X4_no l D cI cO ad x4 S r13 S12 h11) (Nat.le_of_ble_eq_true rfl) ce5 rfl ⟨rfl, rfl⟩ q688 q690 q34 q64 q691 hd_X4_no ⟨Nat.le_of_ble_eq_true rfl, Nat.le_of_ble_eq_true rfl⟩ rfl hl.1 rfl (Nat.le_of_ble_eq_true rfl) dX4_feed_37 (fun H locs hw => ?_)
      exact hfin _ _ _ _ _ _ hw (s2a hf) (s2b hf) (narI _) dX4_feed_40
  unfold f_X4_feed at hf
  refine lv_iload_n hx hb dX4_feed_0 rfl (lv_at hl 1 rfl) ?_
  refine lv_iconst (v := 1) hx hb dX4_feed_1 (by decide) ?_
  refine lv_bipush (v := 8) hx hb dX4_feed_2 (by decide +kernel) ?_
  obtain ⟨r2, h1, hf⟩ := b1_s hf
  refine kSi X hw (c_X4_out l D cI cO ad a1 (1 : Int32) (8 : Int32) S r2 h1) ⟨rfl, rfl⟩ q685 q686 q64 q687 hd_X4_out ⟨Nat.le_of_ble_eq_true rfl, Nat.le_of_ble_eq_true rfl⟩ rfl hl.1 rfl (Nat.le_of_ble_eq_true rfl) dX4_feed_4 (fun H locs hw => ?_)
  refine lv_istore (lv' := [(4, .int r2), (0, .ref (ad 5)), (1, .int a1), (2, .long a2)]) hx hb dX4_feed_7 hl (by decide) rfl (fun ls hl => ?_)
  refine lv_iload hx hb dX4_feed_9 (lv_at hl 0 rfl) ?_
  refine lv_if_ne (tgt := 29) hx hb dX4_feed_11 (by decide) (fun c3 => ?_) (fun c3 => ?_)
  · replace hf := if_f c3 hf
    exact J29 a1 a2 r2 S hf _ _ _ hw (lv_sub hl [1, 2, 3, 0] rfl)
  · replace hf := if_t c3 hf
    refine lv_aload_n hx hb dX4_feed_14 rfl (lv_at hl 1 rfl) ?_
    refine x_get X hw 5 (Nat.le_of_ble_eq_true rfl) ce5 rfl i_X4 13 (by decide) q603 ⟨rfl, rfl, rfl⟩ rfl dX4_feed_15 ?_
    refine lv_iload_n hx hb dX4_feed_18 rfl (lv_at hl 2 rfl) ?_
    refine lv_iadd hx hb dX4_feed_19 ?_
    refine lv_bipush (v := 16) hx hb dX4_feed_20 (by decide +kernel) ?_
    refine lv_icmp_le (tgt := 29) hx hb dX4_feed_22 (by decide) (fun c14 => ?_) (fun c14 => ?_)
    · replace hf := if_t c14 hf
      exact J29 a1 a2 r2 S hf _ _ _ hw (lv_sub hl [1, 2, 3, 0] rfl)
    · replace hf := if_f c14 hf
      refine lv_bipush (v := -6) hx hb dX4_feed_25 (by decide +kernel) ?_
      refine lv_istore (lv' := [(4, .int (-6 : Int32)), (0, .ref (ad 5)), (1, .int a1), (2, .long a2)]) hx hb dX4_feed_27 hl (by decide) rfl (fun ls hl => ?_)
      exact J29 a1 a2 (-6 : Int32) S hf _ _ _ hw (lv_sub hl [1, 2, 3, 0] rfl)
/-- NineLandsModel.sign()I -/
theorem dX4_sign_0 : decode cX4_sign 0 = .ok (.aload_n 0, 1) := by decide +kernel
theorem dX4_sign_1 : decode cX4_sign 1 = .ok (.getfield 91, 3) := by decide +kernel
theorem dX4_sign_4 : decode cX4_sign 4 = .ok (.aload_n 0, 1) := by decide +kernel
theorem dX4_sign_5 : decode cX4_sign 5 = .ok (.getfield 82, 3) := by decide +kernel
theorem dX4_sign_8 : decode cX4_sign 8 = .ok (.if_icmp .ge 15, 3) := by decide +kernel
theorem dX4_sign_11 : decode cX4_sign 11 = .ok (.aload_n 0, 1) := by decide +kernel
theorem dX4_sign_12 : decode cX4_sign 12 = .ok (.getfield 13, 3) := by decide +kernel
theorem dX4_sign_15 : decode cX4_sign 15 = .ok (.aload_n 0, 1) := by decide +kernel
theorem dX4_sign_16 : decode cX4_sign 16 = .ok (.getfield 91, 3) := by decide +kernel
theorem dX4_sign_19 : decode cX4_sign 19 = .ok (.iaload, 1) := by decide +kernel
theorem dX4_sign_20 : decode cX4_sign 20 = .ok (.goto 4, 3) := by decide +kernel
theorem dX4_sign_23 : decode cX4_sign 23 = .ok (.iconst (-1), 1) := by decide +kernel
theorem dX4_sign_24 : decode cX4_sign 24 = .ok (.ireturn, 1) := by decide +kernel
theorem hd_X4_sign : yX4_sign.cls ≠ "java/lang/invoke/MethodHandle" ∧ yX4_sign.cls ≠ "java/lang/invoke/VarHandle" ∧ (parseMethodDescriptor yX4_sign.desc).map (fun d => d.parameters.length) = some 0 := by decide +kernel
def f_X4_sign  (S : vS) : Option Int32 := if (S 0 0) ≤ (S 0 1) then some (-1 : Int32) else if inb (S 0 1) 16 = true then some (S 2 ((S 0 1).toNatClampNeg)) else none
set_option maxHeartbeats 4000000 in
set_option maxRecDepth 20000 in
theorem c_X4_sign (l : Launch) (D : va_G) (cI cO : ClassId) (ad : Nat → Nat)  (S : vS) (R9 : Int32) (hf : f_X4_sign  S = some R9) : CI l yX4_sign cX4_sign 1 .int ({ frames := 0, cells := 0, slots := 0, locals := 0 }) [.ref (ad 5)] D cI cO ad S R9 S := by
  refine CI.of (by decide +kernel) (Nat.le_of_ble_eq_true rfl) (fun p e s m args below meth c Q ls X hl hw hfin => ?_)
  have hl : lv_has ls 1 [(0, .ref (ad 5))] := hl
  have hx := X.1
  have hb := X.2.1
  unfold f_X4_sign at hf
  refine lv_aload_n hx hb dX4_sign_0 rfl (lv_at hl 0 rfl) ?_
  refine x_get X hw 5 (Nat.le_of_ble_eq_true rfl) ce5 rfl i_X4 14 (by decide) q604 ⟨rfl, rfl, rfl⟩ rfl dX4_sign_1 ?_
  refine lv_aload_n hx hb dX4_sign_4 rfl (lv_at hl 0 rfl) ?_
  refine x_get X hw 5 (Nat.le_of_ble_eq_true rfl) ce5 rfl i_X4 13 (by decide) q603 ⟨rfl, rfl, rfl⟩ rfl dX4_sign_5 ?_
  refine lv_icmp_ge (tgt := 23) hx hb dX4_sign_8 (by decide) (fun c1 => ?_) (fun c1 => ?_)
  · replace hf := if_t c1 hf
    refine lv_iconst (v := -1) hx hb dX4_sign_23 (by decide) ?_
    exact hfin _ _ _ _ _ _ hw (Option.some.inj hf) rfl (narI _) dX4_sign_24
  · replace hf := if_f c1 hf
    refine lv_aload_n hx hb dX4_sign_11 rfl (lv_at hl 0 rfl) ?_
    refine x_get X hw 5 (Nat.le_of_ble_eq_true rfl) ce5 rfl i_X4 1 (by decide) q591 ⟨rfl, rfl, rfl⟩ rfl dX4_sign_12 ?_
    refine lv_aload_n hx hb dX4_sign_15 rfl (lv_at hl 0 rfl) ?_
    refine x_get X hw 5 (Nat.le_of_ble_eq_true rfl) ce5 rfl i_X4 14 (by decide) q604 ⟨rfl, rfl, rfl⟩ rfl dX4_sign_16 ?_
    obtain ⟨h2, hf⟩ := if_s hf
    refine x_iald X hw 2 ⟨Nat.le_of_ble_eq_true rfl, Nat.le_of_ble_eq_true rfl⟩ rfl h2 ((S 0 1).toNatClampNeg) rfl dX4_sign_19 ?_
    refine lv_goto (tgt := 24) hx hb dX4_sign_20 (by decide) ?_
    exact hfin _ _ _ _ _ _ hw (Option.some.inj hf) rfl (narI _) dX4_sign_24
/-- NineLandsModel.takes(I)Z -/
theorem dX4_takes_0 : decode cX4_takes 0 = .ok (.aload_n 0, 1) := by decide +kernel
theorem dX4_takes_1 : decode cX4_takes 1 = .ok (.invokevirtual 94, 3) := by decide +kernel
theorem dX4_takes_4 : decode cX4_takes 4 = .ok (.iload_n 1, 1) := by decide +kernel
theorem dX4_takes_5 : decode cX4_takes 5 = .ok (.if_icmp .eq 5, 3) := by decide +kernel
theorem dX4_takes_8 : decode cX4_takes 8 = .ok (.iconst 0, 1) := by decide +kernel
theorem dX4_takes_9 : decode cX4_takes 9 = .ok (.ireturn, 1) := by decide +kernel
theorem dX4_takes_10 : decode cX4_takes 10 = .ok (.aload_n 0, 1) := by decide +kernel
theorem dX4_takes_11 : decode cX4_takes 11 = .ok (.dup, 1) := by decide +kernel
theorem dX4_takes_12 : decode cX4_takes 12 = .ok (.getfield 91, 3) := by decide +kernel
theorem dX4_takes_15 : decode cX4_takes 15 = .ok (.iconst 1, 1) := by decide +kernel
theorem dX4_takes_16 : decode cX4_takes 16 = .ok (.iadd, 1) := by decide +kernel
theorem dX4_takes_17 : decode cX4_takes 17 = .ok (.putfield 91, 3) := by decide +kernel
theorem dX4_takes_20 : decode cX4_takes 20 = .ok (.iconst 1, 1) := by decide +kernel
theorem dX4_takes_21 : decode cX4_takes 21 = .ok (.ireturn, 1) := by decide +kernel
theorem hd_X4_takes : yX4_takes.cls ≠ "java/lang/invoke/MethodHandle" ∧ yX4_takes.cls ≠ "java/lang/invoke/VarHandle" ∧ (parseMethodDescriptor yX4_takes.desc).map (fun d => d.parameters.length) = some 1 := by decide +kernel
def f_X4_takes (a1 : Int32) (S : vS) : Option (Int32 × vS) := b1 (f_X4_sign  S) fun r2 => if r2 = a1 then lt (upk S 0 (upd (S 0) 1 ((S 0 1) + (1 : Int32)))) fun S4 => some ((1 : Int32), S4) else some ((0 : Int32), S)
set_option maxHeartbeats 4000000 in
set_option maxRecDepth 20000 in
theorem c_X4_takes (l : Launch) (D : va_G) (cI cO : ClassId) (ad : Nat → Nat) (a1 : Int32) (S : vS) (R9 : Int32) (S9 : vS) (hf : f_X4_takes a1 S = some (R9, S9)) : CI l yX4_takes cX4_takes 2 .boolean ({ frames := 1, cells := 0, slots := 0, locals := 20 }) [.ref (ad 5), .int a1] D cI cO ad S R9 S9 := by
  refine CI.of (by decide +kernel) (Nat.le_of_ble_eq_true rfl) (fun p e s m args below meth c Q ls X hl hw hfin => ?_)
  have hl : lv_has ls 2 [(0, .ref (ad 5)), (1, .int a1)] := hl
  have hx := X.1
  have hb := X.2.1
  unfold f_X4_takes at hf
  refine lv_aload_n hx hb dX4_takes_0 rfl (lv_at hl 0 rfl) ?_
  obtain ⟨r2, h1, hf⟩ := b1_s hf
  refine kVi X hw (c_X4_sign l D cI cO ad  S r2 h1) (Nat.le_of_ble_eq_true rfl) ce5 rfl ⟨rfl, rfl⟩ q701 q703 q36 q64 q704 hd_X4_sign ⟨Nat.le_of_ble_eq_true rfl, Nat.le_of_ble_eq_true rfl⟩ rfl hl.1 rfl (Nat.le_of_ble_eq_true rfl) dX4_takes_1 (fun H locs hw => ?_)
  refine lv_iload_n hx hb dX4_takes_4 rfl (lv_at hl 1 rfl) ?_
  refine lv_icmp_eq (tgt := 10) hx hb dX4_takes_5 (by decide) (fun c3 => ?_) (fun c3 => ?_)
  · replace hf := if_t c3 hf
    refine lv_aload_n hx hb dX4_takes_10 rfl (lv_at hl 0 rfl) ?_
    refine lv_dup hx hb dX4_takes_11 rfl ?_
    refine x_get X hw 5 (Nat.le_of_ble_eq_true rfl) ce5 rfl i_X4 14 (by decide) q604 ⟨rfl, rfl, rfl⟩ rfl dX4_takes_12 ?_
    refine lv_iconst (v := 1) hx hb dX4_takes_15 (by decide) ?_
    refine lv_iadd hx hb dX4_takes_16 ?_
    refine x_put X hw 5 (Nat.le_of_ble_eq_true rfl) ce5 rfl i_X4 tyX4_ok nmX4 14 (by decide) q604 ⟨rfl, rfl, rfl⟩ rfl pfI rfl rfl (Nat.le_of_ble_eq_true rfl) 1 (ws_1 _) dX4_takes_17 (fun S4 eS4 H locs hw => ?_)
    replace hf := lt_e eS4 hf
    refine lv_iconst (v := 1) hx hb dX4_takes_20 (by decide) ?_
    exact hfin _ _ _ _ _ _ hw (s2a hf) (s2b hf) rfl dX4_takes_21
  · replace hf := if_f c3 hf
    refine lv_iconst (v := 0) hx hb dX4_takes_8 (by decide) ?_
    exact hfin _ _ _ _ _ _ hw (s2a hf) (s2b hf) rfl dX4_takes_9
/-- NineLandsModel.number()I -/
theorem dX4_number_0 : decode cX4_number 0 = .ok (.aload_n 0, 1) := by decide +kernel
theorem dX4_number_1 : decode cX4_number 1 = .ok (.invokevirtual 94, 3) := by decide +kernel
theorem dX4_number_4 : decode cX4_number 4 = .ok (.bipush 48, 2) := by decide +kernel
theorem dX4_number_6 : decode cX4_number 6 = .ok (.bipush 57, 2) := by decide +kernel
theorem dX4_number_8 : decode cX4_number 8 = .ok (.invokestatic 98, 3) := by decide +kernel
theorem dX4_number_11 : decode cX4_number 11 = .ok (.ifCond .ne 5, 3) := by decide +kernel
theorem dX4_number_14 : decode cX4_number 14 = .ok (.iconst (-1), 1) := by decide +kernel
theorem dX4_number_15 : decode cX4_number 15 = .ok (.ireturn, 1) := by decide +kernel
theorem dX4_number_16 : decode cX4_number 16 = .ok (.iconst 0, 1) := by decide +kernel
theorem dX4_number_17 : decode cX4_number 17 = .ok (.istore_n 1, 1) := by decide +kernel
theorem dX4_number_18 : decode cX4_number 18 = .ok (.iconst 0, 1) := by decide +kernel
theorem dX4_number_19 : decode cX4_number 19 = .ok (.istore_n 2, 1) := by decide +kernel
theorem dX4_number_20 : decode cX4_number 20 = .ok (.iload_n 2, 1) := by decide +kernel
theorem dX4_number_21 : decode cX4_number 21 = .ok (.iconst 3, 1) := by decide +kernel
theorem dX4_number_22 : decode cX4_number 22 = .ok (.if_icmp .ge 46, 3) := by decide +kernel
theorem dX4_number_25 : decode cX4_number 25 = .ok (.aload_n 0, 1) := by decide +kernel
theorem dX4_number_26 : decode cX4_number 26 = .ok (.invokevirtual 94, 3) := by decide +kernel
theorem dX4_number_29 : decode cX4_number 29 = .ok (.bipush 48, 2) := by decide +kernel
theorem dX4_number_31 : decode cX4_number 31 = .ok (.bipush 57, 2) := by decide +kernel
theorem dX4_number_33 : decode cX4_number 33 = .ok (.invokestatic 98, 3) := by decide +kernel
theorem dX4_number_36 : decode cX4_number 36 = .ok (.ifCond .eq 32, 3) := by decide +kernel
theorem dX4_number_39 : decode cX4_number 39 = .ok (.bipush 10, 2) := by decide +kernel
theorem dX4_number_41 : decode cX4_number 41 = .ok (.iload_n 1, 1) := by decide +kernel
theorem dX4_number_42 : decode cX4_number 42 = .ok (.imul, 1) := by decide +kernel
theorem dX4_number_43 : decode cX4_number 43 = .ok (.aload_n 0, 1) := by decide +kernel
theorem dX4_number_44 : decode cX4_number 44 = .ok (.invokevirtual 94, 3) := by decide +kernel
theorem dX4_number_47 : decode cX4_number 47 = .ok (.iadd, 1) := by decide +kernel
theorem dX4_number_48 : decode cX4_number 48 = .ok (.bipush 48, 2) := by decide +kernel
theorem dX4_number_50 : decode cX4_number 50 = .ok (.isub, 1) := by decide +kernel
theorem dX4_number_51 : decode cX4_number 51 = .ok (.istore_n 1, 1) := by decide +kernel
theorem dX4_number_52 : decode cX4_number 52 = .ok (.aload_n 0, 1) := by decide +kernel
theorem dX4_number_53 : decode cX4_number 53 = .ok (.dup, 1) := by decide +kernel
theorem dX4_number_54 : decode cX4_number 54 = .ok (.getfield 91, 3) := by decide +kernel
theorem dX4_number_57 : decode cX4_number 57 = .ok (.iconst 1, 1) := by decide +kernel
theorem dX4_number_58 : decode cX4_number 58 = .ok (.iadd, 1) := by decide +kernel
theorem dX4_number_59 : decode cX4_number 59 = .ok (.putfield 91, 3) := by decide +kernel
theorem dX4_number_62 : decode cX4_number 62 = .ok (.iinc 2 1, 3) := by decide +kernel
theorem dX4_number_65 : decode cX4_number 65 = .ok (.goto (-45), 3) := by decide +kernel
theorem dX4_number_68 : decode cX4_number 68 = .ok (.iload_n 1, 1) := by decide +kernel
theorem dX4_number_69 : decode cX4_number 69 = .ok (.ireturn, 1) := by decide +kernel
theorem hd_X4_number : yX4_number.cls ≠ "java/lang/invoke/MethodHandle" ∧ yX4_number.cls ≠ "java/lang/invoke/VarHandle" ∧ (parseMethodDescriptor yX4_number.desc).map (fun d => d.parameters.length) = some 0 := by decide +kernel
def f_X4_number_L20 : Nat → Int32 → Int32 → vS → Option (Int32 × vS)
  | 0, _, _, _ => none
  | n + 1, x1, x2, S => if (3 : Int32) ≤ x2 then some (x1, S) else b1 (f_X4_sign  S) fun r8 => b1 (f_X4_isIn r8 (48 : Int32) (57 : Int32) S) fun r10 => if r10 = 0 then some (x1, S) else b1 (f_X4_sign  S) fun r13 => lt (((((10 : Int32) * x1) + r13) - (48 : Int32))) fun v14 => lt (upk S 0 (upd (S 0) 1 ((S 0 1) + (1 : Int32)))) fun S15 => (f_X4_number_L20 n) v14 (x2 + 1) S15
def f_X4_number  (S : vS) : Option (Int32 × vS) := b1 (f_X4_sign  S) fun r2 => b1 (f_X4_isIn r2 (48 : Int32) (57 : Int32) S) fun r4 => if r4 = 0 then some ((-1 : Int32), S) else b2 (f_X4_number_L20 FU (0 : Int32) (0 : Int32) S) fun y16 S17 => some (y16, S17)
set_option maxHeartbeats 4000000 in
set_option maxRecDepth 20000 in
theorem c_X4_number (l : Launch) (D : va_G) (cI cO : ClassId) (ad : Nat → Nat)  (S : vS) (R9 : Int32) (S9 : vS) (hf : f_X4_number  S = some (R9, S9)) : CI l yX4_number cX4_number 3 .int ({ frames := 1, cells := 0, slots := 0, locals := 22 }) [.ref (ad 5)] D cI cO ad S R9 S9 := by
  refine CI.of (by decide +kernel) (Nat.le_of_ble_eq_true rfl) (fun p e s m args below meth c Q ls X hl hw hfin => ?_)
  have hl : lv_has ls 3 [(0, .ref (ad 5))] := hl
  have hx := X.1
  have hb := X.2.1
  have L20 : ∀ (n : Nat) (x1 : Int32) (x2 : Int32) (S : vS) (res : (Int32 × vS)), f_X4_number_L20 n x1 x2 S = some res → (K : ∀ (y1 : Int32) (S2 : vS), some (y1, S2) = some res → ∀ (H : Heap) (locs : List Loc) (ls : Array Slot), WD D cI cO ad s S2 H locs → lv_has ls 3 [(1, .int y1)] → W p l e ({ frames := 1, cells := 0, slots := 0, locals := 22 }) s m args below meth c H locs 0 0 Q (F0 m 68 ls [])) → ∀ (H : Heap) (locs : List Loc) (ls : Array Slot), WD D cI cO ad s S H locs → lv_has ls 3 [(0, .ref (ad 5)), (1, .int x1), (2, .int x2)] → W p l e ({ frames := 1, cells := 0, slots := 0, locals := 22 }) s m args below meth c H locs 0 0 Q (F0 m 20 ls []) := by
    intro n
    induction n with
    | zero => intro x1 x2 S res hf; cases hf
    | succ n ih =>
      intro x1 x2 S res hf K H locs ls hw hl
      unfold f_X4_number_L20 at hf
      refine lv_iload_n hx hb dX4_number_20 rfl (lv_at hl 2 rfl) ?_
      refine lv_iconst (v := 3) hx hb dX4_number_21 (by decide) ?_
      refine lv_icmp_ge (tgt := 68) hx hb dX4_number_22 (by decide) (fun c6 => ?_) (fun c6 => ?_)
      · replace hf := if_t c6 hf
        exact K x1 S hf _ _ _ hw (lv_sub hl [1] rfl)
      · replace hf := if_f c6 hf
        refine lv_aload_n hx hb dX4_number_25 rfl (lv_at hl 0 rfl) ?_
        obtain ⟨r8, h7, hf⟩ := b1_s hf
        refine kVi X hw (c_X4_sign l D cI cO ad  S r8 h7) (Nat.le_of_ble_eq_true rfl) ce5 rfl ⟨rfl, rfl⟩ q701 q703 q36 q64 q704 hd_X4_sign ⟨Nat.le_of_ble_eq_true rfl, Nat.le_of_ble_eq_true rfl⟩ rfl hl.1 rfl (Nat.le_of_ble_eq_true rfl) dX4_number_26 (fun H locs hw => ?_)
        refine lv_bipush (v := 48) hx hb dX4_number_29 (by decide +kernel) ?_
        refine lv_bipush (v := 57) hx hb dX4_number_31 (by decide +kernel) ?_
        obtain ⟨r10, h9, hf⟩ := b1_s hf
        refine kSi X hw (c_X4_isIn l D cI cO ad r8 (48 : Int32) (57 : Int32) S r10 h9) ⟨rfl, rfl⟩ q712 q713 q64 q714 hd_X4_isIn ⟨Nat.le_of_ble_eq_true rfl, Nat.le_of_ble_eq_true rfl⟩ rfl hl.1 rfl (Nat.le_of_ble_eq_true rfl) dX4_number_33 (fun H locs hw => ?_)
        refine lv_if_eq (tgt := 68) hx hb dX4_number_36 (by decide) (fun c11 => ?_) (fun c11 => ?_)
        · replace hf := if_t c11 hf
          exact K x1 S hf _ _ _ hw (lv_sub hl [1] rfl)
        · replace hf := if_f c11 hf
          refine lv_bipush (v := 10) hx hb dX4_number_39 (by decide +kernel) ?_
          refine lv_iload_n hx hb dX4_number_41 rfl (lv_at hl 1 rfl) ?_
          refine lv_imul hx hb dX4_number_42 ?_
          refine lv_aload_n hx hb dX4_number_43 rfl (lv_at hl 0 rfl) ?_
          obtain ⟨r13, h12, hf⟩ := b1_s hf
          refine kVi X hw (c_X4_sign l D cI cO ad  S r13 h12) (Nat.le_of_ble_eq_true rfl) ce5 rfl ⟨rfl, rfl⟩ q701 q703 q36 q64 q704 hd_X4_sign ⟨Nat.le_of_ble_eq_true rfl, Nat.le_of_ble_eq_true rfl⟩ rfl hl.1 rfl (Nat.le_of_ble_eq_true rfl) dX4_number_44 (fun H locs hw => ?_)
          refine lv_iadd hx hb dX4_number_47 ?_
          refine lv_bipush (v := 48) hx hb dX4_number_48 (by decide +kernel) ?_
          refine lv_isub hx hb dX4_number_50 ?_
          refine lv_topi (fun v14 ev14 => ?_)
          replace hf := lt_e ev14 hf
          refine lv_istore_n (lv' := [(1, .int v14), (0, .ref (ad 5)), (2, .int x2)]) hx hb dX4_number_51 rfl hl (by decide) rfl (fun ls hl => ?_)
          refine lv_aload_n hx hb dX4_number_52 rfl (lv_at hl 1 rfl) ?_
          refine lv_dup hx hb dX4_number_53 rfl ?_
          refine x_get X hw 5 (Nat.le_of_ble_eq_true rfl) ce5 rfl i_X4 14 (by decide) q604 ⟨rfl, rfl, rfl⟩ rfl dX4_number_54 ?_
          refine lv_iconst (v := 1) hx hb dX4_number_57 (by decide) ?_
          refine lv_iadd hx hb dX4_number_58 ?_
          refine x_put X hw 5 (Nat.le_of_ble_eq_true rfl) ce5 rfl i_X4 tyX4_ok nmX4 14 (by decide) q604 ⟨rfl, rfl, rfl⟩ rfl pfI rfl rfl (Nat.le_of_ble_eq_true rfl) 1 (ws_1 _) dX4_number_59 (fun S15 eS15 H locs hw => ?_)
          replace hf := lt_e eS15 hf
          refine lv_iinc (v := (x2 + 1)) (lv' := [(2, .int (x2 + 1)), (1, .int v14), (0, .ref (ad 5))]) hx hb dX4_number_62 hl (k := 2) rfl rfl (by decide) rfl (fun ls hl => ?_)
          refine lv_goto (tgt := 20) hx hb dX4_number_65 (by decide) ?_
          exact ih v14 (x2 + 1) S15 _ hf K _ _ _ hw (lv_sub hl [2, 1, 0] rfl)
  unfold f_X4_number at hf
  refine lv_aload_n hx hb dX4_number_0 rfl (lv_at hl 0 rfl) ?_
  obtain ⟨r2, h1, hf⟩ := b1_s hf
  refine kVi X hw (c_X4_sign l D cI cO ad  S r2 h1) (Nat.le_of_ble_eq_true rfl) ce5 rfl ⟨rfl, rfl⟩ q701 q703 q36 q64 q704 hd_X4_sign ⟨Nat.le_of_ble_eq_true rfl, Nat.le_of_ble_eq_true rfl⟩ rfl hl.1 rfl (Nat.le_of_ble_eq_true rfl) dX4_number_1 (fun H locs hw => ?_)
  refine lv_bipush (v := 48) hx hb dX4_number_4 (by decide +kernel) ?_
  refine lv_bipush (v := 57) hx hb dX4_number_6 (by decide +kernel) ?_
  obtain ⟨r4, h3, hf⟩ := b1_s hf
  refine kSi X hw (c_X4_isIn l D cI cO ad r2 (48 : Int32) (57 : Int32) S r4 h3) ⟨rfl, rfl⟩ q712 q713 q64 q714 hd_X4_isIn ⟨Nat.le_of_ble_eq_true rfl, Nat.le_of_ble_eq_true rfl⟩ rfl hl.1 rfl (Nat.le_of_ble_eq_true rfl) dX4_number_8 (fun H locs hw => ?_)
  refine lv_if_ne (tgt := 16) hx hb dX4_number_11 (by decide) (fun c5 => ?_) (fun c5 => ?_)
  · replace hf := if_f c5 hf
    refine lv_iconst (v := 0) hx hb dX4_number_16 (by decide) ?_
    refine lv_istore_n (lv' := [(1, .int (0 : Int32)), (0, .ref (ad 5))]) hx hb dX4_number_17 rfl hl (by decide) rfl (fun ls hl => ?_)
    refine lv_iconst (v := 0) hx hb dX4_number_18 (by decide) ?_
    refine lv_istore_n (lv' := [(2, .int (0 : Int32)), (1, .int (0 : Int32)), (0, .ref (ad 5))]) hx hb dX4_number_19 rfl hl (by decide) rfl (fun ls hl => ?_)
    obtain ⟨y16, S17, h18, hf⟩ := b2_s hf
    refine L20 FU (0 : Int32) (0 : Int32) S _ h18 (fun y16' S17' eK H locs ls hw hl => ?_) _ _ _ hw (lv_sub hl [2, 1, 0] rfl)
    cases eK
    refine lv_iload_n hx hb dX4_number_68 rfl (lv_at hl 0 rfl) ?_
    exact hfin _ _ _ _ _ _ hw (s2a hf) (s2b hf) (narI _) dX4_number_69
  · replace hf := if_t c5 hf
    refine lv_iconst (v := -1) hx hb dX4_number_14 (by decide) ?_
    exact hfin _ _ _ _ _ _ hw (s2a hf) (s2b hf) (narI _) dX4_number_15
/-- NineLandsModel.reads()Z -/
theorem dX4_reads_0 : decode cX4_reads 0 = .ok (.aload_n 0, 1) := by decide +kernel
theorem dX4_reads_1 : decode cX4_reads 1 = .ok (.iconst 0, 1) := by decide +kernel
theorem dX4_reads_2 : decode cX4_reads 2 = .ok (.putfield 91, 3) := by decide +kernel
theorem dX4_reads_5 : decode cX4_reads 5 = .ok (.aload_n 0, 1) := by decide +kernel
theorem dX4_reads_6 : decode cX4_reads 6 = .ok (.getfield 102, 3) := by decide +kernel
theorem dX4_reads_9 : decode cX4_reads 9 = .ok (.istore_n 1, 1) := by decide +kernel
theorem dX4_reads_10 : decode cX4_reads 10 = .ok (.aload_n 0, 1) := by decide +kernel
theorem dX4_reads_11 : decode cX4_reads 11 = .ok (.getfield 16, 3) := by decide +kernel
theorem dX4_reads_14 : decode cX4_reads 14 = .ok (.iload_n 1, 1) := by decide +kernel
theorem dX4_reads_15 : decode cX4_reads 15 = .ok (.aload_n 0, 1) := by decide +kernel
theorem dX4_reads_16 : decode cX4_reads 16 = .ok (.invokevirtual 94, 3) := by decide +kernel
theorem dX4_reads_19 : decode cX4_reads 19 = .ok (.bipush 48, 2) := by decide +kernel
theorem dX4_reads_21 : decode cX4_reads 21 = .ok (.isub, 1) := by decide +kernel
theorem dX4_reads_22 : decode cX4_reads 22 = .ok (.iastore, 1) := by decide +kernel
theorem dX4_reads_23 : decode cX4_reads 23 = .ok (.aload_n 0, 1) := by decide +kernel
theorem dX4_reads_24 : decode cX4_reads 24 = .ok (.getfield 16, 3) := by decide +kernel
theorem dX4_reads_27 : decode cX4_reads 27 = .ok (.iload_n 1, 1) := by decide +kernel
theorem dX4_reads_28 : decode cX4_reads 28 = .ok (.iaload, 1) := by decide +kernel
theorem dX4_reads_29 : decode cX4_reads 29 = .ok (.invokestatic 105, 3) := by decide +kernel
theorem dX4_reads_32 : decode cX4_reads 32 = .ok (.ifCond .ne 5, 3) := by decide +kernel
theorem dX4_reads_35 : decode cX4_reads 35 = .ok (.iconst 0, 1) := by decide +kernel
theorem dX4_reads_36 : decode cX4_reads 36 = .ok (.ireturn, 1) := by decide +kernel
theorem dX4_reads_37 : decode cX4_reads 37 = .ok (.aload_n 0, 1) := by decide +kernel
theorem dX4_reads_38 : decode cX4_reads 38 = .ok (.dup, 1) := by decide +kernel
theorem dX4_reads_39 : decode cX4_reads 39 = .ok (.getfield 91, 3) := by decide +kernel
theorem dX4_reads_42 : decode cX4_reads 42 = .ok (.iconst 1, 1) := by decide +kernel
theorem dX4_reads_43 : decode cX4_reads 43 = .ok (.iadd, 1) := by decide +kernel
theorem dX4_reads_44 : decode cX4_reads 44 = .ok (.putfield 91, 3) := by decide +kernel
theorem dX4_reads_47 : decode cX4_reads 47 = .ok (.aload_n 0, 1) := by decide +kernel
theorem dX4_reads_48 : decode cX4_reads 48 = .ok (.invokevirtual 94, 3) := by decide +kernel
theorem dX4_reads_51 : decode cX4_reads 51 = .ok (.istore_n 2, 1) := by decide +kernel
theorem dX4_reads_52 : decode cX4_reads 52 = .ok (.aload_n 0, 1) := by decide +kernel
theorem dX4_reads_53 : decode cX4_reads 53 = .ok (.getfield 19, 3) := by decide +kernel
theorem dX4_reads_56 : decode cX4_reads 56 = .ok (.iload_n 1, 1) := by decide +kernel
theorem dX4_reads_57 : decode cX4_reads 57 = .ok (.iload_n 2, 1) := by decide +kernel
theorem dX4_reads_58 : decode cX4_reads 58 = .ok (.bipush 115, 2) := by decide +kernel
theorem dX4_reads_60 : decode cX4_reads 60 = .ok (.if_icmp .ne 7, 3) := by decide +kernel
theorem dX4_reads_63 : decode cX4_reads 63 = .ok (.iconst 0, 1) := by decide +kernel
theorem dX4_reads_64 : decode cX4_reads 64 = .ok (.goto 34, 3) := by decide +kernel
theorem dX4_reads_67 : decode cX4_reads 67 = .ok (.iload_n 2, 1) := by decide +kernel
theorem dX4_reads_68 : decode cX4_reads 68 = .ok (.bipush 102, 2) := by decide +kernel
theorem dX4_reads_70 : decode cX4_reads 70 = .ok (.if_icmp .ne 7, 3) := by decide +kernel
theorem dX4_reads_73 : decode cX4_reads 73 = .ok (.iconst 1, 1) := by decide +kernel
theorem dX4_reads_74 : decode cX4_reads 74 = .ok (.goto 24, 3) := by decide +kernel
theorem dX4_reads_77 : decode cX4_reads 77 = .ok (.iload_n 2, 1) := by decide +kernel
theorem dX4_reads_78 : decode cX4_reads 78 = .ok (.bipush 97, 2) := by decide +kernel
theorem dX4_reads_80 : decode cX4_reads 80 = .ok (.if_icmp .ne 7, 3) := by decide +kernel
theorem dX4_reads_83 : decode cX4_reads 83 = .ok (.iconst 2, 1) := by decide +kernel
theorem dX4_reads_84 : decode cX4_reads 84 = .ok (.goto 14, 3) := by decide +kernel
theorem dX4_reads_87 : decode cX4_reads 87 = .ok (.iload_n 2, 1) := by decide +kernel
theorem dX4_reads_88 : decode cX4_reads 88 = .ok (.bipush 98, 2) := by decide +kernel
theorem dX4_reads_90 : decode cX4_reads 90 = .ok (.if_icmp .ne 7, 3) := by decide +kernel
theorem dX4_reads_93 : decode cX4_reads 93 = .ok (.iconst 3, 1) := by decide +kernel
theorem dX4_reads_94 : decode cX4_reads 94 = .ok (.goto 4, 3) := by decide +kernel
theorem dX4_reads_97 : decode cX4_reads 97 = .ok (.iconst (-1), 1) := by decide +kernel
theorem dX4_reads_98 : decode cX4_reads 98 = .ok (.iastore, 1) := by decide +kernel
theorem dX4_reads_99 : decode cX4_reads 99 = .ok (.aload_n 0, 1) := by decide +kernel
theorem dX4_reads_100 : decode cX4_reads 100 = .ok (.getfield 19, 3) := by decide +kernel
theorem dX4_reads_103 : decode cX4_reads 103 = .ok (.iload_n 1, 1) := by decide +kernel
theorem dX4_reads_104 : decode cX4_reads 104 = .ok (.iaload, 1) := by decide +kernel
theorem dX4_reads_105 : decode cX4_reads 105 = .ok (.ifCond .ge 5, 3) := by decide +kernel
theorem dX4_reads_108 : decode cX4_reads 108 = .ok (.iconst 0, 1) := by decide +kernel
theorem dX4_reads_109 : decode cX4_reads 109 = .ok (.ireturn, 1) := by decide +kernel
theorem dX4_reads_110 : decode cX4_reads 110 = .ok (.aload_n 0, 1) := by decide +kernel
theorem dX4_reads_111 : decode cX4_reads 111 = .ok (.dup, 1) := by decide +kernel
theorem dX4_reads_112 : decode cX4_reads 112 = .ok (.getfield 91, 3) := by decide +kernel
theorem dX4_reads_115 : decode cX4_reads 115 = .ok (.iconst 1, 1) := by decide +kernel
theorem dX4_reads_116 : decode cX4_reads 116 = .ok (.iadd, 1) := by decide +kernel
theorem dX4_reads_117 : decode cX4_reads 117 = .ok (.putfield 91, 3) := by decide +kernel
theorem dX4_reads_120 : decode cX4_reads 120 = .ok (.aload_n 0, 1) := by decide +kernel
theorem dX4_reads_121 : decode cX4_reads 121 = .ok (.getfield 22, 3) := by decide +kernel
theorem dX4_reads_124 : decode cX4_reads 124 = .ok (.iload_n 1, 1) := by decide +kernel
theorem dX4_reads_125 : decode cX4_reads 125 = .ok (.aload_n 0, 1) := by decide +kernel
theorem dX4_reads_126 : decode cX4_reads 126 = .ok (.invokevirtual 109, 3) := by decide +kernel
theorem dX4_reads_129 : decode cX4_reads 129 = .ok (.iastore, 1) := by decide +kernel
theorem dX4_reads_130 : decode cX4_reads 130 = .ok (.aload_n 0, 1) := by decide +kernel
theorem dX4_reads_131 : decode cX4_reads 131 = .ok (.getfield 22, 3) := by decide +kernel
theorem dX4_reads_134 : decode cX4_reads 134 = .ok (.iload_n 1, 1) := by decide +kernel
theorem dX4_reads_135 : decode cX4_reads 135 = .ok (.iaload, 1) := by decide +kernel
theorem dX4_reads_136 : decode cX4_reads 136 = .ok (.ifCond .lt 12, 3) := by decide +kernel
theorem dX4_reads_139 : decode cX4_reads 139 = .ok (.aload_n 0, 1) := by decide +kernel
theorem dX4_reads_140 : decode cX4_reads 140 = .ok (.bipush 45, 2) := by decide +kernel
theorem dX4_reads_142 : decode cX4_reads 142 = .ok (.invokevirtual 112, 3) := by decide +kernel
theorem dX4_reads_145 : decode cX4_reads 145 = .ok (.ifCond .ne 5, 3) := by decide +kernel
theorem dX4_reads_148 : decode cX4_reads 148 = .ok (.iconst 0, 1) := by decide +kernel
theorem dX4_reads_149 : decode cX4_reads 149 = .ok (.ireturn, 1) := by decide +kernel
theorem dX4_reads_150 : decode cX4_reads 150 = .ok (.aload_n 0, 1) := by decide +kernel
theorem dX4_reads_151 : decode cX4_reads 151 = .ok (.getfield 91, 3) := by decide +kernel
theorem dX4_reads_154 : decode cX4_reads 154 = .ok (.istore_n 3, 1) := by decide +kernel
theorem dX4_reads_155 : decode cX4_reads 155 = .ok (.aload_n 0, 1) := by decide +kernel
theorem dX4_reads_156 : decode cX4_reads 156 = .ok (.getfield 25, 3) := by decide +kernel
theorem dX4_reads_159 : decode cX4_reads 159 = .ok (.iload_n 1, 1) := by decide +kernel
theorem dX4_reads_160 : decode cX4_reads 160 = .ok (.aload_n 0, 1) := by decide +kernel
theorem dX4_reads_161 : decode cX4_reads 161 = .ok (.invokevirtual 109, 3) := by decide +kernel
theorem dX4_reads_164 : decode cX4_reads 164 = .ok (.iastore, 1) := by decide +kernel
theorem dX4_reads_165 : decode cX4_reads 165 = .ok (.aload_n 0, 1) := by decide +kernel
theorem dX4_reads_166 : decode cX4_reads 166 = .ok (.getfield 25, 3) := by decide +kernel
theorem dX4_reads_169 : decode cX4_reads 169 = .ok (.iload_n 1, 1) := by decide +kernel
theorem dX4_reads_170 : decode cX4_reads 170 = .ok (.iaload, 1) := by decide +kernel
theorem dX4_reads_171 : decode cX4_reads 171 = .ok (.ifCond .ge 5, 3) := by decide +kernel
theorem dX4_reads_174 : decode cX4_reads 174 = .ok (.iconst 0, 1) := by decide +kernel
theorem dX4_reads_175 : decode cX4_reads 175 = .ok (.ireturn, 1) := by decide +kernel
theorem dX4_reads_176 : decode cX4_reads 176 = .ok (.aload_n 0, 1) := by decide +kernel
theorem dX4_reads_177 : decode cX4_reads 177 = .ok (.getfield 25, 3) := by decide +kernel
theorem dX4_reads_180 : decode cX4_reads 180 = .ok (.iload_n 1, 1) := by decide +kernel
theorem dX4_reads_181 : decode cX4_reads 181 = .ok (.iaload, 1) := by decide +kernel
theorem dX4_reads_182 : decode cX4_reads 182 = .ok (.sipush 900, 3) := by decide +kernel
theorem dX4_reads_185 : decode cX4_reads 185 = .ok (.if_icmp .gt 18, 3) := by decide +kernel
theorem dX4_reads_188 : decode cX4_reads 188 = .ok (.aload_n 0, 1) := by decide +kernel
theorem dX4_reads_189 : decode cX4_reads 189 = .ok (.getfield 25, 3) := by decide +kernel
theorem dX4_reads_192 : decode cX4_reads 192 = .ok (.iload_n 1, 1) := by decide +kernel
theorem dX4_reads_193 : decode cX4_reads 193 = .ok (.iaload, 1) := by decide +kernel
theorem dX4_reads_194 : decode cX4_reads 194 = .ok (.aload_n 0, 1) := by decide +kernel
theorem dX4_reads_195 : decode cX4_reads 195 = .ok (.getfield 22, 3) := by decide +kernel
theorem dX4_reads_198 : decode cX4_reads 198 = .ok (.iload_n 1, 1) := by decide +kernel
theorem dX4_reads_199 : decode cX4_reads 199 = .ok (.iaload, 1) := by decide +kernel
theorem dX4_reads_200 : decode cX4_reads 200 = .ok (.if_icmp .gt 10, 3) := by decide +kernel
theorem dX4_reads_203 : decode cX4_reads 203 = .ok (.aload_n 0, 1) := by decide +kernel
theorem dX4_reads_204 : decode cX4_reads 204 = .ok (.iload_n 3, 1) := by decide +kernel
theorem dX4_reads_205 : decode cX4_reads 205 = .ok (.putfield 91, 3) := by decide +kernel
theorem dX4_reads_208 : decode cX4_reads 208 = .ok (.iconst 0, 1) := by decide +kernel
theorem dX4_reads_209 : decode cX4_reads 209 = .ok (.ireturn, 1) := by decide +kernel
theorem dX4_reads_210 : decode cX4_reads 210 = .ok (.aload_n 0, 1) := by decide +kernel
theorem dX4_reads_211 : decode cX4_reads 211 = .ok (.bipush 42, 2) := by decide +kernel
theorem dX4_reads_213 : decode cX4_reads 213 = .ok (.invokevirtual 112, 3) := by decide +kernel
theorem dX4_reads_216 : decode cX4_reads 216 = .ok (.ifCond .ne 5, 3) := by decide +kernel
theorem dX4_reads_219 : decode cX4_reads 219 = .ok (.iconst 0, 1) := by decide +kernel
theorem dX4_reads_220 : decode cX4_reads 220 = .ok (.ireturn, 1) := by decide +kernel
theorem dX4_reads_221 : decode cX4_reads 221 = .ok (.aload_n 0, 1) := by decide +kernel
theorem dX4_reads_222 : decode cX4_reads 222 = .ok (.getfield 28, 3) := by decide +kernel
theorem dX4_reads_225 : decode cX4_reads 225 = .ok (.iload_n 1, 1) := by decide +kernel
theorem dX4_reads_226 : decode cX4_reads 226 = .ok (.aload_n 0, 1) := by decide +kernel
theorem dX4_reads_227 : decode cX4_reads 227 = .ok (.invokevirtual 109, 3) := by decide +kernel
theorem dX4_reads_230 : decode cX4_reads 230 = .ok (.iastore, 1) := by decide +kernel
theorem dX4_reads_231 : decode cX4_reads 231 = .ok (.aload_n 0, 1) := by decide +kernel
theorem dX4_reads_232 : decode cX4_reads 232 = .ok (.getfield 28, 3) := by decide +kernel
theorem dX4_reads_235 : decode cX4_reads 235 = .ok (.iload_n 1, 1) := by decide +kernel
theorem dX4_reads_236 : decode cX4_reads 236 = .ok (.iaload, 1) := by decide +kernel
theorem dX4_reads_237 : decode cX4_reads 237 = .ok (.ifCond .ge 5, 3) := by decide +kernel
theorem dX4_reads_240 : decode cX4_reads 240 = .ok (.iconst 0, 1) := by decide +kernel
theorem dX4_reads_241 : decode cX4_reads 241 = .ok (.ireturn, 1) := by decide +kernel
theorem dX4_reads_242 : decode cX4_reads 242 = .ok (.aload_n 0, 1) := by decide +kernel
theorem dX4_reads_243 : decode cX4_reads 243 = .ok (.getfield 31, 3) := by decide +kernel
theorem dX4_reads_246 : decode cX4_reads 246 = .ok (.iload_n 1, 1) := by decide +kernel
theorem dX4_reads_247 : decode cX4_reads 247 = .ok (.aload_n 0, 1) := by decide +kernel
theorem dX4_reads_248 : decode cX4_reads 248 = .ok (.bipush 33, 2) := by decide +kernel
theorem dX4_reads_250 : decode cX4_reads 250 = .ok (.invokevirtual 112, 3) := by decide +kernel
theorem dX4_reads_253 : decode cX4_reads 253 = .ok (.ifCond .eq 7, 3) := by decide +kernel
theorem dX4_reads_256 : decode cX4_reads 256 = .ok (.iconst 0, 1) := by decide +kernel
theorem dX4_reads_257 : decode cX4_reads 257 = .ok (.goto 4, 3) := by decide +kernel
theorem dX4_reads_260 : decode cX4_reads 260 = .ok (.iconst 1, 1) := by decide +kernel
theorem dX4_reads_261 : decode cX4_reads 261 = .ok (.iastore, 1) := by decide +kernel
theorem dX4_reads_262 : decode cX4_reads 262 = .ok (.aload_n 0, 1) := by decide +kernel
theorem dX4_reads_263 : decode cX4_reads 263 = .ok (.getfield 91, 3) := by decide +kernel
theorem dX4_reads_266 : decode cX4_reads 266 = .ok (.aload_n 0, 1) := by decide +kernel
theorem dX4_reads_267 : decode cX4_reads 267 = .ok (.getfield 82, 3) := by decide +kernel
theorem dX4_reads_270 : decode cX4_reads 270 = .ok (.if_icmp .ne 7, 3) := by decide +kernel
theorem dX4_reads_273 : decode cX4_reads 273 = .ok (.iconst 1, 1) := by decide +kernel
theorem dX4_reads_274 : decode cX4_reads 274 = .ok (.goto 4, 3) := by decide +kernel
theorem dX4_reads_277 : decode cX4_reads 277 = .ok (.iconst 0, 1) := by decide +kernel
theorem dX4_reads_278 : decode cX4_reads 278 = .ok (.ireturn, 1) := by decide +kernel
theorem hd_X4_reads : yX4_reads.cls ≠ "java/lang/invoke/MethodHandle" ∧ yX4_reads.cls ≠ "java/lang/invoke/VarHandle" ∧ (parseMethodDescriptor yX4_reads.desc).map (fun d => d.parameters.length) = some 0 := by decide +kernel
def f_X4_reads_J98 (x1 : Int32) (k1 : Int32) (k2 : Int32) (S : vS) : Option (Int32 × vS) := if inb k1 21 = true then lt (upk S 4 (upd (S 4) (k1.toNatClampNeg) k2)) fun S17 => if inb x1 21 = true then if 0 ≤ (S17 4 (x1.toNatClampNeg)) then lt (upk S17 0 (upd (S17 0) 1 ((S17 0 1) + (1 : Int32)))) fun S20 => b2 (f_X4_number  S20) fun r23 S22 => lt (upk S22 5 (upd (S22 5) (x1.toNatClampNeg) r23)) fun S24 => if (S24 5 (x1.toNatClampNeg)) < 0 then some ((0 : Int32), S24) else b2 (f_X4_takes (45 : Int32) S24) fun r28 S27 => if r28 = 0 then some ((0 : Int32), S27) else b2 (f_X4_number  S27) fun r32 S31 => lt (upk S31 6 (upd (S31 6) (x1.toNatClampNeg) r32)) fun S33 => if 0 ≤ (S33 6 (x1.toNatClampNeg)) then if (900 : Int32) < (S33 6 (x1.toNatClampNeg)) then lt (upk S33 0 (upd (S33 0) 1 (S27 0 1))) fun S36 => some ((0 : Int32), S36) else if (S33 5 (x1.toNatClampNeg)) < (S33 6 (x1.toNatClampNeg)) then b2 (f_X4_takes (42 : Int32) S33) fun r40 S39 => if r40 = 0 then some ((0 : Int32), S39) else b2 (f_X4_number  S39) fun r44 S43 => lt (upk S43 7 (upd (S43 7) (x1.toNatClampNeg) r44)) fun S45 => if 0 ≤ (S45 7 (x1.toNatClampNeg)) then b2 (f_X4_takes (33 : Int32) S45) fun r49 S48 => if r49 = 0 then lt (upk S48 8 (upd (S48 8) (x1.toNatClampNeg) (1 : Int32))) fun S51 => if (S51 0 1) = (S51 0 0) then some ((1 : Int32), S51) else some ((0 : Int32), S51) else lt (upk S48 8 (upd (S48 8) (x1.toNatClampNeg) (0 : Int32))) fun S53 => if (S53 0 1) = (S53 0 0) then some ((1 : Int32), S53) else some ((0 : Int32), S53) else some ((0 : Int32), S45) else lt (upk S33 0 (upd (S33 0) 1 (S27 0 1))) fun S55 => some ((0 : Int32), S55) else some ((0 : Int32), S33) else some ((0 : Int32), S17) else none else none
def f_X4_reads  (S : vS) : Option (Int32 × vS) := lt (upk S 0 (upd (S 0) 1 (0 : Int32))) fun S1 => b1 (f_X4_sign  S1) fun r3 => if inb (S1 0 2) 21 = true then lt (upk S1 3 (upd (S1 3) ((S1 0 2).toNatClampNeg) (r3 - (48 : Int32)))) fun S5 => b1 (f_X4_isLand (S5 3 ((S1 0 2).toNatClampNeg)) S5) fun r7 => if r7 = 0 then some ((0 : Int32), S5) else lt (upk S5 0 (upd (S5 0) 1 ((S5 0 1) + (1 : Int32)))) fun S9 => b1 (f_X4_sign  S9) fun r11 => if r11 = (115 : Int32) then f_X4_reads_J98 (S1 0 2) (S1 0 2) (0 : Int32) S9 else if r11 = (102 : Int32) then f_X4_reads_J98 (S1 0 2) (S1 0 2) (1 : Int32) S9 else if r11 = (97 : Int32) then f_X4_reads_J98 (S1 0 2) (S1 0 2) (2 : Int32) S9 else if r11 = (98 : Int32) then f_X4_reads_J98 (S1 0 2) (S1 0 2) (3 : Int32) S9 else f_X4_reads_J98 (S1 0 2) (S1 0 2) (-1 : Int32) S9 else none
set_option maxHeartbeats 4000000 in
set_option maxRecDepth 20000 in
theorem c_X4_reads (l : Launch) (D : va_G) (cI cO : ClassId) (ad : Nat → Nat)  (S : vS) (R9 : Int32) (S9 : vS) (hf : f_X4_reads  S = some (R9, S9)) : CI l yX4_reads cX4_reads 4 .boolean ({ frames := 2, cells := 0, slots := 0, locals := 44 }) [.ref (ad 5)] D cI cO ad S R9 S9 := by
  refine CI.of (by decide +kernel) (Nat.le_of_ble_eq_true rfl) (fun p e s m args below meth c Q ls X hl hw hfin => ?_)
  have hl : lv_has ls 4 [(0, .ref (ad 5))] := hl
  have hx := X.1
  have hb := X.2.1
  have J98 : ∀ (x1 : Int32) (k1 : Int32) (k2 : Int32) (S : vS), f_X4_reads_J98 x1 k1 k2 S = some (R9, S9) → ∀ (H : Heap) (locs : List Loc) (ls : Array Slot), WD D cI cO ad s S H locs → lv_has ls 4 [(0, .ref (ad 5)), (1, .int x1)] → W p l e ({ frames := 2, cells := 0, slots := 0, locals := 44 }) s m args below meth c H locs 0 0 Q (F0 m 98 ls [.int k2, .int k1, .ref (ar ad 4)]) := by
    intro x1 k1 k2 S hf H locs ls hw hl
    unfold f_X4_reads_J98 at hf
    obtain ⟨h16, hf⟩ := if_s hf
    refine x_iast X hw 4 ⟨Nat.le_of_ble_eq_true rfl, Nat.le_of_ble_eq_true rfl⟩ rfl h16 (k1.toNatClampNeg) rfl dX4_reads_98 (fun S17 eS17 H locs hw => ?_)
    replace hf := lt_e eS17 hf
    refine lv_aload_n hx hb dX4_reads_99 rfl (lv_at hl 0 rfl) ?_
    refine x_get X hw 5 (Nat.le_of_ble_eq_true rfl) ce5 rfl i_X4 3 (by decide) q593 ⟨rfl, rfl, rfl⟩ rfl dX4_reads_100 ?_
    refine lv_iload_n hx hb dX4_reads_103 rfl (lv_at hl 1 rfl) ?_
    obtain ⟨h18, hf⟩ := if_s hf
    refine x_iald X hw 4 ⟨Nat.le_of_ble_eq_true rfl, Nat.le_of_ble_eq_true rfl⟩ rfl h18 (x1.toNatClampNeg) rfl dX4_reads_104 ?_
    refine lv_if_ge (tgt := 110) hx hb dX4_reads_105 (by decide) (fun c19 => ?_) (fun c19 => ?_)
    · replace hf := if_t c19 hf
      refine lv_aload_n hx hb dX4_reads_110 rfl (lv_at hl 0 rfl) ?_
      refine lv_dup hx hb dX4_reads_111 rfl ?_
      refine x_get X hw 5 (Nat.le_of_ble_eq_true rfl) ce5 rfl i_X4 14 (by decide) q604 ⟨rfl, rfl, rfl⟩ rfl dX4_reads_112 ?_
      refine lv_iconst (v := 1) hx hb dX4_reads_115 (by decide) ?_
      refine lv_iadd hx hb dX4_reads_116 ?_
      refine x_put X hw 5 (Nat.le_of_ble_eq_true rfl) ce5 rfl i_X4 tyX4_ok nmX4 14 (by decide) q604 ⟨rfl, rfl, rfl⟩ rfl pfI rfl rfl (Nat.le_of_ble_eq_true rfl) 1 (ws_1 _) dX4_reads_117 (fun S20 eS20 H locs hw => ?_)
      replace hf := lt_e eS20 hf
      refine lv_aload_n hx hb dX4_reads_120 rfl (lv_at hl 0 rfl) ?_
      refine x_get X hw 5 (Nat.le_of_ble_eq_true rfl) ce5 rfl i_X4 4 (by decide) q594 ⟨rfl, rfl, rfl⟩ rfl dX4_reads_121 ?_
      refine lv_iload_n hx hb dX4_reads_124 rfl (lv_at hl 1 rfl) ?_
      refine lv_aload_n hx hb dX4_reads_125 rfl (lv_at hl 0 rfl) ?_
      obtain ⟨r23, S22, h21, hf⟩ := b2_s hf
      refine kVi X hw (c_X4_number l D cI cO ad  S20 r23 S22 h21) (Nat.le_of_ble_eq_true rfl) ce5 rfl ⟨rfl, rfl⟩ q708 q710 q37 q64 q711 hd_X4_number ⟨Nat.le_of_ble_eq_true rfl, Nat.le_of_ble_eq_true rfl⟩ rfl hl.1 rfl (Nat.le_of_ble_eq_true rfl) dX4_reads_126 (fun H locs hw => ?_)
      refine x_iast X hw 5 ⟨Nat.le_of_ble_eq_true rfl, Nat.le_of_ble_eq_true rfl⟩ rfl h18 (x1.toNatClampNeg) rfl dX4_reads_129 (fun S24 eS24 H locs hw => ?_)
      replace hf := lt_e eS24 hf
      refine lv_aload_n hx hb dX4_reads_130 rfl (lv_at hl 0 rfl) ?_
      refine x_get X hw 5 (Nat.le_of_ble_eq_true rfl) ce5 rfl i_X4 4 (by decide) q594 ⟨rfl, rfl, rfl⟩ rfl dX4_reads_131 ?_
      refine lv_iload_n hx hb dX4_reads_134 rfl (lv_at hl 1 rfl) ?_
      refine x_iald X hw 5 ⟨Nat.le_of_ble_eq_true rfl, Nat.le_of_ble_eq_true rfl⟩ rfl h18 (x1.toNatClampNeg) rfl dX4_reads_135 ?_
      refine lv_if_lt (tgt := 148) hx hb dX4_reads_136 (by decide) (fun c25 => ?_) (fun c25 => ?_)
      · replace hf := if_t c25 hf
        refine lv_iconst (v := 0) hx hb dX4_reads_148 (by decide) ?_
        exact hfin _ _ _ _ _ _ hw (s2a hf) (s2b hf) rfl dX4_reads_149
      · replace hf := if_f c25 hf
        refine lv_aload_n hx hb dX4_reads_139 rfl (lv_at hl 0 rfl) ?_
        refine lv_bipush (v := 45) hx hb dX4_reads_140 (by decide +kernel) ?_
        obtain ⟨r28, S27, h26, hf⟩ := b2_s hf
        refine kVi X hw (c_X4_takes l D cI cO ad (45 : Int32) S24 r28 S27 h26) (Nat.le_of_ble_eq_true rfl) ce5 rfl ⟨rfl, rfl⟩ q715 q717 q38 q64 q718 hd_X4_takes ⟨Nat.le_of_ble_eq_true rfl, Nat.le_of_ble_eq_true rfl⟩ rfl hl.1 rfl (Nat.le_of_ble_eq_true rfl) dX4_reads_142 (fun H locs hw => ?_)
        refine lv_if_ne (tgt := 150) hx hb dX4_reads_145 (by decide) (fun c29 => ?_) (fun c29 => ?_)
        · replace hf := if_f c29 hf
          refine lv_aload_n hx hb dX4_reads_150 rfl (lv_at hl 0 rfl) ?_
          refine x_get X hw 5 (Nat.le_of_ble_eq_true rfl) ce5 rfl i_X4 14 (by decide) q604 ⟨rfl, rfl, rfl⟩ rfl dX4_reads_151 ?_
          refine lv_istore_n (lv' := [(3, .int (S27 0 1)), (0, .ref (ad 5)), (1, .int x1)]) hx hb dX4_reads_154 rfl hl (by decide) rfl (fun ls hl => ?_)
          refine lv_aload_n hx hb dX4_reads_155 rfl (lv_at hl 1 rfl) ?_
          refine x_get X hw 5 (Nat.le_of_ble_eq_true rfl) ce5 rfl i_X4 5 (by decide) q595 ⟨rfl, rfl, rfl⟩ rfl dX4_reads_156 ?_
          refine lv_iload_n hx hb dX4_reads_159 rfl (lv_at hl 2 rfl) ?_
          refine lv_aload_n hx hb dX4_reads_160 rfl (lv_at hl 1 rfl) ?_
          obtain ⟨r32, S31, h30, hf⟩ := b2_s hf
          refine kVi X hw (c_X4_number l D cI cO ad  S27 r32 S31 h30) (Nat.le_of_ble_eq_true rfl) ce5 rfl ⟨rfl, rfl⟩ q708 q710 q37 q64 q711 hd_X4_number ⟨Nat.le_of_ble_eq_true rfl, Nat.le_of_ble_eq_true rfl⟩ rfl hl.1 rfl (Nat.le_of_ble_eq_true rfl) dX4_reads_161 (fun H locs hw => ?_)
          refine x_iast X hw 6 ⟨Nat.le_of_ble_eq_true rfl, Nat.le_of_ble_eq_true rfl⟩ rfl h18 (x1.toNatClampNeg) rfl dX4_reads_164 (fun S33 eS33 H locs hw => ?_)
          replace hf := lt_e eS33 hf
          refine lv_aload_n hx hb dX4_reads_165 rfl (lv_at hl 1 rfl) ?_
          refine x_get X hw 5 (Nat.le_of_ble_eq_true rfl) ce5 rfl i_X4 5 (by decide) q595 ⟨rfl, rfl, rfl⟩ rfl dX4_reads_166 ?_
          refine lv_iload_n hx hb dX4_reads_169 rfl (lv_at hl 2 rfl) ?_
          refine x_iald X hw 6 ⟨Nat.le_of_ble_eq_true rfl, Nat.le_of_ble_eq_true rfl⟩ rfl h18 (x1.toNatClampNeg) rfl dX4_reads_170 ?_
          refine lv_if_ge (tgt := 176) hx hb dX4_reads_171 (by decide) (fun c34 => ?_) (fun c34 => ?_)
          · replace hf := if_t c34 hf
            refine lv_aload_n hx hb dX4_reads_176 rfl (lv_at hl 1 rfl) ?_
            refine x_get X hw 5 (Nat.le_of_ble_eq_true rfl) ce5 rfl i_X4 5 (by decide) q595 ⟨rfl, rfl, rfl⟩ rfl dX4_reads_177 ?_
            refine lv_iload_n hx hb dX4_reads_180 rfl (lv_at hl 2 rfl) ?_
            refine x_iald X hw 6 ⟨Nat.le_of_ble_eq_true rfl, Nat.le_of_ble_eq_true rfl⟩ rfl h18 (x1.toNatClampNeg) rfl dX4_reads_181 ?_
            refine lv_sipush (v := 900) hx hb dX4_reads_182 (by decide +kernel) ?_
            refine lv_icmp_gt (tgt := 203) hx hb dX4_reads_185 (by decide) (fun c35 => ?_) (fun c35 => ?_)
            · replace hf := if_t c35 hf
              refine lv_aload_n hx hb dX4_reads_203 rfl (lv_at hl 1 rfl) ?_
              refine lv_iload_n hx hb dX4_reads_204 rfl (lv_at hl 0 rfl) ?_
              refine x_put X hw 5 (Nat.le_of_ble_eq_true rfl) ce5 rfl i_X4 tyX4_ok nmX4 14 (by decide) q604 ⟨rfl, rfl, rfl⟩ rfl pfI rfl rfl (Nat.le_of_ble_eq_true rfl) 1 (ws_1 _) dX4_reads_205 (fun S36 eS36 H locs hw => ?_)
              replace hf := lt_e eS36 hf
              refine lv_iconst (v := 0) hx hb dX4_reads_208 (by decide) ?_
              exact hfin _ _ _ _ _ _ hw (s2a hf) (s2b hf) rfl dX4_reads_209
            · replace hf := if_f c35 hf
              refine lv_aload_n hx hb dX4_reads_188 rfl (lv_at hl 1 rfl) ?_
              refine x_get X hw 5 (Nat.le_of_ble_eq_true rfl) ce5 rfl i_X4 5 (by decide) q595 ⟨rfl, rfl, rfl⟩ rfl dX4_reads_189 ?_
              refine lv_iload_n hx hb dX4_reads_192 rfl (lv_at hl 2 rfl) ?_
              refine x_iald X hw 6 ⟨Nat.le_of_ble_eq_true rfl, Nat.le_of_ble_eq_true rfl⟩ rfl h18 (x1.toNatClampNeg) rfl dX4_reads_193 ?_
              refine lv_aload_n hx hb dX4_reads_194 rfl (lv_at hl 1 rfl) ?_
              refine x_get X hw 5 (Nat.le_of_ble_eq_true rfl) ce5 rfl i_X4 4 (by decide) q594 ⟨rfl, rfl, rfl⟩ rfl dX4_reads_195 ?_
              refine lv_iload_n hx hb dX4_reads_198 rfl (lv_at hl 2 rfl) ?_
              refine x_iald X hw 5 ⟨Nat.le_of_ble_eq_true rfl, Nat.le_of_ble_eq_true rfl⟩ rfl h18 (x1.toNatClampNeg) rfl dX4_reads_199 ?_
              refine lv_icmp_gt (tgt := 210) hx hb dX4_reads_200 (by decide) (fun c37 => ?_) (fun c37 => ?_)
              · replace hf := if_t c37 hf
                refine lv_aload_n hx hb dX4_reads_210 rfl (lv_at hl 1 rfl) ?_
                refine lv_bipush (v := 42) hx hb dX4_reads_211 (by decide +kernel) ?_
                obtain ⟨r40, S39, h38, hf⟩ := b2_s hf
                refine kVi X hw (c_X4_takes l D cI cO ad (42 : Int32) S33 r40 S39 h38) (Nat.le_of_ble_eq_true rfl) ce5 rfl ⟨rfl, rfl⟩ q715 q717 q38 q64 q718 hd_X4_takes ⟨Nat.le_of_ble_eq_true rfl, Nat.le_of_ble_eq_true rfl⟩ rfl hl.1 rfl (Nat.le_of_ble_eq_true rfl) dX4_reads_213 (fun H locs hw => ?_)
                refine lv_if_ne (tgt := 221) hx hb dX4_reads_216 (by decide) (fun c41 => ?_) (fun c41 => ?_)
                · replace hf := if_f c41 hf
                  refine lv_aload_n hx hb dX4_reads_221 rfl (lv_at hl 1 rfl) ?_
                  refine x_get X hw 5 (Nat.le_of_ble_eq_true rfl) ce5 rfl i_X4 6 (by decide) q596 ⟨rfl, rfl, rfl⟩ rfl dX4_reads_222 ?_
                  refine lv_iload_n hx hb dX4_reads_225 rfl (lv_at hl 2 rfl) ?_
                  refine lv_aload_n hx hb dX4_reads_226 rfl (lv_at hl 1 rfl) ?_
                  obtain ⟨r44, S43, h42, hf⟩ := b2_s hf
                  refine kVi X hw (c_X4_number l D cI cO ad  S39 r44 S43 h42) (Nat.le_of_ble_eq_true rfl) ce5 rfl ⟨rfl, rfl⟩ q708 q710 q37 q64 q711 hd_X4_number ⟨Nat.le_of_ble_eq_true rfl, Nat.le_of_ble_eq_true rfl⟩ rfl hl.1 rfl (Nat.le_of_ble_eq_true rfl) dX4_reads_227 (fun H locs hw => ?_)
                  refine x_iast X hw 7 ⟨Nat.le_of_ble_eq_true rfl, Nat.le_of_ble_eq_true rfl⟩ rfl h18 (x1.toNatClampNeg) rfl dX4_reads_230 (fun S45 eS45 H locs hw => ?_)
                  replace hf := lt_e eS45 hf
                  refine lv_aload_n hx hb dX4_reads_231 rfl (lv_at hl 1 rfl) ?_
                  refine x_get X hw 5 (Nat.le_of_ble_eq_true rfl) ce5 rfl i_X4 6 (by decide) q596 ⟨rfl, rfl, rfl⟩ rfl dX4_reads_232 ?_
                  refine lv_iload_n hx hb dX4_reads_235 rfl (lv_at hl 2 rfl) ?_
                  refine x_iald X hw 7 ⟨Nat.le_of_ble_eq_true rfl, Nat.le_of_ble_eq_true rfl⟩ rfl h18 (x1.toNatClampNeg) rfl dX4_reads_236 ?_
                  refine lv_if_ge (tgt := 242) hx hb dX4_reads_237 (by decide) (fun c46 => ?_) (fun c46 => ?_)
                  · replace hf := if_t c46 hf
                    refine lv_aload_n hx hb dX4_reads_242 rfl (lv_at hl 1 rfl) ?_
                    refine x_get X hw 5 (Nat.le_of_ble_eq_true rfl) ce5 rfl i_X4 7 (by decide) q597 ⟨rfl, rfl, rfl⟩ rfl dX4_reads_243 ?_
                    refine lv_iload_n hx hb dX4_reads_246 rfl (lv_at hl 2 rfl) ?_
                    refine lv_aload_n hx hb dX4_reads_247 rfl (lv_at hl 1 rfl) ?_
                    refine lv_bipush (v := 33) hx hb dX4_reads_248 (by decide +kernel) ?_
                    obtain ⟨r49, S48, h47, hf⟩ := b2_s hf
                    refine kVi X hw (c_X4_takes l D cI cO ad (33 : Int32) S45 r49 S48 h47) (Nat.le_of_ble_eq_true rfl) ce5 rfl ⟨rfl, rfl⟩ q715 q717 q38 q64 q718 hd_X4_takes ⟨Nat.le_of_ble_eq_true rfl, Nat.le_of_ble_eq_true rfl⟩ rfl hl.1 rfl (Nat.le_of_ble_eq_true rfl) dX4_reads_250 (fun H locs hw => ?_)
                    refine lv_if_eq (tgt := 260) hx hb dX4_reads_253 (by decide) (fun c50 => ?_) (fun c50 => ?_)
                    · replace hf := if_t c50 hf
                      refine lv_iconst (v := 1) hx hb dX4_reads_260 (by decide) ?_
                      refine x_iast X hw 8 ⟨Nat.le_of_ble_eq_true rfl, Nat.le_of_ble_eq_true rfl⟩ rfl h18 (x1.toNatClampNeg) rfl dX4_reads_261 (fun S51 eS51 H locs hw => ?_)
                      replace hf := lt_e eS51 hf
                      refine lv_aload_n hx hb dX4_reads_262 rfl (lv_at hl 1 rfl) ?_
                      refine x_get X hw 5 (Nat.le_of_ble_eq_true rfl) ce5 rfl i_X4 14 (by decide) q604 ⟨rfl, rfl, rfl⟩ rfl dX4_reads_263 ?_
                      refine lv_aload_n hx hb dX4_reads_266 rfl (lv_at hl 1 rfl) ?_
                      refine x_get X hw 5 (Nat.le_of_ble_eq_true rfl) ce5 rfl i_X4 13 (by decide) q603 ⟨rfl, rfl, rfl⟩ rfl dX4_reads_267 ?_
                      refine lv_icmp_ne (tgt := 277) hx hb dX4_reads_270 (by decide) (fun c52 => ?_) (fun c52 => ?_)
                      · replace hf := if_f c52 hf
                        refine lv_iconst (v := 0) hx hb dX4_reads_277 (by decide) ?_
                        exact hfin _ _ _ _ _ _ hw (s2a hf) (s2b hf) rfl dX4_reads_278
                      · replace hf := if_t c52 hf
                        refine lv_iconst (v := 1) hx hb dX4_reads_273 (by decide) ?_
                        refine lv_goto (tgt := 278) hx hb dX4_reads_274 (by decide) ?_
                        exact hfin _ _ _ _ _ _ hw (s2a hf) (s2b hf) rfl dX4_reads_278
                    · replace hf := if_f c50 hf
                      refine lv_iconst (v := 0) hx hb dX4_reads_256 (by decide) ?_
                      refine lv_goto (tgt := 261) hx hb dX4_reads_257 (by decide) ?_
                      refine x_iast X hw 8 ⟨Nat.le_of_ble_eq_true rfl, Nat.le_of_ble_eq_true rfl⟩ rfl h18 (x1.toNatClampNeg) rfl dX4_reads_261 (fun S53 eS53 H locs hw => ?_)
                      replace hf := lt_e eS53 hf
                      refine lv_aload_n hx hb dX4_reads_262 rfl (lv_at hl 1 rfl) ?_
                      refine x_get X hw 5 (Nat.le_of_ble_eq_true rfl) ce5 rfl i_X4 14 (by decide) q604 ⟨rfl, rfl, rfl⟩ rfl dX4_reads_263 ?_
                      refine lv_aload_n hx hb dX4_reads_266 rfl (lv_at hl 1 rfl) ?_
                      refine x_get X hw 5 (Nat.le_of_ble_eq_true rfl) ce5 rfl i_X4 13 (by decide) q603 ⟨rfl, rfl, rfl⟩ rfl dX4_reads_267 ?_
                      refine lv_icmp_ne (tgt := 277) hx hb dX4_reads_270 (by decide) (fun c54 => ?_) (fun c54 => ?_)
                      · replace hf := if_f c54 hf
                        refine lv_iconst (v := 0) hx hb dX4_reads_277 (by decide) ?_
                        exact hfin _ _ _ _ _ _ hw (s2a hf) (s2b hf) rfl dX4_reads_278
                      · replace hf := if_t c54 hf
                        refine lv_iconst (v := 1) hx hb dX4_reads_273 (by decide) ?_
                        refine lv_goto (tgt := 278) hx hb dX4_reads_274 (by decide) ?_
                        exact hfin _ _ _ _ _ _ hw (s2a hf) (s2b hf) rfl dX4_reads_278
                  · replace hf := if_f c46 hf
                    refine lv_iconst (v := 0) hx hb dX4_reads_240 (by decide) ?_
                    exact hfin _ _ _ _ _ _ hw (s2a hf) (s2b hf) rfl dX4_reads_241
                · replace hf := if_t c41 hf
                  refine lv_iconst (v := 0) hx hb dX4_reads_219 (by decide) ?_
                  exact hfin _ _ _ _ _ _ hw (s2a hf) (s2b hf) rfl dX4_reads_220
              · replace hf := if_f c37 hf
                refine lv_aload_n hx hb dX4_reads_203 rfl (lv_at hl 1 rfl) ?_
                refine lv_iload_n hx hb dX4_reads_204 rfl (lv_at hl 0 rfl) ?_
                refine x_put X hw 5 (Nat.le_of_ble_eq_true rfl) ce5 rfl i_X4 tyX4_ok nmX4 14 (by decide) q604 ⟨rfl, rfl, rfl⟩ rfl pfI rfl rfl (Nat.le_of_ble_eq_true rfl) 1 (ws_1 _) dX4_reads_205 (fun S55 eS55 H locs hw => ?_)
                replace hf := lt_e eS55 hf
                refine lv_iconst (v := 0) hx hb dX4_reads_208 (by decide) ?_
                exact hfin _ _ _ _ _ _ hw (s2a hf) (s2b hf) rfl dX4_reads_209
          · replace hf := if_f c34 hf
            refine lv_iconst (v := 0) hx hb dX4_reads_174 (by decide) ?_
            exact hfin _ _ _ _ _ _ hw (s2a hf) (s2b hf) rfl dX4_reads_175
        · replace hf := if_t c29 hf
          refine lv_iconst (v := 0) hx hb dX4_reads_148 (by decide) ?_
          exact hfin _ _ _ _ _ _ hw (s2a hf) (s2b hf) rfl dX4_reads_149
    · replace hf := if_f c19 hf
      refine lv_iconst (v := 0) hx hb dX4_reads_108 (by decide) ?_
      exact hfin _ _ _ _ _ _ hw (s2a hf) (s2b hf) rfl dX4_reads_109
  unfold f_X4_reads at hf
  refine lv_aload_n hx hb dX4_reads_0 rfl (lv_at hl 0 rfl) ?_
  refine lv_iconst (v := 0) hx hb dX4_reads_1 (by decide) ?_
  refine x_put X hw 5 (Nat.le_of_ble_eq_true rfl) ce5 rfl i_X4 tyX4_ok nmX4 14 (by decide) q604 ⟨rfl, rfl, rfl⟩ rfl pfI rfl rfl (Nat.le_of_ble_eq_true rfl) 1 (ws_1 _) dX4_reads_2 (fun S1 eS1 H locs hw => ?_)
  replace hf := lt_e eS1 hf
  refine lv_aload_n hx hb dX4_reads_5 rfl (lv_at hl 0 rfl) ?_
  refine x_get X hw 5 (Nat.le_of_ble_eq_true rfl) ce5 rfl i_X4 15 (by decide) q605 ⟨rfl, rfl, rfl⟩ rfl dX4_reads_6 ?_
  refine lv_istore_n (lv' := [(1, .int (S1 0 2)), (0, .ref (ad 5))]) hx hb dX4_reads_9 rfl hl (by decide) rfl (fun ls hl => ?_)
  refine lv_aload_n hx hb dX4_reads_10 rfl (lv_at hl 1 rfl) ?_
  refine x_get X hw 5 (Nat.le_of_ble_eq_true rfl) ce5 rfl i_X4 2 (by decide) q592 ⟨rfl, rfl, rfl⟩ rfl dX4_reads_11 ?_
  refine lv_iload_n hx hb dX4_reads_14 rfl (lv_at hl 0 rfl) ?_
  refine lv_aload_n hx hb dX4_reads_15 rfl (lv_at hl 1 rfl) ?_
  obtain ⟨r3, h2, hf⟩ := b1_s hf
  refine kVi X hw (c_X4_sign l D cI cO ad  S1 r3 h2) (Nat.le_of_ble_eq_true rfl) ce5 rfl ⟨rfl, rfl⟩ q701 q703 q36 q64 q704 hd_X4_sign ⟨Nat.le_of_ble_eq_true rfl, Nat.le_of_ble_eq_true rfl⟩ rfl hl.1 rfl (Nat.le_of_ble_eq_true rfl) dX4_reads_16 (fun H locs hw => ?_)
  refine lv_bipush (v := 48) hx hb dX4_reads_19 (by decide +kernel) ?_
  refine lv_isub hx hb dX4_reads_21 ?_
  obtain ⟨h4, hf⟩ := if_s hf
  refine x_iast X hw 3 ⟨Nat.le_of_ble_eq_true rfl, Nat.le_of_ble_eq_true rfl⟩ rfl h4 ((S1 0 2).toNatClampNeg) rfl dX4_reads_22 (fun S5 eS5 H locs hw => ?_)
  replace hf := lt_e eS5 hf
  refine lv_aload_n hx hb dX4_reads_23 rfl (lv_at hl 1 rfl) ?_
  refine x_get X hw 5 (Nat.le_of_ble_eq_true rfl) ce5 rfl i_X4 2 (by decide) q592 ⟨rfl, rfl, rfl⟩ rfl dX4_reads_24 ?_
  refine lv_iload_n hx hb dX4_reads_27 rfl (lv_at hl 0 rfl) ?_
  refine x_iald X hw 3 ⟨Nat.le_of_ble_eq_true rfl, Nat.le_of_ble_eq_true rfl⟩ rfl h4 ((S1 0 2).toNatClampNeg) rfl dX4_reads_28 ?_
  obtain ⟨r7, h6, hf⟩ := b1_s hf
  refine kSi X hw (c_X4_isLand l D cI cO ad (S5 3 ((S1 0 2).toNatClampNeg)) S5 r7 h6) ⟨rfl, rfl⟩ q705 q706 q64 q707 hd_X4_isLand ⟨Nat.le_of_ble_eq_true rfl, Nat.le_of_ble_eq_true rfl⟩ rfl hl.1 rfl (Nat.le_of_ble_eq_true rfl) dX4_reads_29 (fun H locs hw => ?_)
  refine lv_if_ne (tgt := 37) hx hb dX4_reads_32 (by decide) (fun c8 => ?_) (fun c8 => ?_)
  · replace hf := if_f c8 hf
    refine lv_aload_n hx hb dX4_reads_37 rfl (lv_at hl 1 rfl) ?_
    refine lv_dup hx hb dX4_reads_38 rfl ?_
    refine x_get X hw 5 (Nat.le_of_ble_eq_true rfl) ce5 rfl i_X4 14 (by decide) q604 ⟨rfl, rfl, rfl⟩ rfl dX4_reads_39 ?_
    refine lv_iconst (v := 1) hx hb dX4_reads_42 (by decide) ?_
    refine lv_iadd hx hb dX4_reads_43 ?_
    refine x_put X hw 5 (Nat.le_of_ble_eq_true rfl) ce5 rfl i_X4 tyX4_ok nmX4 14 (by decide) q604 ⟨rfl, rfl, rfl⟩ rfl pfI rfl rfl (Nat.le_of_ble_eq_true rfl) 1 (ws_1 _) dX4_reads_44 (fun S9 eS9 H locs hw => ?_)
    replace hf := lt_e eS9 hf
    refine lv_aload_n hx hb dX4_reads_47 rfl (lv_at hl 1 rfl) ?_
    obtain ⟨r11, h10, hf⟩ := b1_s hf
    refine kVi X hw (c_X4_sign l D cI cO ad  S9 r11 h10) (Nat.le_of_ble_eq_true rfl) ce5 rfl ⟨rfl, rfl⟩ q701 q703 q36 q64 q704 hd_X4_sign ⟨Nat.le_of_ble_eq_true rfl, Nat.le_of_ble_eq_true rfl⟩ rfl hl.1 rfl (Nat.le_of_ble_eq_true rfl) dX4_reads_48 (fun H locs hw => ?_)
    refine lv_istore_n (lv' := [(2, .int r11), (1, .int (S1 0 2)), (0, .ref (ad 5))]) hx hb dX4_reads_51 rfl hl (by decide) rfl (fun ls hl => ?_)
    refine lv_aload_n hx hb dX4_reads_52 rfl (lv_at hl 2 rfl) ?_
    refine x_get X hw 5 (Nat.le_of_ble_eq_true rfl) ce5 rfl i_X4 3 (by decide) q593 ⟨rfl, rfl, rfl⟩ rfl dX4_reads_53 ?_
    refine lv_iload_n hx hb dX4_reads_56 rfl (lv_at hl 1 rfl) ?_
    refine lv_iload_n hx hb dX4_reads_57 rfl (lv_at hl 0 rfl) ?_
    refine lv_bipush (v := 115) hx hb dX4_reads_58 (by decide +kernel) ?_
    refine lv_icmp_ne (tgt := 67) hx hb dX4_reads_60 (by decide) (fun c12 => ?_) (fun c12 => ?_)
    · replace hf := if_f c12 hf
      refine lv_iload_n hx hb dX4_reads_67 rfl (lv_at hl 0 rfl) ?_
      refine lv_bipush (v := 102) hx hb dX4_reads_68 (by decide +kernel) ?_
      refine lv_icmp_ne (tgt := 77) hx hb dX4_reads_70 (by decide) (fun c13 => ?_) (fun c13 => ?_)
      · replace hf := if_f c13 hf
        refine lv_iload_n hx hb dX4_reads_77 rfl (lv_at hl 0 rfl) ?_
        refine lv_bipush (v := 97) hx hb dX4_reads_78 (by decide +kernel) ?_
        refine lv_icmp_ne (tgt := 87) hx hb dX4_reads_80 (by decide) (fun c14 => ?_) (fun c14 => ?_)
        · replace hf := if_f c14 hf
          refine lv_iload_n hx hb dX4_reads_87 rfl (lv_at hl 0 rfl) ?_
          refine lv_bipush (v := 98) hx hb dX4_reads_88 (by decide +kernel) ?_
          refine lv_icmp_ne (tgt := 97) hx hb dX4_reads_90 (by decide) (fun c15 => ?_) (fun c15 => ?_)
          · replace hf := if_f c15 hf
            refine lv_iconst (v := -1) hx hb dX4_reads_97 (by decide) ?_
            exact J98 (S1 0 2) (S1 0 2) (-1 : Int32) S9 hf _ _ _ hw (lv_sub hl [2, 1] rfl)
          · replace hf := if_t c15 hf
            refine lv_iconst (v := 3) hx hb dX4_reads_93 (by decide) ?_
            refine lv_goto (tgt := 98) hx hb dX4_reads_94 (by decide) ?_
            exact J98 (S1 0 2) (S1 0 2) (3 : Int32) S9 hf _ _ _ hw (lv_sub hl [2, 1] rfl)
        · replace hf := if_t c14 hf
          refine lv_iconst (v := 2) hx hb dX4_reads_83 (by decide) ?_
          refine lv_goto (tgt := 98) hx hb dX4_reads_84 (by decide) ?_
          exact J98 (S1 0 2) (S1 0 2) (2 : Int32) S9 hf _ _ _ hw (lv_sub hl [2, 1] rfl)
      · replace hf := if_t c13 hf
        refine lv_iconst (v := 1) hx hb dX4_reads_73 (by decide) ?_
        refine lv_goto (tgt := 98) hx hb dX4_reads_74 (by decide) ?_
        exact J98 (S1 0 2) (S1 0 2) (1 : Int32) S9 hf _ _ _ hw (lv_sub hl [2, 1] rfl)
    · replace hf := if_t c12 hf
      refine lv_iconst (v := 0) hx hb dX4_reads_63 (by decide) ?_
      refine lv_goto (tgt := 98) hx hb dX4_reads_64 (by decide) ?_
      exact J98 (S1 0 2) (S1 0 2) (0 : Int32) S9 hf _ _ _ hw (lv_sub hl [2, 1] rfl)
  · replace hf := if_t c8 hf
    refine lv_iconst (v := 0) hx hb dX4_reads_35 (by decide) ?_
    exact hfin _ _ _ _ _ _ hw (s2a hf) (s2b hf) rfl dX4_reads_36
/-- NineLandsModel.spell()I -/
theorem dX4_spell_0 : decode cX4_spell 0 = .ok (.aload_n 0, 1) := by decide +kernel
theorem dX4_spell_1 : decode cX4_spell 1 = .ok (.getfield 102, 3) := by decide +kernel
theorem dX4_spell_4 : decode cX4_spell 4 = .ok (.bipush 20, 2) := by decide +kernel
theorem dX4_spell_6 : decode cX4_spell 6 = .ok (.if_icmp .ne 10, 3) := by decide +kernel
theorem dX4_spell_9 : decode cX4_spell 9 = .ok (.aload_n 0, 1) := by decide +kernel
theorem dX4_spell_10 : decode cX4_spell 10 = .ok (.bipush (-6), 2) := by decide +kernel
theorem dX4_spell_12 : decode cX4_spell 12 = .ok (.invokevirtual 85, 3) := by decide +kernel
theorem dX4_spell_15 : decode cX4_spell 15 = .ok (.ireturn, 1) := by decide +kernel
theorem dX4_spell_16 : decode cX4_spell 16 = .ok (.aload_n 0, 1) := by decide +kernel
theorem dX4_spell_17 : decode cX4_spell 17 = .ok (.invokevirtual 115, 3) := by decide +kernel
theorem dX4_spell_20 : decode cX4_spell 20 = .ok (.istore_n 1, 1) := by decide +kernel
theorem dX4_spell_21 : decode cX4_spell 21 = .ok (.aload_n 0, 1) := by decide +kernel
theorem dX4_spell_22 : decode cX4_spell 22 = .ok (.iconst 0, 1) := by decide +kernel
theorem dX4_spell_23 : decode cX4_spell 23 = .ok (.putfield 82, 3) := by decide +kernel
theorem dX4_spell_26 : decode cX4_spell 26 = .ok (.iload_n 1, 1) := by decide +kernel
theorem dX4_spell_27 : decode cX4_spell 27 = .ok (.ifCond .ne 11, 3) := by decide +kernel
theorem dX4_spell_30 : decode cX4_spell 30 = .ok (.bipush (-20), 2) := by decide +kernel
theorem dX4_spell_32 : decode cX4_spell 32 = .ok (.aload_n 0, 1) := by decide +kernel
theorem dX4_spell_33 : decode cX4_spell 33 = .ok (.getfield 91, 3) := by decide +kernel
theorem dX4_spell_36 : decode cX4_spell 36 = .ok (.isub, 1) := by decide +kernel
theorem dX4_spell_37 : decode cX4_spell 37 = .ok (.ireturn, 1) := by decide +kernel
theorem dX4_spell_38 : decode cX4_spell 38 = .ok (.aload_n 0, 1) := by decide +kernel
theorem dX4_spell_39 : decode cX4_spell 39 = .ok (.getfield 34, 3) := by decide +kernel
theorem dX4_spell_42 : decode cX4_spell 42 = .ok (.aload_n 0, 1) := by decide +kernel
theorem dX4_spell_43 : decode cX4_spell 43 = .ok (.getfield 102, 3) := by decide +kernel
theorem dX4_spell_46 : decode cX4_spell 46 = .ok (.iconst 1, 1) := by decide +kernel
theorem dX4_spell_47 : decode cX4_spell 47 = .ok (.iastore, 1) := by decide +kernel
theorem dX4_spell_48 : decode cX4_spell 48 = .ok (.aload_n 0, 1) := by decide +kernel
theorem dX4_spell_49 : decode cX4_spell 49 = .ok (.dup, 1) := by decide +kernel
theorem dX4_spell_50 : decode cX4_spell 50 = .ok (.getfield 102, 3) := by decide +kernel
theorem dX4_spell_53 : decode cX4_spell 53 = .ok (.iconst 1, 1) := by decide +kernel
theorem dX4_spell_54 : decode cX4_spell 54 = .ok (.iadd, 1) := by decide +kernel
theorem dX4_spell_55 : decode cX4_spell 55 = .ok (.putfield 102, 3) := by decide +kernel
theorem dX4_spell_58 : decode cX4_spell 58 = .ok (.aload_n 0, 1) := by decide +kernel
theorem dX4_spell_59 : decode cX4_spell 59 = .ok (.getfield 102, 3) := by decide +kernel
theorem dX4_spell_62 : decode cX4_spell 62 = .ok (.iconst 1, 1) := by decide +kernel
theorem dX4_spell_63 : decode cX4_spell 63 = .ok (.isub, 1) := by decide +kernel
theorem dX4_spell_64 : decode cX4_spell 64 = .ok (.ireturn, 1) := by decide +kernel
theorem hd_X4_spell : yX4_spell.cls ≠ "java/lang/invoke/MethodHandle" ∧ yX4_spell.cls ≠ "java/lang/invoke/VarHandle" ∧ (parseMethodDescriptor yX4_spell.desc).map (fun d => d.parameters.length) = some 0 := by decide +kernel
def f_X4_spell  (S : vS) : Option (Int32 × vS) := if (S 0 2) = (20 : Int32) then b2 (f_X4_no (-6 : Int32) S) fun r12 S11 => some (r12, S11) else b2 (f_X4_reads  S) fun r4 S3 => lt (upk S3 0 (upd (S3 0) 0 (0 : Int32))) fun S5 => if r4 = 0 then some (((-20 : Int32) - (S5 0 1)), S5) else if inb (S5 0 2) 21 = true then lt (upk S5 9 (upd (S5 9) ((S5 0 2).toNatClampNeg) (1 : Int32))) fun S8 => lt (upk S8 0 (upd (S8 0) 2 ((S8 0 2) + (1 : Int32)))) fun S9 => some (((S9 0 2) - (1 : Int32)), S9) else none
set_option maxHeartbeats 4000000 in
set_option maxRecDepth 20000 in
theorem c_X4_spell (l : Launch) (D : va_G) (cI cO : ClassId) (ad : Nat → Nat)  (S : vS) (R9 : Int32) (S9 : vS) (hf : f_X4_spell  S = some (R9, S9)) : CI l yX4_spell cX4_spell 2 .int ({ frames := 3, cells := 0, slots := 0, locals := 67 }) [.ref (ad 5)] D cI cO ad S R9 S9 := by
  refine CI.of (by decide +kernel) (Nat.le_of_ble_eq_true rfl) (fun p e s m args below meth c Q ls X hl hw hfin => ?_)
  have hl : lv_has ls 2 [(0, .ref (ad 5))] := hl
  have hx := X.1
  have hb := X.2.1
  unfold f_X4_spell at hf
  refine lv_aload_n hx hb dX4_spell_0 rfl (lv_at hl 0 rfl) ?_
  refine x_get X hw 5 (Nat.le_of_ble_eq_true rfl) ce5 rfl i_X4 15 (by decide) q605 ⟨rfl, rfl, rfl⟩ rfl dX4_spell_1 ?_
  refine lv_bipush (v := 20) hx hb dX4_spell_4 (by decide +kernel) ?_
  refine lv_icmp_ne (tgt := 16) hx hb dX4_spell_6 (by decide) (fun c1 => ?_) (fun c1 => ?_)
  · replace hf := if_f c1 hf
    refine lv_aload_n hx hb dX4_spell_16 rfl (lv_at hl 0 rfl) ?_
    obtain ⟨r4, S3, h2, hf⟩ := b2_s hf
    refine kVi X hw (c_X4_reads l D cI cO ad  S r4 S3 h2) (Nat.le_of_ble_eq_true rfl) ce5 rfl ⟨rfl, rfl⟩ q697 q699 q35 q64 q700 hd_X4_reads ⟨Nat.le_of_ble_eq_true rfl, Nat.le_of_ble_eq_true rfl⟩ rfl hl.1 rfl (Nat.le_of_ble_eq_true rfl) dX4_spell_17 (fun H locs hw => ?_)
    refine lv_istore_n (lv' := [(1, .int r4), (0, .ref (ad 5))]) hx hb dX4_spell_20 rfl hl (by decide) rfl (fun ls hl => ?_)
    refine lv_aload_n hx hb dX4_spell_21 rfl (lv_at hl 1 rfl) ?_
    refine lv_iconst (v := 0) hx hb dX4_spell_22 (by decide) ?_
    refine x_put X hw 5 (Nat.le_of_ble_eq_true rfl) ce5 rfl i_X4 tyX4_ok nmX4 13 (by decide) q603 ⟨rfl, rfl, rfl⟩ rfl pfI rfl rfl (Nat.le_of_ble_eq_true rfl) 0 (ws_0 _) dX4_spell_23 (fun S5 eS5 H locs hw => ?_)
    replace hf := lt_e eS5 hf
    refine lv_iload_n hx hb dX4_spell_26 rfl (lv_at hl 0 rfl) ?_
    refine lv_if_ne (tgt := 38) hx hb dX4_spell_27 (by decide) (fun c6 => ?_) (fun c6 => ?_)
    · replace hf := if_f c6 hf
      refine lv_aload_n hx hb dX4_spell_38 rfl (lv_at hl 1 rfl) ?_
      refine x_get X hw 5 (Nat.le_of_ble_eq_true rfl) ce5 rfl i_X4 8 (by decide) q598 ⟨rfl, rfl, rfl⟩ rfl dX4_spell_39 ?_
      refine lv_aload_n hx hb dX4_spell_42 rfl (lv_at hl 1 rfl) ?_
      refine x_get X hw 5 (Nat.le_of_ble_eq_true rfl) ce5 rfl i_X4 15 (by decide) q605 ⟨rfl, rfl, rfl⟩ rfl dX4_spell_43 ?_
      refine lv_iconst (v := 1) hx hb dX4_spell_46 (by decide) ?_
      obtain ⟨h7, hf⟩ := if_s hf
      refine x_iast X hw 9 ⟨Nat.le_of_ble_eq_true rfl, Nat.le_of_ble_eq_true rfl⟩ rfl h7 ((S5 0 2).toNatClampNeg) rfl dX4_spell_47 (fun S8 eS8 H locs hw => ?_)
      replace hf := lt_e eS8 hf
      refine lv_aload_n hx hb dX4_spell_48 rfl (lv_at hl 1 rfl) ?_
      refine lv_dup hx hb dX4_spell_49 rfl ?_
      refine x_get X hw 5 (Nat.le_of_ble_eq_true rfl) ce5 rfl i_X4 15 (by decide) q605 ⟨rfl, rfl, rfl⟩ rfl dX4_spell_50 ?_
      refine lv_iconst (v := 1) hx hb dX4_spell_53 (by decide) ?_
      refine lv_iadd hx hb dX4_spell_54 ?_
      refine x_put X hw 5 (Nat.le_of_ble_eq_true rfl) ce5 rfl i_X4 tyX4_ok nmX4 15 (by decide) q605 ⟨rfl, rfl, rfl⟩ rfl pfI rfl rfl (Nat.le_of_ble_eq_true rfl) 2 (ws_2 _) dX4_spell_55 (fun S9 eS9 H locs hw => ?_)
      replace hf := lt_e eS9 hf
      refine lv_aload_n hx hb dX4_spell_58 rfl (lv_at hl 1 rfl) ?_
      refine x_get X hw 5 (Nat.le_of_ble_eq_true rfl) ce5 rfl i_X4 15 (by decide) q605 ⟨rfl, rfl, rfl⟩ rfl dX4_spell_59 ?_
      refine lv_iconst (v := 1) hx hb dX4_spell_62 (by decide) ?_
      refine lv_isub hx hb dX4_spell_63 ?_
      exact hfin _ _ _ _ _ _ hw (s2a hf) (s2b hf) (narI _) dX4_spell_64
    · replace hf := if_t c6 hf
      refine lv_bipush (v := -20) hx hb dX4_spell_30 (by decide +kernel) ?_
      refine lv_aload_n hx hb dX4_spell_32 rfl (lv_at hl 1 rfl) ?_
      refine x_get X hw 5 (Nat.le_of_ble_eq_true rfl) ce5 rfl i_X4 14 (by decide) q604 ⟨rfl, rfl, rfl⟩ rfl dX4_spell_33 ?_
      refine lv_isub hx hb dX4_spell_36 ?_
      exact hfin _ _ _ _ _ _ hw (s2a hf) (s2b hf) (narI _) dX4_spell_37
  · replace hf := if_t c1 hf
    refine lv_aload_n hx hb dX4_spell_9 rfl (lv_at hl 0 rfl) ?_
    refine lv_bipush (v := -6) hx hb dX4_spell_10 (by decide +kernel) ?_
    obtain ⟨r12, S11, h10, hf⟩ := b2_s hf
    refine kVi X hw (c_X4_no l D cI cO ad (-6 : Int32) S r12 S11 h10) (Nat.le_of_ble_eq_true rfl) ce5 rfl ⟨rfl, rfl⟩ q688 q690 q34 q64 q691 hd_X4_no ⟨Nat.le_of_ble_eq_true rfl, Nat.le_of_ble_eq_true rfl⟩ rfl hl.1 rfl (Nat.le_of_ble_eq_true rfl) dX4_spell_12 (fun H locs hw => ?_)
    exact hfin _ _ _ _ _ _ hw (s2a hf) (s2b hf) (narI _) dX4_spell_15
/-- NineLandsModel.isSpell(I)Z -/
theorem dX4_isSpell_0 : decode cX4_isSpell 0 = .ok (.iload_n 1, 1) := by decide +kernel
theorem dX4_isSpell_1 : decode cX4_isSpell 1 = .ok (.ifCond .lt 15, 3) := by decide +kernel
theorem dX4_isSpell_4 : decode cX4_isSpell 4 = .ok (.iload_n 1, 1) := by decide +kernel
theorem dX4_isSpell_5 : decode cX4_isSpell 5 = .ok (.aload_n 0, 1) := by decide +kernel
theorem dX4_isSpell_6 : decode cX4_isSpell 6 = .ok (.getfield 102, 3) := by decide +kernel
theorem dX4_isSpell_9 : decode cX4_isSpell 9 = .ok (.if_icmp .ge 7, 3) := by decide +kernel
theorem dX4_isSpell_12 : decode cX4_isSpell 12 = .ok (.iconst 1, 1) := by decide +kernel
theorem dX4_isSpell_13 : decode cX4_isSpell 13 = .ok (.goto 4, 3) := by decide +kernel
theorem dX4_isSpell_16 : decode cX4_isSpell 16 = .ok (.iconst 0, 1) := by decide +kernel
theorem dX4_isSpell_17 : decode cX4_isSpell 17 = .ok (.ireturn, 1) := by decide +kernel
theorem hd_X4_isSpell : yX4_isSpell.cls ≠ "java/lang/invoke/MethodHandle" ∧ yX4_isSpell.cls ≠ "java/lang/invoke/VarHandle" ∧ (parseMethodDescriptor yX4_isSpell.desc).map (fun d => d.parameters.length) = some 1 := by decide +kernel
def f_X4_isSpell (a1 : Int32) (S : vS) : Option Int32 := if a1 < 0 then some (0 : Int32) else if (S 0 2) ≤ a1 then some (0 : Int32) else some (1 : Int32)
set_option maxHeartbeats 4000000 in
set_option maxRecDepth 20000 in
theorem c_X4_isSpell (l : Launch) (D : va_G) (cI cO : ClassId) (ad : Nat → Nat) (a1 : Int32) (S : vS) (R9 : Int32) (hf : f_X4_isSpell a1 S = some R9) : CI l yX4_isSpell cX4_isSpell 2 .boolean ({ frames := 0, cells := 0, slots := 0, locals := 0 }) [.ref (ad 5), .int a1] D cI cO ad S R9 S := by
  refine CI.of (by decide +kernel) (Nat.le_of_ble_eq_true rfl) (fun p e s m args below meth c Q ls X hl hw hfin => ?_)
  have hl : lv_has ls 2 [(0, .ref (ad 5)), (1, .int a1)] := hl
  have hx := X.1
  have hb := X.2.1
  unfold f_X4_isSpell at hf
  refine lv_iload_n hx hb dX4_isSpell_0 rfl (lv_at hl 1 rfl) ?_
  refine lv_if_lt (tgt := 16) hx hb dX4_isSpell_1 (by decide) (fun c1 => ?_) (fun c1 => ?_)
  · replace hf := if_t c1 hf
    refine lv_iconst (v := 0) hx hb dX4_isSpell_16 (by decide) ?_
    exact hfin _ _ _ _ _ _ hw (Option.some.inj hf) rfl rfl dX4_isSpell_17
  · replace hf := if_f c1 hf
    refine lv_iload_n hx hb dX4_isSpell_4 rfl (lv_at hl 1 rfl) ?_
    refine lv_aload_n hx hb dX4_isSpell_5 rfl (lv_at hl 0 rfl) ?_
    refine x_get X hw 5 (Nat.le_of_ble_eq_true rfl) ce5 rfl i_X4 15 (by decide) q605 ⟨rfl, rfl, rfl⟩ rfl dX4_isSpell_6 ?_
    refine lv_icmp_ge (tgt := 16) hx hb dX4_isSpell_9 (by decide) (fun c2 => ?_) (fun c2 => ?_)
    · replace hf := if_t c2 hf
      refine lv_iconst (v := 0) hx hb dX4_isSpell_16 (by decide) ?_
      exact hfin _ _ _ _ _ _ hw (Option.some.inj hf) rfl rfl dX4_isSpell_17
    · replace hf := if_f c2 hf
      refine lv_iconst (v := 1) hx hb dX4_isSpell_12 (by decide) ?_
      refine lv_goto (tgt := 17) hx hb dX4_isSpell_13 (by decide) ?_
      exact hfin _ _ _ _ _ _ hw (Option.some.inj hf) rfl rfl dX4_isSpell_17
/-- NineLandsModel.spellOf(II)I -/
theorem dX4_spellOf_0 : decode cX4_spellOf 0 = .ok (.aload_n 0, 1) := by decide +kernel
theorem dX4_spellOf_1 : decode cX4_spellOf 1 = .ok (.iload_n 1, 1) := by decide +kernel
theorem dX4_spellOf_2 : decode cX4_spellOf 2 = .ok (.invokevirtual 119, 3) := by decide +kernel
theorem dX4_spellOf_5 : decode cX4_spellOf 5 = .ok (.ifCond .ne 9, 3) := by decide +kernel
theorem dX4_spellOf_8 : decode cX4_spellOf 8 = .ok (.aload_n 0, 1) := by decide +kernel
theorem dX4_spellOf_9 : decode cX4_spellOf 9 = .ok (.iconst (-1), 1) := by decide +kernel
theorem dX4_spellOf_10 : decode cX4_spellOf 10 = .ok (.invokevirtual 85, 3) := by decide +kernel
theorem dX4_spellOf_13 : decode cX4_spellOf 13 = .ok (.ireturn, 1) := by decide +kernel
theorem dX4_spellOf_14 : decode cX4_spellOf 14 = .ok (.iload_n 2, 1) := by decide +kernel
theorem dX4_spellOf_15 : decode cX4_spellOf 15 = .ok (.tableswitch 90 0 6 #[41, 48, 55, 62, 69, 76, 83], 41) := by decide +kernel
theorem dX4_spellOf_56 : decode cX4_spellOf 56 = .ok (.aload_n 0, 1) := by decide +kernel
theorem dX4_spellOf_57 : decode cX4_spellOf 57 = .ok (.getfield 16, 3) := by decide +kernel
theorem dX4_spellOf_60 : decode cX4_spellOf 60 = .ok (.iload_n 1, 1) := by decide +kernel
theorem dX4_spellOf_61 : decode cX4_spellOf 61 = .ok (.iaload, 1) := by decide +kernel
theorem dX4_spellOf_62 : decode cX4_spellOf 62 = .ok (.ireturn, 1) := by decide +kernel
theorem dX4_spellOf_63 : decode cX4_spellOf 63 = .ok (.aload_n 0, 1) := by decide +kernel
theorem dX4_spellOf_64 : decode cX4_spellOf 64 = .ok (.getfield 19, 3) := by decide +kernel
theorem dX4_spellOf_67 : decode cX4_spellOf 67 = .ok (.iload_n 1, 1) := by decide +kernel
theorem dX4_spellOf_68 : decode cX4_spellOf 68 = .ok (.iaload, 1) := by decide +kernel
theorem dX4_spellOf_69 : decode cX4_spellOf 69 = .ok (.ireturn, 1) := by decide +kernel
theorem dX4_spellOf_70 : decode cX4_spellOf 70 = .ok (.aload_n 0, 1) := by decide +kernel
theorem dX4_spellOf_71 : decode cX4_spellOf 71 = .ok (.getfield 22, 3) := by decide +kernel
theorem dX4_spellOf_74 : decode cX4_spellOf 74 = .ok (.iload_n 1, 1) := by decide +kernel
theorem dX4_spellOf_75 : decode cX4_spellOf 75 = .ok (.iaload, 1) := by decide +kernel
theorem dX4_spellOf_76 : decode cX4_spellOf 76 = .ok (.ireturn, 1) := by decide +kernel
theorem dX4_spellOf_77 : decode cX4_spellOf 77 = .ok (.aload_n 0, 1) := by decide +kernel
theorem dX4_spellOf_78 : decode cX4_spellOf 78 = .ok (.getfield 25, 3) := by decide +kernel
theorem dX4_spellOf_81 : decode cX4_spellOf 81 = .ok (.iload_n 1, 1) := by decide +kernel
theorem dX4_spellOf_82 : decode cX4_spellOf 82 = .ok (.iaload, 1) := by decide +kernel
theorem dX4_spellOf_83 : decode cX4_spellOf 83 = .ok (.ireturn, 1) := by decide +kernel
theorem dX4_spellOf_84 : decode cX4_spellOf 84 = .ok (.aload_n 0, 1) := by decide +kernel
theorem dX4_spellOf_85 : decode cX4_spellOf 85 = .ok (.getfield 28, 3) := by decide +kernel
theorem dX4_spellOf_88 : decode cX4_spellOf 88 = .ok (.iload_n 1, 1) := by decide +kernel
theorem dX4_spellOf_89 : decode cX4_spellOf 89 = .ok (.iaload, 1) := by decide +kernel
theorem dX4_spellOf_90 : decode cX4_spellOf 90 = .ok (.ireturn, 1) := by decide +kernel
theorem dX4_spellOf_91 : decode cX4_spellOf 91 = .ok (.aload_n 0, 1) := by decide +kernel
theorem dX4_spellOf_92 : decode cX4_spellOf 92 = .ok (.getfield 31, 3) := by decide +kernel
theorem dX4_spellOf_95 : decode cX4_spellOf 95 = .ok (.iload_n 1, 1) := by decide +kernel
theorem dX4_spellOf_96 : decode cX4_spellOf 96 = .ok (.iaload, 1) := by decide +kernel
theorem dX4_spellOf_97 : decode cX4_spellOf 97 = .ok (.ireturn, 1) := by decide +kernel
theorem dX4_spellOf_98 : decode cX4_spellOf 98 = .ok (.aload_n 0, 1) := by decide +kernel
theorem dX4_spellOf_99 : decode cX4_spellOf 99 = .ok (.getfield 34, 3) := by decide +kernel
theorem dX4_spellOf_102 : decode cX4_spellOf 102 = .ok (.iload_n 1, 1) := by decide +kernel
theorem dX4_spellOf_103 : decode cX4_spellOf 103 = .ok (.iaload, 1) := by decide +kernel
theorem dX4_spellOf_104 : decode cX4_spellOf 104 = .ok (.ireturn, 1) := by decide +kernel
theorem dX4_spellOf_105 : decode cX4_spellOf 105 = .ok (.aload_n 0, 1) := by decide +kernel
theorem dX4_spellOf_106 : decode cX4_spellOf 106 = .ok (.bipush (-2), 2) := by decide +kernel
theorem dX4_spellOf_108 : decode cX4_spellOf 108 = .ok (.invokevirtual 85, 3) := by decide +kernel
theorem dX4_spellOf_111 : decode cX4_spellOf 111 = .ok (.ireturn, 1) := by decide +kernel
theorem hd_X4_spellOf : yX4_spellOf.cls ≠ "java/lang/invoke/MethodHandle" ∧ yX4_spellOf.cls ≠ "java/lang/invoke/VarHandle" ∧ (parseMethodDescriptor yX4_spellOf.desc).map (fun d => d.parameters.length) = some 2 := by decide +kernel
def f_X4_spellOf (a1 : Int32) (a2 : Int32) (S : vS) : Option (Int32 × vS) := b1 (f_X4_isSpell a1 S) fun r2 => if r2 = 0 then b2 (f_X4_no (-1 : Int32) S) fun r23 S22 => some (r23, S22) else if a2 = (0 : Int32) then if inb a1 21 = true then some ((S 3 (a1.toNatClampNeg)), S) else none else if a2 = (1 : Int32) then if inb a1 21 = true then some ((S 4 (a1.toNatClampNeg)), S) else none else if a2 = (2 : Int32) then if inb a1 21 = true then some ((S 5 (a1.toNatClampNeg)), S) else none else if a2 = (3 : Int32) then if inb a1 21 = true then some ((S 6 (a1.toNatClampNeg)), S) else none else if a2 = (4 : Int32) then if inb a1 21 = true then some ((S 7 (a1.toNatClampNeg)), S) else none else if a2 = (5 : Int32) then if inb a1 21 = true then some ((S 8 (a1.toNatClampNeg)), S) else none else if a2 = (6 : Int32) then if inb a1 21 = true then some ((S 9 (a1.toNatClampNeg)), S) else none else b2 (f_X4_no (-2 : Int32) S) fun r20 S19 => some (r20, S19)
set_option maxHeartbeats 4000000 in
set_option maxRecDepth 20000 in
theorem c_X4_spellOf (l : Launch) (D : va_G) (cI cO : ClassId) (ad : Nat → Nat) (a1 : Int32) (a2 : Int32) (S : vS) (R9 : Int32) (S9 : vS) (hf : f_X4_spellOf a1 a2 S = some (R9, S9)) : CI l yX4_spellOf cX4_spellOf 3 .int ({ frames := 1, cells := 0, slots := 0, locals := 21 }) [.ref (ad 5), .int a1, .int a2] D cI cO ad S R9 S9 := by
  refine CI.of (by decide +kernel) (Nat.le_of_ble_eq_true rfl) (fun p e s m args below meth c Q ls X hl hw hfin => ?_)
  have hl : lv_has ls 3 [(0, .ref (ad 5)), (1, .int a1), (2, .int a2)] := hl
  have hx := X.1
  have hb := X.2.1
  unfold f_X4_spellOf at hf
  refine lv_aload_n hx hb dX4_spellOf_0 rfl (lv_at hl 0 rfl) ?_
  refine lv_iload_n hx hb dX4_spellOf_1 rfl (lv_at hl 1 rfl) ?_
  obtain ⟨r2, h1, hf⟩ := b1_s hf
  refine kVi X hw (c_X4_isSpell l D cI cO ad a1 S r2 h1) (Nat.le_of_ble_eq_true rfl) ce5 rfl ⟨rfl, rfl⟩ q723 q725 q39 q64 q726 hd_X4_isSpell ⟨Nat.le_of_ble_eq_true rfl, Nat.le_of_ble_eq_true rfl⟩ rfl hl.1 rfl (Nat.le_of_ble_eq_true rfl) dX4_spellOf_2 (fun H locs hw => ?_)
  refine lv_if_ne (tgt := 14) hx hb dX4_spellOf_5 (by decide) (fun c3 => ?_) (fun c3 => ?_)
  · replace hf := if_f c3 hf
    refine lv_iload_n hx hb dX4_spellOf_14 rfl (lv_at hl 2 rfl) ?_
    by_cases c4 : a2 = (0 : Int32)
    · replace hf := if_t c4 hf
      refine lv_tableIn (off := 41) (tgt := 56) hx hb dX4_spellOf_15 (by rw [c4]; decide) (by rw [c4]; decide) (by rw [c4]; rfl) (by decide) ?_
      refine lv_aload_n hx hb dX4_spellOf_56 rfl (lv_at hl 0 rfl) ?_
      refine x_get X hw 5 (Nat.le_of_ble_eq_true rfl) ce5 rfl i_X4 2 (by decide) q592 ⟨rfl, rfl, rfl⟩ rfl dX4_spellOf_57 ?_
      refine lv_iload_n hx hb dX4_spellOf_60 rfl (lv_at hl 1 rfl) ?_
      obtain ⟨h5, hf⟩ := if_s hf
      refine x_iald X hw 3 ⟨Nat.le_of_ble_eq_true rfl, Nat.le_of_ble_eq_true rfl⟩ rfl h5 (a1.toNatClampNeg) rfl dX4_spellOf_61 ?_
      exact hfin _ _ _ _ _ _ hw (s2a hf) (s2b hf) (narI _) dX4_spellOf_62
    · replace hf := if_f c4 hf
      by_cases c6 : a2 = (1 : Int32)
      · replace hf := if_t c6 hf
        refine lv_tableIn (off := 48) (tgt := 63) hx hb dX4_spellOf_15 (by rw [c6]; decide) (by rw [c6]; decide) (by rw [c6]; rfl) (by decide) ?_
        refine lv_aload_n hx hb dX4_spellOf_63 rfl (lv_at hl 0 rfl) ?_
        refine x_get X hw 5 (Nat.le_of_ble_eq_true rfl) ce5 rfl i_X4 3 (by decide) q593 ⟨rfl, rfl, rfl⟩ rfl dX4_spellOf_64 ?_
        refine lv_iload_n hx hb dX4_spellOf_67 rfl (lv_at hl 1 rfl) ?_
        obtain ⟨h7, hf⟩ := if_s hf
        refine x_iald X hw 4 ⟨Nat.le_of_ble_eq_true rfl, Nat.le_of_ble_eq_true rfl⟩ rfl h7 (a1.toNatClampNeg) rfl dX4_spellOf_68 ?_
        exact hfin _ _ _ _ _ _ hw (s2a hf) (s2b hf) (narI _) dX4_spellOf_69
      · replace hf := if_f c6 hf
        by_cases c8 : a2 = (2 : Int32)
        · replace hf := if_t c8 hf
          refine lv_tableIn (off := 55) (tgt := 70) hx hb dX4_spellOf_15 (by rw [c8]; decide) (by rw [c8]; decide) (by rw [c8]; rfl) (by decide) ?_
          refine lv_aload_n hx hb dX4_spellOf_70 rfl (lv_at hl 0 rfl) ?_
          refine x_get X hw 5 (Nat.le_of_ble_eq_true rfl) ce5 rfl i_X4 4 (by decide) q594 ⟨rfl, rfl, rfl⟩ rfl dX4_spellOf_71 ?_
          refine lv_iload_n hx hb dX4_spellOf_74 rfl (lv_at hl 1 rfl) ?_
          obtain ⟨h9, hf⟩ := if_s hf
          refine x_iald X hw 5 ⟨Nat.le_of_ble_eq_true rfl, Nat.le_of_ble_eq_true rfl⟩ rfl h9 (a1.toNatClampNeg) rfl dX4_spellOf_75 ?_
          exact hfin _ _ _ _ _ _ hw (s2a hf) (s2b hf) (narI _) dX4_spellOf_76
        · replace hf := if_f c8 hf
          by_cases c10 : a2 = (3 : Int32)
          · replace hf := if_t c10 hf
            refine lv_tableIn (off := 62) (tgt := 77) hx hb dX4_spellOf_15 (by rw [c10]; decide) (by rw [c10]; decide) (by rw [c10]; rfl) (by decide) ?_
            refine lv_aload_n hx hb dX4_spellOf_77 rfl (lv_at hl 0 rfl) ?_
            refine x_get X hw 5 (Nat.le_of_ble_eq_true rfl) ce5 rfl i_X4 5 (by decide) q595 ⟨rfl, rfl, rfl⟩ rfl dX4_spellOf_78 ?_
            refine lv_iload_n hx hb dX4_spellOf_81 rfl (lv_at hl 1 rfl) ?_
            obtain ⟨h11, hf⟩ := if_s hf
            refine x_iald X hw 6 ⟨Nat.le_of_ble_eq_true rfl, Nat.le_of_ble_eq_true rfl⟩ rfl h11 (a1.toNatClampNeg) rfl dX4_spellOf_82 ?_
            exact hfin _ _ _ _ _ _ hw (s2a hf) (s2b hf) (narI _) dX4_spellOf_83
          · replace hf := if_f c10 hf
            by_cases c12 : a2 = (4 : Int32)
            · replace hf := if_t c12 hf
              refine lv_tableIn (off := 69) (tgt := 84) hx hb dX4_spellOf_15 (by rw [c12]; decide) (by rw [c12]; decide) (by rw [c12]; rfl) (by decide) ?_
              refine lv_aload_n hx hb dX4_spellOf_84 rfl (lv_at hl 0 rfl) ?_
              refine x_get X hw 5 (Nat.le_of_ble_eq_true rfl) ce5 rfl i_X4 6 (by decide) q596 ⟨rfl, rfl, rfl⟩ rfl dX4_spellOf_85 ?_
              refine lv_iload_n hx hb dX4_spellOf_88 rfl (lv_at hl 1 rfl) ?_
              obtain ⟨h13, hf⟩ := if_s hf
              refine x_iald X hw 7 ⟨Nat.le_of_ble_eq_true rfl, Nat.le_of_ble_eq_true rfl⟩ rfl h13 (a1.toNatClampNeg) rfl dX4_spellOf_89 ?_
              exact hfin _ _ _ _ _ _ hw (s2a hf) (s2b hf) (narI _) dX4_spellOf_90
            · replace hf := if_f c12 hf
              by_cases c14 : a2 = (5 : Int32)
              · replace hf := if_t c14 hf
                refine lv_tableIn (off := 76) (tgt := 91) hx hb dX4_spellOf_15 (by rw [c14]; decide) (by rw [c14]; decide) (by rw [c14]; rfl) (by decide) ?_
                refine lv_aload_n hx hb dX4_spellOf_91 rfl (lv_at hl 0 rfl) ?_
                refine x_get X hw 5 (Nat.le_of_ble_eq_true rfl) ce5 rfl i_X4 7 (by decide) q597 ⟨rfl, rfl, rfl⟩ rfl dX4_spellOf_92 ?_
                refine lv_iload_n hx hb dX4_spellOf_95 rfl (lv_at hl 1 rfl) ?_
                obtain ⟨h15, hf⟩ := if_s hf
                refine x_iald X hw 8 ⟨Nat.le_of_ble_eq_true rfl, Nat.le_of_ble_eq_true rfl⟩ rfl h15 (a1.toNatClampNeg) rfl dX4_spellOf_96 ?_
                exact hfin _ _ _ _ _ _ hw (s2a hf) (s2b hf) (narI _) dX4_spellOf_97
              · replace hf := if_f c14 hf
                by_cases c16 : a2 = (6 : Int32)
                · replace hf := if_t c16 hf
                  refine lv_tableIn (off := 83) (tgt := 98) hx hb dX4_spellOf_15 (by rw [c16]; decide) (by rw [c16]; decide) (by rw [c16]; rfl) (by decide) ?_
                  refine lv_aload_n hx hb dX4_spellOf_98 rfl (lv_at hl 0 rfl) ?_
                  refine x_get X hw 5 (Nat.le_of_ble_eq_true rfl) ce5 rfl i_X4 8 (by decide) q598 ⟨rfl, rfl, rfl⟩ rfl dX4_spellOf_99 ?_
                  refine lv_iload_n hx hb dX4_spellOf_102 rfl (lv_at hl 1 rfl) ?_
                  obtain ⟨h17, hf⟩ := if_s hf
                  refine x_iald X hw 9 ⟨Nat.le_of_ble_eq_true rfl, Nat.le_of_ble_eq_true rfl⟩ rfl h17 (a1.toNatClampNeg) rfl dX4_spellOf_103 ?_
                  exact hfin _ _ _ _ _ _ hw (s2a hf) (s2b hf) (narI _) dX4_spellOf_104
                · replace hf := if_f c16 hf
                  have nc4 : ¬ (a2).toInt = 0 := lv_neT c4 (by decide)
                  have nc6 : ¬ (a2).toInt = 1 := lv_neT c6 (by decide)
                  have nc8 : ¬ (a2).toInt = 2 := lv_neT c8 (by decide)
                  have nc10 : ¬ (a2).toInt = 3 := lv_neT c10 (by decide)
                  have nc12 : ¬ (a2).toInt = 4 := lv_neT c12 (by decide)
                  have nc14 : ¬ (a2).toInt = 5 := lv_neT c14 (by decide)
                  have nc16 : ¬ (a2).toInt = 6 := lv_neT c16 (by decide)
                  refine lv_tableOut (tgt := 105) hx hb dX4_spellOf_15 (by omega) (by decide) ?_
                  refine lv_aload_n hx hb dX4_spellOf_105 rfl (lv_at hl 0 rfl) ?_
                  refine lv_bipush (v := -2) hx hb dX4_spellOf_106 (by decide +kernel) ?_
                  obtain ⟨r20, S19, h18, hf⟩ := b2_s hf
                  refine kVi X hw (c_X4_no l D cI cO ad (-2 : Int32) S r20 S19 h18) (Nat.le_of_ble_eq_true rfl) ce5 rfl ⟨rfl, rfl⟩ q688 q690 q34 q64 q691 hd_X4_no ⟨Nat.le_of_ble_eq_true rfl, Nat.le_of_ble_eq_true rfl⟩ rfl hl.1 rfl (Nat.le_of_ble_eq_true rfl) dX4_spellOf_108 (fun H locs hw => ?_)
                  exact hfin _ _ _ _ _ _ hw (s2a hf) (s2b hf) (narI _) dX4_spellOf_111
  · replace hf := if_t c3 hf
    refine lv_aload_n hx hb dX4_spellOf_8 rfl (lv_at hl 0 rfl) ?_
    refine lv_iconst (v := -1) hx hb dX4_spellOf_9 (by decide) ?_
    obtain ⟨r23, S22, h21, hf⟩ := b2_s hf
    refine kVi X hw (c_X4_no l D cI cO ad (-1 : Int32) S r23 S22 h21) (Nat.le_of_ble_eq_true rfl) ce5 rfl ⟨rfl, rfl⟩ q688 q690 q34 q64 q691 hd_X4_no ⟨Nat.le_of_ble_eq_true rfl, Nat.le_of_ble_eq_true rfl⟩ rfl hl.1 rfl (Nat.le_of_ble_eq_true rfl) dX4_spellOf_10 (fun H locs hw => ?_)
    exact hfin _ _ _ _ _ _ hw (s2a hf) (s2b hf) (narI _) dX4_spellOf_13
/-- NineLandsModel.show(IZ)I -/
theorem dX4_show_0 : decode cX4_show 0 = .ok (.aload_n 0, 1) := by decide +kernel
theorem dX4_show_1 : decode cX4_show 1 = .ok (.iload_n 1, 1) := by decide +kernel
theorem dX4_show_2 : decode cX4_show 2 = .ok (.invokevirtual 119, 3) := by decide +kernel
theorem dX4_show_5 : decode cX4_show 5 = .ok (.ifCond .ne 9, 3) := by decide +kernel
theorem dX4_show_8 : decode cX4_show 8 = .ok (.aload_n 0, 1) := by decide +kernel
theorem dX4_show_9 : decode cX4_show 9 = .ok (.iconst (-1), 1) := by decide +kernel
theorem dX4_show_10 : decode cX4_show 10 = .ok (.invokevirtual 85, 3) := by decide +kernel
theorem dX4_show_13 : decode cX4_show 13 = .ok (.ireturn, 1) := by decide +kernel
theorem dX4_show_14 : decode cX4_show 14 = .ok (.aload_n 0, 1) := by decide +kernel
theorem dX4_show_15 : decode cX4_show 15 = .ok (.getfield 34, 3) := by decide +kernel
theorem dX4_show_18 : decode cX4_show 18 = .ok (.iload_n 1, 1) := by decide +kernel
theorem dX4_show_19 : decode cX4_show 19 = .ok (.iaload, 1) := by decide +kernel
theorem dX4_show_20 : decode cX4_show 20 = .ok (.iconst 1, 1) := by decide +kernel
theorem dX4_show_21 : decode cX4_show 21 = .ok (.if_icmp .ne 7, 3) := by decide +kernel
theorem dX4_show_24 : decode cX4_show 24 = .ok (.iconst 1, 1) := by decide +kernel
theorem dX4_show_25 : decode cX4_show 25 = .ok (.goto 4, 3) := by decide +kernel
theorem dX4_show_28 : decode cX4_show 28 = .ok (.iconst 0, 1) := by decide +kernel
theorem dX4_show_29 : decode cX4_show 29 = .ok (.iload_n 2, 1) := by decide +kernel
theorem dX4_show_30 : decode cX4_show 30 = .ok (.if_icmp .ne 5, 3) := by decide +kernel
theorem dX4_show_33 : decode cX4_show 33 = .ok (.iconst 0, 1) := by decide +kernel
theorem dX4_show_34 : decode cX4_show 34 = .ok (.ireturn, 1) := by decide +kernel
theorem dX4_show_35 : decode cX4_show 35 = .ok (.aload_n 0, 1) := by decide +kernel
theorem dX4_show_36 : decode cX4_show 36 = .ok (.getfield 34, 3) := by decide +kernel
theorem dX4_show_39 : decode cX4_show 39 = .ok (.iload_n 1, 1) := by decide +kernel
theorem dX4_show_40 : decode cX4_show 40 = .ok (.iload_n 2, 1) := by decide +kernel
theorem dX4_show_41 : decode cX4_show 41 = .ok (.ifCond .eq 7, 3) := by decide +kernel
theorem dX4_show_44 : decode cX4_show 44 = .ok (.iconst 1, 1) := by decide +kernel
theorem dX4_show_45 : decode cX4_show 45 = .ok (.goto 4, 3) := by decide +kernel
theorem dX4_show_48 : decode cX4_show 48 = .ok (.iconst 0, 1) := by decide +kernel
theorem dX4_show_49 : decode cX4_show 49 = .ok (.iastore, 1) := by decide +kernel
theorem dX4_show_50 : decode cX4_show 50 = .ok (.iconst 1, 1) := by decide +kernel
theorem dX4_show_51 : decode cX4_show 51 = .ok (.ireturn, 1) := by decide +kernel
theorem hd_X4_show : yX4_show.cls ≠ "java/lang/invoke/MethodHandle" ∧ yX4_show.cls ≠ "java/lang/invoke/VarHandle" ∧ (parseMethodDescriptor yX4_show.desc).map (fun d => d.parameters.length) = some 2 := by decide +kernel
def f_X4_show_J29 (x1 : Int32) (x2 : Int32) (k0 : Int32) (S : vS) : Option (Int32 × vS) := if k0 = x2 then some ((0 : Int32), S) else if x2 = 0 then if inb x1 21 = true then lt (upk S 9 (upd (S 9) (x1.toNatClampNeg) (0 : Int32))) fun S9 => some ((1 : Int32), S9) else none else if inb x1 21 = true then lt (upk S 9 (upd (S 9) (x1.toNatClampNeg) (1 : Int32))) fun S11 => some ((1 : Int32), S11) else none
def f_X4_show (a1 : Int32) (a2 : Int32) (S : vS) : Option (Int32 × vS) := b1 (f_X4_isSpell a1 S) fun r2 => if r2 = 0 then b2 (f_X4_no (-1 : Int32) S) fun r14 S13 => some (r14, S13) else if inb a1 21 = true then if (S 9 (a1.toNatClampNeg)) = (1 : Int32) then f_X4_show_J29 a1 a2 (1 : Int32) S else f_X4_show_J29 a1 a2 (0 : Int32) S else none
set_option maxHeartbeats 4000000 in
set_option maxRecDepth 20000 in
theorem c_X4_show (l : Launch) (D : va_G) (cI cO : ClassId) (ad : Nat → Nat) (a1 : Int32) (a2 : Int32) (S : vS) (R9 : Int32) (S9 : vS) (hf : f_X4_show a1 a2 S = some (R9, S9)) : CI l yX4_show cX4_show 3 .int ({ frames := 1, cells := 0, slots := 0, locals := 21 }) [.ref (ad 5), .int a1, .int a2] D cI cO ad S R9 S9 := by
  refine CI.of (by decide +kernel) (Nat.le_of_ble_eq_true rfl) (fun p e s m args below meth c Q ls X hl hw hfin => ?_)
  have hl : lv_has ls 3 [(0, .ref (ad 5)), (1, .int a1), (2, .int a2)] := hl
  have hx := X.1
  have hb := X.2.1
  have J29 : ∀ (x1 : Int32) (x2 : Int32) (k0 : Int32) (S : vS), f_X4_show_J29 x1 x2 k0 S = some (R9, S9) → ∀ (H : Heap) (locs : List Loc) (ls : Array Slot), WD D cI cO ad s S H locs → lv_has ls 3 [(0, .ref (ad 5)), (1, .int x1), (2, .int x2)] → W p l e ({ frames := 1, cells := 0, slots := 0, locals := 21 }) s m args below meth c H locs 0 0 Q (F0 m 29 ls [.int k0]) := by
    intro x1 x2 k0 S hf H locs ls hw hl
    unfold f_X4_show_J29 at hf
    refine lv_iload_n hx hb dX4_show_29 rfl (lv_at hl 2 rfl) ?_
    refine lv_icmp_ne (tgt := 35) hx hb dX4_show_30 (by decide) (fun c6 => ?_) (fun c6 => ?_)
    · replace hf := if_f c6 hf
      refine lv_aload_n hx hb dX4_show_35 rfl (lv_at hl 0 rfl) ?_
      refine x_get X hw 5 (Nat.le_of_ble_eq_true rfl) ce5 rfl i_X4 8 (by decide) q598 ⟨rfl, rfl, rfl⟩ rfl dX4_show_36 ?_
      refine lv_iload_n hx hb dX4_show_39 rfl (lv_at hl 1 rfl) ?_
      refine lv_iload_n hx hb dX4_show_40 rfl (lv_at hl 2 rfl) ?_
      refine lv_if_eq (tgt := 48) hx hb dX4_show_41 (by decide) (fun c7 => ?_) (fun c7 => ?_)
      · replace hf := if_t c7 hf
        refine lv_iconst (v := 0) hx hb dX4_show_48 (by decide) ?_
        obtain ⟨h8, hf⟩ := if_s hf
        refine x_iast X hw 9 ⟨Nat.le_of_ble_eq_true rfl, Nat.le_of_ble_eq_true rfl⟩ rfl h8 (x1.toNatClampNeg) rfl dX4_show_49 (fun S9 eS9 H locs hw => ?_)
        replace hf := lt_e eS9 hf
        refine lv_iconst (v := 1) hx hb dX4_show_50 (by decide) ?_
        exact hfin _ _ _ _ _ _ hw (s2a hf) (s2b hf) (narI _) dX4_show_51
      · replace hf := if_f c7 hf
        refine lv_iconst (v := 1) hx hb dX4_show_44 (by decide) ?_
        refine lv_goto (tgt := 49) hx hb dX4_show_45 (by decide) ?_
        obtain ⟨h10, hf⟩ := if_s hf
        refine x_iast X hw 9 ⟨Nat.le_of_ble_eq_true rfl, Nat.le_of_ble_eq_true rfl⟩ rfl h10 (x1.toNatClampNeg) rfl dX4_show_49 (fun S11 eS11 H locs hw => ?_)
        replace hf := lt_e eS11 hf
        refine lv_iconst (v := 1) hx hb dX4_show_50 (by decide) ?_
        exact hfin _ _ _ _ _ _ hw (s2a hf) (s2b hf) (narI _) dX4_show_51
    · replace hf := if_t c6 hf
      refine lv_iconst (v := 0) hx hb dX4_show_33 (by decide) ?_
      exact hfin _ _ _ _ _ _ hw (s2a hf) (s2b hf) (narI _) dX4_show_34
  unfold f_X4_show at hf
  refine lv_aload_n hx hb dX4_show_0 rfl (lv_at hl 0 rfl) ?_
  refine lv_iload_n hx hb dX4_show_1 rfl (lv_at hl 1 rfl) ?_
  obtain ⟨r2, h1, hf⟩ := b1_s hf
  refine kVi X hw (c_X4_isSpell l D cI cO ad a1 S r2 h1) (Nat.le_of_ble_eq_true rfl) ce5 rfl ⟨rfl, rfl⟩ q723 q725 q39 q64 q726 hd_X4_isSpell ⟨Nat.le_of_ble_eq_true rfl, Nat.le_of_ble_eq_true rfl⟩ rfl hl.1 rfl (Nat.le_of_ble_eq_true rfl) dX4_show_2 (fun H locs hw => ?_)
  refine lv_if_ne (tgt := 14) hx hb dX4_show_5 (by decide) (fun c3 => ?_) (fun c3 => ?_)
  · replace hf := if_f c3 hf
    refine lv_aload_n hx hb dX4_show_14 rfl (lv_at hl 0 rfl) ?_
    refine x_get X hw 5 (Nat.le_of_ble_eq_true rfl) ce5 rfl i_X4 8 (by decide) q598 ⟨rfl, rfl, rfl⟩ rfl dX4_show_15 ?_
    refine lv_iload_n hx hb dX4_show_18 rfl (lv_at hl 1 rfl) ?_
    obtain ⟨h4, hf⟩ := if_s hf
    refine x_iald X hw 9 ⟨Nat.le_of_ble_eq_true rfl, Nat.le_of_ble_eq_true rfl⟩ rfl h4 (a1.toNatClampNeg) rfl dX4_show_19 ?_
    refine lv_iconst (v := 1) hx hb dX4_show_20 (by decide) ?_
    refine lv_icmp_ne (tgt := 28) hx hb dX4_show_21 (by decide) (fun c5 => ?_) (fun c5 => ?_)
    · replace hf := if_f c5 hf
      refine lv_iconst (v := 0) hx hb dX4_show_28 (by decide) ?_
      exact J29 a1 a2 (0 : Int32) S hf _ _ _ hw hl
    · replace hf := if_t c5 hf
      refine lv_iconst (v := 1) hx hb dX4_show_24 (by decide) ?_
      refine lv_goto (tgt := 29) hx hb dX4_show_25 (by decide) ?_
      exact J29 a1 a2 (1 : Int32) S hf _ _ _ hw hl
  · replace hf := if_t c3 hf
    refine lv_aload_n hx hb dX4_show_8 rfl (lv_at hl 0 rfl) ?_
    refine lv_iconst (v := -1) hx hb dX4_show_9 (by decide) ?_
    obtain ⟨r14, S13, h12, hf⟩ := b2_s hf
    refine kVi X hw (c_X4_no l D cI cO ad (-1 : Int32) S r14 S13 h12) (Nat.le_of_ble_eq_true rfl) ce5 rfl ⟨rfl, rfl⟩ q688 q690 q34 q64 q691 hd_X4_no ⟨Nat.le_of_ble_eq_true rfl, Nat.le_of_ble_eq_true rfl⟩ rfl hl.1 rfl (Nat.le_of_ble_eq_true rfl) dX4_show_10 (fun H locs hw => ?_)
    exact hfin _ _ _ _ _ _ hw (s2a hf) (s2b hf) (narI _) dX4_show_13
/-- NineLandsModel.law(III)I -/
theorem dX4_law_0 : decode cX4_law 0 = .ok (.iload_n 1, 1) := by decide +kernel
theorem dX4_law_1 : decode cX4_law 1 = .ok (.invokestatic 105, 3) := by decide +kernel
theorem dX4_law_4 : decode cX4_law 4 = .ok (.ifCond .eq 13, 3) := by decide +kernel
theorem dX4_law_7 : decode cX4_law 7 = .ok (.iload_n 2, 1) := by decide +kernel
theorem dX4_law_8 : decode cX4_law 8 = .ok (.iconst 0, 1) := by decide +kernel
theorem dX4_law_9 : decode cX4_law 9 = .ok (.bipush 8, 2) := by decide +kernel
theorem dX4_law_11 : decode cX4_law 11 = .ok (.invokestatic 98, 3) := by decide +kernel
theorem dX4_law_14 : decode cX4_law 14 = .ok (.ifCond .ne 9, 3) := by decide +kernel
theorem dX4_law_17 : decode cX4_law 17 = .ok (.aload_n 0, 1) := by decide +kernel
theorem dX4_law_18 : decode cX4_law 18 = .ok (.iconst (-1), 1) := by decide +kernel
theorem dX4_law_19 : decode cX4_law 19 = .ok (.invokevirtual 85, 3) := by decide +kernel
theorem dX4_law_22 : decode cX4_law 22 = .ok (.ireturn, 1) := by decide +kernel
theorem dX4_law_23 : decode cX4_law 23 = .ok (.iload_n 3, 1) := by decide +kernel
theorem dX4_law_24 : decode cX4_law 24 = .ok (.iconst 0, 1) := by decide +kernel
theorem dX4_law_25 : decode cX4_law 25 = .ok (.aload_n 0, 1) := by decide +kernel
theorem dX4_law_26 : decode cX4_law 26 = .ok (.getfield 46, 3) := by decide +kernel
theorem dX4_law_29 : decode cX4_law 29 = .ok (.iload_n 2, 1) := by decide +kernel
theorem dX4_law_30 : decode cX4_law 30 = .ok (.iaload, 1) := by decide +kernel
theorem dX4_law_31 : decode cX4_law 31 = .ok (.invokestatic 78, 3) := by decide +kernel
theorem dX4_law_34 : decode cX4_law 34 = .ok (.istore 4, 2) := by decide +kernel
theorem dX4_law_36 : decode cX4_law 36 = .ok (.iload 4, 2) := by decide +kernel
theorem dX4_law_38 : decode cX4_law 38 = .ok (.ifCond .eq 10, 3) := by decide +kernel
theorem dX4_law_41 : decode cX4_law 41 = .ok (.aload_n 0, 1) := by decide +kernel
theorem dX4_law_42 : decode cX4_law 42 = .ok (.iload 4, 2) := by decide +kernel
theorem dX4_law_44 : decode cX4_law 44 = .ok (.invokevirtual 85, 3) := by decide +kernel
theorem dX4_law_47 : decode cX4_law 47 = .ok (.ireturn, 1) := by decide +kernel
theorem dX4_law_48 : decode cX4_law 48 = .ok (.aload_n 0, 1) := by decide +kernel
theorem dX4_law_49 : decode cX4_law 49 = .ok (.getfield 37, 3) := by decide +kernel
theorem dX4_law_52 : decode cX4_law 52 = .ok (.bipush 9, 2) := by decide +kernel
theorem dX4_law_54 : decode cX4_law 54 = .ok (.iload_n 1, 1) := by decide +kernel
theorem dX4_law_55 : decode cX4_law 55 = .ok (.imul, 1) := by decide +kernel
theorem dX4_law_56 : decode cX4_law 56 = .ok (.iload_n 2, 1) := by decide +kernel
theorem dX4_law_57 : decode cX4_law 57 = .ok (.iadd, 1) := by decide +kernel
theorem dX4_law_58 : decode cX4_law 58 = .ok (.iaload, 1) := by decide +kernel
theorem dX4_law_59 : decode cX4_law 59 = .ok (.istore 5, 2) := by decide +kernel
theorem dX4_law_61 : decode cX4_law 61 = .ok (.aload_n 0, 1) := by decide +kernel
theorem dX4_law_62 : decode cX4_law 62 = .ok (.getfield 37, 3) := by decide +kernel
theorem dX4_law_65 : decode cX4_law 65 = .ok (.bipush 9, 2) := by decide +kernel
theorem dX4_law_67 : decode cX4_law 67 = .ok (.iload_n 1, 1) := by decide +kernel
theorem dX4_law_68 : decode cX4_law 68 = .ok (.imul, 1) := by decide +kernel
theorem dX4_law_69 : decode cX4_law 69 = .ok (.iload_n 2, 1) := by decide +kernel
theorem dX4_law_70 : decode cX4_law 70 = .ok (.iadd, 1) := by decide +kernel
theorem dX4_law_71 : decode cX4_law 71 = .ok (.iload_n 3, 1) := by decide +kernel
theorem dX4_law_72 : decode cX4_law 72 = .ok (.iastore, 1) := by decide +kernel
theorem dX4_law_73 : decode cX4_law 73 = .ok (.iload 5, 2) := by decide +kernel
theorem dX4_law_75 : decode cX4_law 75 = .ok (.ireturn, 1) := by decide +kernel
theorem hd_X4_law : yX4_law.cls ≠ "java/lang/invoke/MethodHandle" ∧ yX4_law.cls ≠ "java/lang/invoke/VarHandle" ∧ (parseMethodDescriptor yX4_law.desc).map (fun d => d.parameters.length) = some 3 := by decide +kernel
def f_X4_law (a1 : Int32) (a2 : Int32) (a3 : Int32) (S : vS) : Option (Int32 × vS) := b1 (f_X4_isLand a1 S) fun r2 => if r2 = 0 then b2 (f_X4_no (-1 : Int32) S) fun r6 S5 => some (r6, S5) else b1 (f_X4_isIn a2 (0 : Int32) (8 : Int32) S) fun r8 => if r8 = 0 then b2 (f_X4_no (-1 : Int32) S) fun r22 S21 => some (r22, S21) else if inb a2 9 = true then b1 (f_X4_out a3 (0 : Int32) (S 13 (a2.toNatClampNeg)) S) fun r12 => if r12 = 0 then if inb (((9 : Int32) * a1) + a2) 54 = true then lt ((S 10 ((((9 : Int32) * a1) + a2).toNatClampNeg))) fun v15 => lt (upk S 10 (upd (S 10) ((((9 : Int32) * a1) + a2).toNatClampNeg) a3)) fun S16 => some (v15, S16) else none else b2 (f_X4_no r12 S) fun r19 S18 => some (r19, S18) else none
set_option maxHeartbeats 4000000 in
set_option maxRecDepth 20000 in
theorem c_X4_law (l : Launch) (D : va_G) (cI cO : ClassId) (ad : Nat → Nat) (a1 : Int32) (a2 : Int32) (a3 : Int32) (S : vS) (R9 : Int32) (S9 : vS) (hf : f_X4_law a1 a2 a3 S = some (R9, S9)) : CI l yX4_law cX4_law 6 .int ({ frames := 1, cells := 0, slots := 0, locals := 22 }) [.ref (ad 5), .int a1, .int a2, .int a3] D cI cO ad S R9 S9 := by
  refine CI.of (by decide +kernel) (Nat.le_of_ble_eq_true rfl) (fun p e s m args below meth c Q ls X hl hw hfin => ?_)
  have hl : lv_has ls 6 [(0, .ref (ad 5)), (1, .int a1), (2, .int a2), (3, .int a3)] := hl
  have hx := X.1
  have hb := X.2.1
  unfold f_X4_law at hf
  refine lv_iload_n hx hb dX4_law_0 rfl (lv_at hl 1 rfl) ?_
  obtain ⟨r2, h1, hf⟩ := b1_s hf
  refine kSi X hw (c_X4_isLand l D cI cO ad a1 S r2 h1) ⟨rfl, rfl⟩ q705 q706 q64 q707 hd_X4_isLand ⟨Nat.le_of_ble_eq_true rfl, Nat.le_of_ble_eq_true rfl⟩ rfl hl.1 rfl (Nat.le_of_ble_eq_true rfl) dX4_law_1 (fun H locs hw => ?_)
  refine lv_if_eq (tgt := 17) hx hb dX4_law_4 (by decide) (fun c3 => ?_) (fun c3 => ?_)
  · replace hf := if_t c3 hf
    refine lv_aload_n hx hb dX4_law_17 rfl (lv_at hl 0 rfl) ?_
    refine lv_iconst (v := -1) hx hb dX4_law_18 (by decide) ?_
    obtain ⟨r6, S5, h4, hf⟩ := b2_s hf
    refine kVi X hw (c_X4_no l D cI cO ad (-1 : Int32) S r6 S5 h4) (Nat.le_of_ble_eq_true rfl) ce5 rfl ⟨rfl, rfl⟩ q688 q690 q34 q64 q691 hd_X4_no ⟨Nat.le_of_ble_eq_true rfl, Nat.le_of_ble_eq_true rfl⟩ rfl hl.1 rfl (Nat.le_of_ble_eq_true rfl) dX4_law_19 (fun H locs hw => ?_)
    exact hfin _ _ _ _ _ _ hw (s2a hf) (s2b hf) (narI _) dX4_law_22
  · replace hf := if_f c3 hf
    refine lv_iload_n hx hb dX4_law_7 rfl (lv_at hl 2 rfl) ?_
    refine lv_iconst (v := 0) hx hb dX4_law_8 (by decide) ?_
    refine lv_bipush (v := 8) hx hb dX4_law_9 (by decide +kernel) ?_
    obtain ⟨r8, h7, hf⟩ := b1_s hf
    refine kSi X hw (c_X4_isIn l D cI cO ad a2 (0 : Int32) (8 : Int32) S r8 h7) ⟨rfl, rfl⟩ q712 q713 q64 q714 hd_X4_isIn ⟨Nat.le_of_ble_eq_true rfl, Nat.le_of_ble_eq_true rfl⟩ rfl hl.1 rfl (Nat.le_of_ble_eq_true rfl) dX4_law_11 (fun H locs hw => ?_)
    refine lv_if_ne (tgt := 23) hx hb dX4_law_14 (by decide) (fun c9 => ?_) (fun c9 => ?_)
    · replace hf := if_f c9 hf
      refine lv_iload_n hx hb dX4_law_23 rfl (lv_at hl 3 rfl) ?_
      refine lv_iconst (v := 0) hx hb dX4_law_24 (by decide) ?_
      refine lv_aload_n hx hb dX4_law_25 rfl (lv_at hl 0 rfl) ?_
      refine x_get X hw 5 (Nat.le_of_ble_eq_true rfl) ce5 rfl i_X4 12 (by decide) q602 ⟨rfl, rfl, rfl⟩ rfl dX4_law_26 ?_
      refine lv_iload_n hx hb dX4_law_29 rfl (lv_at hl 2 rfl) ?_
      obtain ⟨h10, hf⟩ := if_s hf
      refine x_iald X hw 13 ⟨Nat.le_of_ble_eq_true rfl, Nat.le_of_ble_eq_true rfl⟩ rfl h10 (a2.toNatClampNeg) rfl dX4_law_30 ?_
      obtain ⟨r12, h11, hf⟩ := b1_s hf
      refine kSi X hw (c_X4_out l D cI cO ad a3 (0 : Int32) (S 13 (a2.toNatClampNeg)) S r12 h11) ⟨rfl, rfl⟩ q685 q686 q64 q687 hd_X4_out ⟨Nat.le_of_ble_eq_true rfl, Nat.le_of_ble_eq_true rfl⟩ rfl hl.1 rfl (Nat.le_of_ble_eq_true rfl) dX4_law_31 (fun H locs hw => ?_)
      refine lv_istore (lv' := [(4, .int r12), (0, .ref (ad 5)), (1, .int a1), (2, .int a2), (3, .int a3)]) hx hb dX4_law_34 hl (by decide) rfl (fun ls hl => ?_)
      refine lv_iload hx hb dX4_law_36 (lv_at hl 0 rfl) ?_
      refine lv_if_eq (tgt := 48) hx hb dX4_law_38 (by decide) (fun c13 => ?_) (fun c13 => ?_)
      · replace hf := if_t c13 hf
        refine lv_aload_n hx hb dX4_law_48 rfl (lv_at hl 1 rfl) ?_
        refine x_get X hw 5 (Nat.le_of_ble_eq_true rfl) ce5 rfl i_X4 9 (by decide) q599 ⟨rfl, rfl, rfl⟩ rfl dX4_law_49 ?_
        refine lv_bipush (v := 9) hx hb dX4_law_52 (by decide +kernel) ?_
        refine lv_iload_n hx hb dX4_law_54 rfl (lv_at hl 2 rfl) ?_
        refine lv_imul hx hb dX4_law_55 ?_
        refine lv_iload_n hx hb dX4_law_56 rfl (lv_at hl 3 rfl) ?_
        refine lv_iadd hx hb dX4_law_57 ?_
        obtain ⟨h14, hf⟩ := if_s hf
        refine x_iald X hw 10 ⟨Nat.le_of_ble_eq_true rfl, Nat.le_of_ble_eq_true rfl⟩ rfl h14 ((((9 : Int32) * a1) + a2).toNatClampNeg) rfl dX4_law_58 ?_
        refine lv_topi (fun v15 ev15 => ?_)
        replace hf := lt_e ev15 hf
        refine lv_istore (lv' := [(5, .int v15), (4, .int r12), (0, .ref (ad 5)), (1, .int a1), (2, .int a2), (3, .int a3)]) hx hb dX4_law_59 hl (by decide) rfl (fun ls hl => ?_)
        refine lv_aload_n hx hb dX4_law_61 rfl (lv_at hl 2 rfl) ?_
        refine x_get X hw 5 (Nat.le_of_ble_eq_true rfl) ce5 rfl i_X4 9 (by decide) q599 ⟨rfl, rfl, rfl⟩ rfl dX4_law_62 ?_
        refine lv_bipush (v := 9) hx hb dX4_law_65 (by decide +kernel) ?_
        refine lv_iload_n hx hb dX4_law_67 rfl (lv_at hl 3 rfl) ?_
        refine lv_imul hx hb dX4_law_68 ?_
        refine lv_iload_n hx hb dX4_law_69 rfl (lv_at hl 4 rfl) ?_
        refine lv_iadd hx hb dX4_law_70 ?_
        refine lv_iload_n hx hb dX4_law_71 rfl (lv_at hl 5 rfl) ?_
        refine x_iast X hw 10 ⟨Nat.le_of_ble_eq_true rfl, Nat.le_of_ble_eq_true rfl⟩ rfl h14 ((((9 : Int32) * a1) + a2).toNatClampNeg) rfl dX4_law_72 (fun S16 eS16 H locs hw => ?_)
        replace hf := lt_e eS16 hf
        refine lv_iload hx hb dX4_law_73 (lv_at hl 0 rfl) ?_
        exact hfin _ _ _ _ _ _ hw (s2a hf) (s2b hf) (narI _) dX4_law_75
      · replace hf := if_f c13 hf
        refine lv_aload_n hx hb dX4_law_41 rfl (lv_at hl 1 rfl) ?_
        refine lv_iload hx hb dX4_law_42 (lv_at hl 0 rfl) ?_
        obtain ⟨r19, S18, h17, hf⟩ := b2_s hf
        refine kVi X hw (c_X4_no l D cI cO ad r12 S r19 S18 h17) (Nat.le_of_ble_eq_true rfl) ce5 rfl ⟨rfl, rfl⟩ q688 q690 q34 q64 q691 hd_X4_no ⟨Nat.le_of_ble_eq_true rfl, Nat.le_of_ble_eq_true rfl⟩ rfl hl.1 rfl (Nat.le_of_ble_eq_true rfl) dX4_law_44 (fun H locs hw => ?_)
        exact hfin _ _ _ _ _ _ hw (s2a hf) (s2b hf) (narI _) dX4_law_47
    · replace hf := if_t c9 hf
      refine lv_aload_n hx hb dX4_law_17 rfl (lv_at hl 0 rfl) ?_
      refine lv_iconst (v := -1) hx hb dX4_law_18 (by decide) ?_
      obtain ⟨r22, S21, h20, hf⟩ := b2_s hf
      refine kVi X hw (c_X4_no l D cI cO ad (-1 : Int32) S r22 S21 h20) (Nat.le_of_ble_eq_true rfl) ce5 rfl ⟨rfl, rfl⟩ q688 q690 q34 q64 q691 hd_X4_no ⟨Nat.le_of_ble_eq_true rfl, Nat.le_of_ble_eq_true rfl⟩ rfl hl.1 rfl (Nat.le_of_ble_eq_true rfl) dX4_law_19 (fun H locs hw => ?_)
      exact hfin _ _ _ _ _ _ hw (s2a hf) (s2b hf) (narI _) dX4_law_22
/-- NineLandsModel.lawOf(II)I -/
theorem dX4_lawOf_0 : decode cX4_lawOf 0 = .ok (.aload_n 0, 1) := by decide +kernel
theorem dX4_lawOf_1 : decode cX4_lawOf 1 = .ok (.getfield 37, 3) := by decide +kernel
theorem dX4_lawOf_4 : decode cX4_lawOf 4 = .ok (.bipush 9, 2) := by decide +kernel
theorem dX4_lawOf_6 : decode cX4_lawOf 6 = .ok (.iload_n 1, 1) := by decide +kernel
theorem dX4_lawOf_7 : decode cX4_lawOf 7 = .ok (.imul, 1) := by decide +kernel
theorem dX4_lawOf_8 : decode cX4_lawOf 8 = .ok (.iload_n 2, 1) := by decide +kernel
theorem dX4_lawOf_9 : decode cX4_lawOf 9 = .ok (.iadd, 1) := by decide +kernel
theorem dX4_lawOf_10 : decode cX4_lawOf 10 = .ok (.iaload, 1) := by decide +kernel
theorem dX4_lawOf_11 : decode cX4_lawOf 11 = .ok (.ireturn, 1) := by decide +kernel
theorem hd_X4_lawOf : yX4_lawOf.cls ≠ "java/lang/invoke/MethodHandle" ∧ yX4_lawOf.cls ≠ "java/lang/invoke/VarHandle" ∧ (parseMethodDescriptor yX4_lawOf.desc).map (fun d => d.parameters.length) = some 2 := by decide +kernel
def f_X4_lawOf (a1 : Int32) (a2 : Int32) (S : vS) : Option Int32 := if inb (((9 : Int32) * a1) + a2) 54 = true then some (S 10 ((((9 : Int32) * a1) + a2).toNatClampNeg)) else none
set_option maxHeartbeats 4000000 in
set_option maxRecDepth 20000 in
theorem c_X4_lawOf (l : Launch) (D : va_G) (cI cO : ClassId) (ad : Nat → Nat) (a1 : Int32) (a2 : Int32) (S : vS) (R9 : Int32) (hf : f_X4_lawOf a1 a2 S = some R9) : CI l yX4_lawOf cX4_lawOf 3 .int ({ frames := 0, cells := 0, slots := 0, locals := 0 }) [.ref (ad 5), .int a1, .int a2] D cI cO ad S R9 S := by
  refine CI.of (by decide +kernel) (Nat.le_of_ble_eq_true rfl) (fun p e s m args below meth c Q ls X hl hw hfin => ?_)
  have hl : lv_has ls 3 [(0, .ref (ad 5)), (1, .int a1), (2, .int a2)] := hl
  have hx := X.1
  have hb := X.2.1
  unfold f_X4_lawOf at hf
  refine lv_aload_n hx hb dX4_lawOf_0 rfl (lv_at hl 0 rfl) ?_
  refine x_get X hw 5 (Nat.le_of_ble_eq_true rfl) ce5 rfl i_X4 9 (by decide) q599 ⟨rfl, rfl, rfl⟩ rfl dX4_lawOf_1 ?_
  refine lv_bipush (v := 9) hx hb dX4_lawOf_4 (by decide +kernel) ?_
  refine lv_iload_n hx hb dX4_lawOf_6 rfl (lv_at hl 1 rfl) ?_
  refine lv_imul hx hb dX4_lawOf_7 ?_
  refine lv_iload_n hx hb dX4_lawOf_8 rfl (lv_at hl 2 rfl) ?_
  refine lv_iadd hx hb dX4_lawOf_9 ?_
  obtain ⟨h1, hf⟩ := if_s hf
  refine x_iald X hw 10 ⟨Nat.le_of_ble_eq_true rfl, Nat.le_of_ble_eq_true rfl⟩ rfl h1 ((((9 : Int32) * a1) + a2).toNatClampNeg) rfl dX4_lawOf_10 ?_
  exact hfin _ _ _ _ _ _ hw (Option.some.inj hf) rfl (narI _) dX4_lawOf_11
/-- NineLandsModel.kind(II)I -/
theorem dX4_kind_0 : decode cX4_kind 0 = .ok (.iload_n 1, 1) := by decide +kernel
theorem dX4_kind_1 : decode cX4_kind 1 = .ok (.invokestatic 105, 3) := by decide +kernel
theorem dX4_kind_4 : decode cX4_kind 4 = .ok (.ifCond .ne 9, 3) := by decide +kernel
theorem dX4_kind_7 : decode cX4_kind 7 = .ok (.aload_n 0, 1) := by decide +kernel
theorem dX4_kind_8 : decode cX4_kind 8 = .ok (.iconst (-1), 1) := by decide +kernel
theorem dX4_kind_9 : decode cX4_kind 9 = .ok (.invokevirtual 85, 3) := by decide +kernel
theorem dX4_kind_12 : decode cX4_kind 12 = .ok (.ireturn, 1) := by decide +kernel
theorem dX4_kind_13 : decode cX4_kind 13 = .ok (.iload_n 2, 1) := by decide +kernel
theorem dX4_kind_14 : decode cX4_kind 14 = .ok (.iconst 0, 1) := by decide +kernel
theorem dX4_kind_15 : decode cX4_kind 15 = .ok (.iconst 5, 1) := by decide +kernel
theorem dX4_kind_16 : decode cX4_kind 16 = .ok (.invokestatic 98, 3) := by decide +kernel
theorem dX4_kind_19 : decode cX4_kind 19 = .ok (.ifCond .ne 10, 3) := by decide +kernel
theorem dX4_kind_22 : decode cX4_kind 22 = .ok (.aload_n 0, 1) := by decide +kernel
theorem dX4_kind_23 : decode cX4_kind 23 = .ok (.bipush (-2), 2) := by decide +kernel
theorem dX4_kind_25 : decode cX4_kind 25 = .ok (.invokevirtual 85, 3) := by decide +kernel
theorem dX4_kind_28 : decode cX4_kind 28 = .ok (.ireturn, 1) := by decide +kernel
theorem dX4_kind_29 : decode cX4_kind 29 = .ok (.aload_n 0, 1) := by decide +kernel
theorem dX4_kind_30 : decode cX4_kind 30 = .ok (.getfield 40, 3) := by decide +kernel
theorem dX4_kind_33 : decode cX4_kind 33 = .ok (.iload_n 1, 1) := by decide +kernel
theorem dX4_kind_34 : decode cX4_kind 34 = .ok (.iaload, 1) := by decide +kernel
theorem dX4_kind_35 : decode cX4_kind 35 = .ok (.istore_n 3, 1) := by decide +kernel
theorem dX4_kind_36 : decode cX4_kind 36 = .ok (.aload_n 0, 1) := by decide +kernel
theorem dX4_kind_37 : decode cX4_kind 37 = .ok (.getfield 40, 3) := by decide +kernel
theorem dX4_kind_40 : decode cX4_kind 40 = .ok (.iload_n 1, 1) := by decide +kernel
theorem dX4_kind_41 : decode cX4_kind 41 = .ok (.iload_n 2, 1) := by decide +kernel
theorem dX4_kind_42 : decode cX4_kind 42 = .ok (.iastore, 1) := by decide +kernel
theorem dX4_kind_43 : decode cX4_kind 43 = .ok (.iload_n 3, 1) := by decide +kernel
theorem dX4_kind_44 : decode cX4_kind 44 = .ok (.ireturn, 1) := by decide +kernel
theorem hd_X4_kind : yX4_kind.cls ≠ "java/lang/invoke/MethodHandle" ∧ yX4_kind.cls ≠ "java/lang/invoke/VarHandle" ∧ (parseMethodDescriptor yX4_kind.desc).map (fun d => d.parameters.length) = some 2 := by decide +kernel
def f_X4_kind (a1 : Int32) (a2 : Int32) (S : vS) : Option (Int32 × vS) := b1 (f_X4_isLand a1 S) fun r2 => if r2 = 0 then b2 (f_X4_no (-1 : Int32) S) fun r15 S14 => some (r15, S14) else b1 (f_X4_isIn a2 (0 : Int32) (5 : Int32) S) fun r5 => if r5 = 0 then b2 (f_X4_no (-2 : Int32) S) fun r12 S11 => some (r12, S11) else if inb a1 6 = true then lt ((S 11 (a1.toNatClampNeg))) fun v8 => lt (upk S 11 (upd (S 11) (a1.toNatClampNeg) a2)) fun S9 => some (v8, S9) else none
set_option maxHeartbeats 4000000 in
set_option maxRecDepth 20000 in
theorem c_X4_kind (l : Launch) (D : va_G) (cI cO : ClassId) (ad : Nat → Nat) (a1 : Int32) (a2 : Int32) (S : vS) (R9 : Int32) (S9 : vS) (hf : f_X4_kind a1 a2 S = some (R9, S9)) : CI l yX4_kind cX4_kind 4 .int ({ frames := 1, cells := 0, slots := 0, locals := 22 }) [.ref (ad 5), .int a1, .int a2] D cI cO ad S R9 S9 := by
  refine CI.of (by decide +kernel) (Nat.le_of_ble_eq_true rfl) (fun p e s m args below meth c Q ls X hl hw hfin => ?_)
  have hl : lv_has ls 4 [(0, .ref (ad 5)), (1, .int a1), (2, .int a2)] := hl
  have hx := X.1
  have hb := X.2.1
  unfold f_X4_kind at hf
  refine lv_iload_n hx hb dX4_kind_0 rfl (lv_at hl 1 rfl) ?_
  obtain ⟨r2, h1, hf⟩ := b1_s hf
  refine kSi X hw (c_X4_isLand l D cI cO ad a1 S r2 h1) ⟨rfl, rfl⟩ q705 q706 q64 q707 hd_X4_isLand ⟨Nat.le_of_ble_eq_true rfl, Nat.le_of_ble_eq_true rfl⟩ rfl hl.1 rfl (Nat.le_of_ble_eq_true rfl) dX4_kind_1 (fun H locs hw => ?_)
  refine lv_if_ne (tgt := 13) hx hb dX4_kind_4 (by decide) (fun c3 => ?_) (fun c3 => ?_)
  · replace hf := if_f c3 hf
    refine lv_iload_n hx hb dX4_kind_13 rfl (lv_at hl 2 rfl) ?_
    refine lv_iconst (v := 0) hx hb dX4_kind_14 (by decide) ?_
    refine lv_iconst (v := 5) hx hb dX4_kind_15 (by decide) ?_
    obtain ⟨r5, h4, hf⟩ := b1_s hf
    refine kSi X hw (c_X4_isIn l D cI cO ad a2 (0 : Int32) (5 : Int32) S r5 h4) ⟨rfl, rfl⟩ q712 q713 q64 q714 hd_X4_isIn ⟨Nat.le_of_ble_eq_true rfl, Nat.le_of_ble_eq_true rfl⟩ rfl hl.1 rfl (Nat.le_of_ble_eq_true rfl) dX4_kind_16 (fun H locs hw => ?_)
    refine lv_if_ne (tgt := 29) hx hb dX4_kind_19 (by decide) (fun c6 => ?_) (fun c6 => ?_)
    · replace hf := if_f c6 hf
      refine lv_aload_n hx hb dX4_kind_29 rfl (lv_at hl 0 rfl) ?_
      refine x_get X hw 5 (Nat.le_of_ble_eq_true rfl) ce5 rfl i_X4 10 (by decide) q600 ⟨rfl, rfl, rfl⟩ rfl dX4_kind_30 ?_
      refine lv_iload_n hx hb dX4_kind_33 rfl (lv_at hl 1 rfl) ?_
      obtain ⟨h7, hf⟩ := if_s hf
      refine x_iald X hw 11 ⟨Nat.le_of_ble_eq_true rfl, Nat.le_of_ble_eq_true rfl⟩ rfl h7 (a1.toNatClampNeg) rfl dX4_kind_34 ?_
      refine lv_topi (fun v8 ev8 => ?_)
      replace hf := lt_e ev8 hf
      refine lv_istore_n (lv' := [(3, .int v8), (0, .ref (ad 5)), (1, .int a1), (2, .int a2)]) hx hb dX4_kind_35 rfl hl (by decide) rfl (fun ls hl => ?_)
      refine lv_aload_n hx hb dX4_kind_36 rfl (lv_at hl 1 rfl) ?_
      refine x_get X hw 5 (Nat.le_of_ble_eq_true rfl) ce5 rfl i_X4 10 (by decide) q600 ⟨rfl, rfl, rfl⟩ rfl dX4_kind_37 ?_
      refine lv_iload_n hx hb dX4_kind_40 rfl (lv_at hl 2 rfl) ?_
      refine lv_iload_n hx hb dX4_kind_41 rfl (lv_at hl 3 rfl) ?_
      refine x_iast X hw 11 ⟨Nat.le_of_ble_eq_true rfl, Nat.le_of_ble_eq_true rfl⟩ rfl h7 (a1.toNatClampNeg) rfl dX4_kind_42 (fun S9 eS9 H locs hw => ?_)
      replace hf := lt_e eS9 hf
      refine lv_iload_n hx hb dX4_kind_43 rfl (lv_at hl 0 rfl) ?_
      exact hfin _ _ _ _ _ _ hw (s2a hf) (s2b hf) (narI _) dX4_kind_44
    · replace hf := if_t c6 hf
      refine lv_aload_n hx hb dX4_kind_22 rfl (lv_at hl 0 rfl) ?_
      refine lv_bipush (v := -2) hx hb dX4_kind_23 (by decide +kernel) ?_
      obtain ⟨r12, S11, h10, hf⟩ := b2_s hf
      refine kVi X hw (c_X4_no l D cI cO ad (-2 : Int32) S r12 S11 h10) (Nat.le_of_ble_eq_true rfl) ce5 rfl ⟨rfl, rfl⟩ q688 q690 q34 q64 q691 hd_X4_no ⟨Nat.le_of_ble_eq_true rfl, Nat.le_of_ble_eq_true rfl⟩ rfl hl.1 rfl (Nat.le_of_ble_eq_true rfl) dX4_kind_25 (fun H locs hw => ?_)
      exact hfin _ _ _ _ _ _ hw (s2a hf) (s2b hf) (narI _) dX4_kind_28
  · replace hf := if_t c3 hf
    refine lv_aload_n hx hb dX4_kind_7 rfl (lv_at hl 0 rfl) ?_
    refine lv_iconst (v := -1) hx hb dX4_kind_8 (by decide) ?_
    obtain ⟨r15, S14, h13, hf⟩ := b2_s hf
    refine kVi X hw (c_X4_no l D cI cO ad (-1 : Int32) S r15 S14 h13) (Nat.le_of_ble_eq_true rfl) ce5 rfl ⟨rfl, rfl⟩ q688 q690 q34 q64 q691 hd_X4_no ⟨Nat.le_of_ble_eq_true rfl, Nat.le_of_ble_eq_true rfl⟩ rfl hl.1 rfl (Nat.le_of_ble_eq_true rfl) dX4_kind_9 (fun H locs hw => ?_)
    exact hfin _ _ _ _ _ _ hw (s2a hf) (s2b hf) (narI _) dX4_kind_12
/-- NineLandsModel.pact(IIZ)I -/
theorem dX4_pact_0 : decode cX4_pact 0 = .ok (.iload_n 1, 1) := by decide +kernel
theorem dX4_pact_1 : decode cX4_pact 1 = .ok (.invokestatic 105, 3) := by decide +kernel
theorem dX4_pact_4 : decode cX4_pact 4 = .ok (.ifCond .eq 15, 3) := by decide +kernel
theorem dX4_pact_7 : decode cX4_pact 7 = .ok (.iload_n 2, 1) := by decide +kernel
theorem dX4_pact_8 : decode cX4_pact 8 = .ok (.invokestatic 105, 3) := by decide +kernel
theorem dX4_pact_11 : decode cX4_pact 11 = .ok (.ifCond .eq 8, 3) := by decide +kernel
theorem dX4_pact_14 : decode cX4_pact 14 = .ok (.iload_n 1, 1) := by decide +kernel
theorem dX4_pact_15 : decode cX4_pact 15 = .ok (.iload_n 2, 1) := by decide +kernel
theorem dX4_pact_16 : decode cX4_pact 16 = .ok (.if_icmp .ne 9, 3) := by decide +kernel
theorem dX4_pact_19 : decode cX4_pact 19 = .ok (.aload_n 0, 1) := by decide +kernel
theorem dX4_pact_20 : decode cX4_pact 20 = .ok (.iconst (-1), 1) := by decide +kernel
theorem dX4_pact_21 : decode cX4_pact 21 = .ok (.invokevirtual 85, 3) := by decide +kernel
theorem dX4_pact_24 : decode cX4_pact 24 = .ok (.ireturn, 1) := by decide +kernel
theorem dX4_pact_25 : decode cX4_pact 25 = .ok (.aload_n 0, 1) := by decide +kernel
theorem dX4_pact_26 : decode cX4_pact 26 = .ok (.getfield 43, 3) := by decide +kernel
theorem dX4_pact_29 : decode cX4_pact 29 = .ok (.bipush 6, 2) := by decide +kernel
theorem dX4_pact_31 : decode cX4_pact 31 = .ok (.iload_n 1, 1) := by decide +kernel
theorem dX4_pact_32 : decode cX4_pact 32 = .ok (.imul, 1) := by decide +kernel
theorem dX4_pact_33 : decode cX4_pact 33 = .ok (.iload_n 2, 1) := by decide +kernel
theorem dX4_pact_34 : decode cX4_pact 34 = .ok (.iadd, 1) := by decide +kernel
theorem dX4_pact_35 : decode cX4_pact 35 = .ok (.iaload, 1) := by decide +kernel
theorem dX4_pact_36 : decode cX4_pact 36 = .ok (.iconst 1, 1) := by decide +kernel
theorem dX4_pact_37 : decode cX4_pact 37 = .ok (.if_icmp .ne 7, 3) := by decide +kernel
theorem dX4_pact_40 : decode cX4_pact 40 = .ok (.iconst 1, 1) := by decide +kernel
theorem dX4_pact_41 : decode cX4_pact 41 = .ok (.goto 4, 3) := by decide +kernel
theorem dX4_pact_44 : decode cX4_pact 44 = .ok (.iconst 0, 1) := by decide +kernel
theorem dX4_pact_45 : decode cX4_pact 45 = .ok (.iload_n 3, 1) := by decide +kernel
theorem dX4_pact_46 : decode cX4_pact 46 = .ok (.if_icmp .ne 5, 3) := by decide +kernel
theorem dX4_pact_49 : decode cX4_pact 49 = .ok (.iconst 0, 1) := by decide +kernel
theorem dX4_pact_50 : decode cX4_pact 50 = .ok (.ireturn, 1) := by decide +kernel
theorem dX4_pact_51 : decode cX4_pact 51 = .ok (.aload_n 0, 1) := by decide +kernel
theorem dX4_pact_52 : decode cX4_pact 52 = .ok (.getfield 43, 3) := by decide +kernel
theorem dX4_pact_55 : decode cX4_pact 55 = .ok (.bipush 6, 2) := by decide +kernel
theorem dX4_pact_57 : decode cX4_pact 57 = .ok (.iload_n 1, 1) := by decide +kernel
theorem dX4_pact_58 : decode cX4_pact 58 = .ok (.imul, 1) := by decide +kernel
theorem dX4_pact_59 : decode cX4_pact 59 = .ok (.iload_n 2, 1) := by decide +kernel
theorem dX4_pact_60 : decode cX4_pact 60 = .ok (.iadd, 1) := by decide +kernel
theorem dX4_pact_61 : decode cX4_pact 61 = .ok (.iload_n 3, 1) := by decide +kernel
theorem dX4_pact_62 : decode cX4_pact 62 = .ok (.ifCond .eq 7, 3) := by decide +kernel
theorem dX4_pact_65 : decode cX4_pact 65 = .ok (.iconst 1, 1) := by decide +kernel
theorem dX4_pact_66 : decode cX4_pact 66 = .ok (.goto 4, 3) := by decide +kernel
theorem dX4_pact_69 : decode cX4_pact 69 = .ok (.iconst 0, 1) := by decide +kernel
theorem dX4_pact_70 : decode cX4_pact 70 = .ok (.iastore, 1) := by decide +kernel
theorem dX4_pact_71 : decode cX4_pact 71 = .ok (.aload_n 0, 1) := by decide +kernel
theorem dX4_pact_72 : decode cX4_pact 72 = .ok (.getfield 43, 3) := by decide +kernel
theorem dX4_pact_75 : decode cX4_pact 75 = .ok (.bipush 6, 2) := by decide +kernel
theorem dX4_pact_77 : decode cX4_pact 77 = .ok (.iload_n 2, 1) := by decide +kernel
theorem dX4_pact_78 : decode cX4_pact 78 = .ok (.imul, 1) := by decide +kernel
theorem dX4_pact_79 : decode cX4_pact 79 = .ok (.iload_n 1, 1) := by decide +kernel
theorem dX4_pact_80 : decode cX4_pact 80 = .ok (.iadd, 1) := by decide +kernel
theorem dX4_pact_81 : decode cX4_pact 81 = .ok (.iload_n 3, 1) := by decide +kernel
theorem dX4_pact_82 : decode cX4_pact 82 = .ok (.ifCond .eq 7, 3) := by decide +kernel
theorem dX4_pact_85 : decode cX4_pact 85 = .ok (.iconst 1, 1) := by decide +kernel
theorem dX4_pact_86 : decode cX4_pact 86 = .ok (.goto 4, 3) := by decide +kernel
theorem dX4_pact_89 : decode cX4_pact 89 = .ok (.iconst 0, 1) := by decide +kernel
theorem dX4_pact_90 : decode cX4_pact 90 = .ok (.iastore, 1) := by decide +kernel
theorem dX4_pact_91 : decode cX4_pact 91 = .ok (.iconst 1, 1) := by decide +kernel
theorem dX4_pact_92 : decode cX4_pact 92 = .ok (.ireturn, 1) := by decide +kernel
theorem hd_X4_pact : yX4_pact.cls ≠ "java/lang/invoke/MethodHandle" ∧ yX4_pact.cls ≠ "java/lang/invoke/VarHandle" ∧ (parseMethodDescriptor yX4_pact.desc).map (fun d => d.parameters.length) = some 3 := by decide +kernel
def f_X4_pact_J70 (x1 : Int32) (x2 : Int32) (x3 : Int32) (k1 : Int32) (k2 : Int32) (S : vS) : Option (Int32 × vS) := if inb k1 36 = true then lt (upk S 12 (upd (S 12) (k1.toNatClampNeg) k2)) fun S19 => if x3 = 0 then if inb (((6 : Int32) * x2) + x1) 36 = true then lt (upk S19 12 (upd (S19 12) ((((6 : Int32) * x2) + x1).toNatClampNeg) (0 : Int32))) fun S22 => some ((1 : Int32), S22) else none else if inb (((6 : Int32) * x2) + x1) 36 = true then lt (upk S19 12 (upd (S19 12) ((((6 : Int32) * x2) + x1).toNatClampNeg) (1 : Int32))) fun S24 => some ((1 : Int32), S24) else none else none
def f_X4_pact_J45 (x1 : Int32) (x2 : Int32) (x3 : Int32) (k0 : Int32) (S : vS) : Option (Int32 × vS) := if k0 = x3 then some ((0 : Int32), S) else if x3 = 0 then f_X4_pact_J70 x1 x2 x3 (((6 : Int32) * x1) + x2) (0 : Int32) S else f_X4_pact_J70 x1 x2 x3 (((6 : Int32) * x1) + x2) (1 : Int32) S
def f_X4_pact (a1 : Int32) (a2 : Int32) (a3 : Int32) (S : vS) : Option (Int32 × vS) := b1 (f_X4_isLand a1 S) fun r2 => if r2 = 0 then b2 (f_X4_no (-1 : Int32) S) fun r6 S5 => some (r6, S5) else b1 (f_X4_isLand a2 S) fun r8 => if r8 = 0 then b2 (f_X4_no (-1 : Int32) S) fun r12 S11 => some (r12, S11) else if a1 = a2 then b2 (f_X4_no (-1 : Int32) S) fun r27 S26 => some (r27, S26) else if inb (((6 : Int32) * a1) + a2) 36 = true then if (S 12 ((((6 : Int32) * a1) + a2).toNatClampNeg)) = (1 : Int32) then f_X4_pact_J45 a1 a2 a3 (1 : Int32) S else f_X4_pact_J45 a1 a2 a3 (0 : Int32) S else none
set_option maxHeartbeats 4000000 in
set_option maxRecDepth 20000 in
theorem c_X4_pact (l : Launch) (D : va_G) (cI cO : ClassId) (ad : Nat → Nat) (a1 : Int32) (a2 : Int32) (a3 : Int32) (S : vS) (R9 : Int32) (S9 : vS) (hf : f_X4_pact a1 a2 a3 S = some (R9, S9)) : CI l yX4_pact cX4_pact 4 .int ({ frames := 1, cells := 0, slots := 0, locals := 21 }) [.ref (ad 5), .int a1, .int a2, .int a3] D cI cO ad S R9 S9 := by
  refine CI.of (by decide +kernel) (Nat.le_of_ble_eq_true rfl) (fun p e s m args below meth c Q ls X hl hw hfin => ?_)
  have hl : lv_has ls 4 [(0, .ref (ad 5)), (1, .int a1), (2, .int a2), (3, .int a3)] := hl
  have hx := X.1
  have hb := X.2.1
  have J70 : ∀ (x1 : Int32) (x2 : Int32) (x3 : Int32) (k1 : Int32) (k2 : Int32) (S : vS), f_X4_pact_J70 x1 x2 x3 k1 k2 S = some (R9, S9) → ∀ (H : Heap) (locs : List Loc) (ls : Array Slot), WD D cI cO ad s S H locs → lv_has ls 4 [(0, .ref (ad 5)), (1, .int x1), (2, .int x2), (3, .int x3)] → W p l e ({ frames := 1, cells := 0, slots := 0, locals := 21 }) s m args below meth c H locs 0 0 Q (F0 m 70 ls [.int k2, .int k1, .ref (ar ad 12)]) := by
    intro x1 x2 x3 k1 k2 S hf H locs ls hw hl
    unfold f_X4_pact_J70 at hf
    obtain ⟨h18, hf⟩ := if_s hf
    refine x_iast X hw 12 ⟨Nat.le_of_ble_eq_true rfl, Nat.le_of_ble_eq_true rfl⟩ rfl h18 (k1.toNatClampNeg) rfl dX4_pact_70 (fun S19 eS19 H locs hw => ?_)
    replace hf := lt_e eS19 hf
    refine lv_aload_n hx hb dX4_pact_71 rfl (lv_at hl 0 rfl) ?_
    refine x_get X hw 5 (Nat.le_of_ble_eq_true rfl) ce5 rfl i_X4 11 (by decide) q601 ⟨rfl, rfl, rfl⟩ rfl dX4_pact_72 ?_
    refine lv_bipush (v := 6) hx hb dX4_pact_75 (by decide +kernel) ?_
    refine lv_iload_n hx hb dX4_pact_77 rfl (lv_at hl 2 rfl) ?_
    refine lv_imul hx hb dX4_pact_78 ?_
    refine lv_iload_n hx hb dX4_pact_79 rfl (lv_at hl 1 rfl) ?_
    refine lv_iadd hx hb dX4_pact_80 ?_
    refine lv_iload_n hx hb dX4_pact_81 rfl (lv_at hl 3 rfl) ?_
    refine lv_if_eq (tgt := 89) hx hb dX4_pact_82 (by decide) (fun c20 => ?_) (fun c20 => ?_)
    · replace hf := if_t c20 hf
      refine lv_iconst (v := 0) hx hb dX4_pact_89 (by decide) ?_
      obtain ⟨h21, hf⟩ := if_s hf
      refine x_iast X hw 12 ⟨Nat.le_of_ble_eq_true rfl, Nat.le_of_ble_eq_true rfl⟩ rfl h21 ((((6 : Int32) * x2) + x1).toNatClampNeg) rfl dX4_pact_90 (fun S22 eS22 H locs hw => ?_)
      replace hf := lt_e eS22 hf
      refine lv_iconst (v := 1) hx hb dX4_pact_91 (by decide) ?_
      exact hfin _ _ _ _ _ _ hw (s2a hf) (s2b hf) (narI _) dX4_pact_92
    · replace hf := if_f c20 hf
      refine lv_iconst (v := 1) hx hb dX4_pact_85 (by decide) ?_
      refine lv_goto (tgt := 90) hx hb dX4_pact_86 (by decide) ?_
      obtain ⟨h23, hf⟩ := if_s hf
      refine x_iast X hw 12 ⟨Nat.le_of_ble_eq_true rfl, Nat.le_of_ble_eq_true rfl⟩ rfl h23 ((((6 : Int32) * x2) + x1).toNatClampNeg) rfl dX4_pact_90 (fun S24 eS24 H locs hw => ?_)
      replace hf := lt_e eS24 hf
      refine lv_iconst (v := 1) hx hb dX4_pact_91 (by decide) ?_
      exact hfin _ _ _ _ _ _ hw (s2a hf) (s2b hf) (narI _) dX4_pact_92
  have J45 : ∀ (x1 : Int32) (x2 : Int32) (x3 : Int32) (k0 : Int32) (S : vS), f_X4_pact_J45 x1 x2 x3 k0 S = some (R9, S9) → ∀ (H : Heap) (locs : List Loc) (ls : Array Slot), WD D cI cO ad s S H locs → lv_has ls 4 [(0, .ref (ad 5)), (1, .int x1), (2, .int x2), (3, .int x3)] → W p l e ({ frames := 1, cells := 0, slots := 0, locals := 21 }) s m args below meth c H locs 0 0 Q (F0 m 45 ls [.int k0]) := by
    intro x1 x2 x3 k0 S hf H locs ls hw hl
    unfold f_X4_pact_J45 at hf
    refine lv_iload_n hx hb dX4_pact_45 rfl (lv_at hl 3 rfl) ?_
    refine lv_icmp_ne (tgt := 51) hx hb dX4_pact_46 (by decide) (fun c16 => ?_) (fun c16 => ?_)
    · replace hf := if_f c16 hf
      refine lv_aload_n hx hb dX4_pact_51 rfl (lv_at hl 0 rfl) ?_
      refine x_get X hw 5 (Nat.le_of_ble_eq_true rfl) ce5 rfl i_X4 11 (by decide) q601 ⟨rfl, rfl, rfl⟩ rfl dX4_pact_52 ?_
      refine lv_bipush (v := 6) hx hb dX4_pact_55 (by decide +kernel) ?_
      refine lv_iload_n hx hb dX4_pact_57 rfl (lv_at hl 1 rfl) ?_
      refine lv_imul hx hb dX4_pact_58 ?_
      refine lv_iload_n hx hb dX4_pact_59 rfl (lv_at hl 2 rfl) ?_
      refine lv_iadd hx hb dX4_pact_60 ?_
      refine lv_iload_n hx hb dX4_pact_61 rfl (lv_at hl 3 rfl) ?_
      refine lv_if_eq (tgt := 69) hx hb dX4_pact_62 (by decide) (fun c17 => ?_) (fun c17 => ?_)
      · replace hf := if_t c17 hf
        refine lv_iconst (v := 0) hx hb dX4_pact_69 (by decide) ?_
        exact J70 x1 x2 x3 (((6 : Int32) * x1) + x2) (0 : Int32) S hf _ _ _ hw hl
      · replace hf := if_f c17 hf
        refine lv_iconst (v := 1) hx hb dX4_pact_65 (by decide) ?_
        refine lv_goto (tgt := 70) hx hb dX4_pact_66 (by decide) ?_
        exact J70 x1 x2 x3 (((6 : Int32) * x1) + x2) (1 : Int32) S hf _ _ _ hw hl
    · replace hf := if_t c16 hf
      refine lv_iconst (v := 0) hx hb dX4_pact_49 (by decide) ?_
      exact hfin _ _ _ _ _ _ hw (s2a hf) (s2b hf) (narI _) dX4_pact_50
  unfold f_X4_pact at hf
  refine lv_iload_n hx hb dX4_pact_0 rfl (lv_at hl 1 rfl) ?_
  obtain ⟨r2, h1, hf⟩ := b1_s hf
  refine kSi X hw (c_X4_isLand l D cI cO ad a1 S r2 h1) ⟨rfl, rfl⟩ q705 q706 q64 q707 hd_X4_isLand ⟨Nat.le_of_ble_eq_true rfl, Nat.le_of_ble_eq_true rfl⟩ rfl hl.1 rfl (Nat.le_of_ble_eq_true rfl) dX4_pact_1 (fun H locs hw => ?_)
  refine lv_if_eq (tgt := 19) hx hb dX4_pact_4 (by decide) (fun c3 => ?_) (fun c3 => ?_)
  · replace hf := if_t c3 hf
    refine lv_aload_n hx hb dX4_pact_19 rfl (lv_at hl 0 rfl) ?_
    refine lv_iconst (v := -1) hx hb dX4_pact_20 (by decide) ?_
    obtain ⟨r6, S5, h4, hf⟩ := b2_s hf
    refine kVi X hw (c_X4_no l D cI cO ad (-1 : Int32) S r6 S5 h4) (Nat.le_of_ble_eq_true rfl) ce5 rfl ⟨rfl, rfl⟩ q688 q690 q34 q64 q691 hd_X4_no ⟨Nat.le_of_ble_eq_true rfl, Nat.le_of_ble_eq_true rfl⟩ rfl hl.1 rfl (Nat.le_of_ble_eq_true rfl) dX4_pact_21 (fun H locs hw => ?_)
    exact hfin _ _ _ _ _ _ hw (s2a hf) (s2b hf) (narI _) dX4_pact_24
  · replace hf := if_f c3 hf
    refine lv_iload_n hx hb dX4_pact_7 rfl (lv_at hl 2 rfl) ?_
    obtain ⟨r8, h7, hf⟩ := b1_s hf
    refine kSi X hw (c_X4_isLand l D cI cO ad a2 S r8 h7) ⟨rfl, rfl⟩ q705 q706 q64 q707 hd_X4_isLand ⟨Nat.le_of_ble_eq_true rfl, Nat.le_of_ble_eq_true rfl⟩ rfl hl.1 rfl (Nat.le_of_ble_eq_true rfl) dX4_pact_8 (fun H locs hw => ?_)
    refine lv_if_eq (tgt := 19) hx hb dX4_pact_11 (by decide) (fun c9 => ?_) (fun c9 => ?_)
    · replace hf := if_t c9 hf
      refine lv_aload_n hx hb dX4_pact_19 rfl (lv_at hl 0 rfl) ?_
      refine lv_iconst (v := -1) hx hb dX4_pact_20 (by decide) ?_
      obtain ⟨r12, S11, h10, hf⟩ := b2_s hf
      refine kVi X hw (c_X4_no l D cI cO ad (-1 : Int32) S r12 S11 h10) (Nat.le_of_ble_eq_true rfl) ce5 rfl ⟨rfl, rfl⟩ q688 q690 q34 q64 q691 hd_X4_no ⟨Nat.le_of_ble_eq_true rfl, Nat.le_of_ble_eq_true rfl⟩ rfl hl.1 rfl (Nat.le_of_ble_eq_true rfl) dX4_pact_21 (fun H locs hw => ?_)
      exact hfin _ _ _ _ _ _ hw (s2a hf) (s2b hf) (narI _) dX4_pact_24
    · replace hf := if_f c9 hf
      refine lv_iload_n hx hb dX4_pact_14 rfl (lv_at hl 1 rfl) ?_
      refine lv_iload_n hx hb dX4_pact_15 rfl (lv_at hl 2 rfl) ?_
      refine lv_icmp_ne (tgt := 25) hx hb dX4_pact_16 (by decide) (fun c13 => ?_) (fun c13 => ?_)
      · replace hf := if_f c13 hf
        refine lv_aload_n hx hb dX4_pact_25 rfl (lv_at hl 0 rfl) ?_
        refine x_get X hw 5 (Nat.le_of_ble_eq_true rfl) ce5 rfl i_X4 11 (by decide) q601 ⟨rfl, rfl, rfl⟩ rfl dX4_pact_26 ?_
        refine lv_bipush (v := 6) hx hb dX4_pact_29 (by decide +kernel) ?_
        refine lv_iload_n hx hb dX4_pact_31 rfl (lv_at hl 1 rfl) ?_
        refine lv_imul hx hb dX4_pact_32 ?_
        refine lv_iload_n hx hb dX4_pact_33 rfl (lv_at hl 2 rfl) ?_
        refine lv_iadd hx hb dX4_pact_34 ?_
        obtain ⟨h14, hf⟩ := if_s hf
        refine x_iald X hw 12 ⟨Nat.le_of_ble_eq_true rfl, Nat.le_of_ble_eq_true rfl⟩ rfl h14 ((((6 : Int32) * a1) + a2).toNatClampNeg) rfl dX4_pact_35 ?_
        refine lv_iconst (v := 1) hx hb dX4_pact_36 (by decide) ?_
        refine lv_icmp_ne (tgt := 44) hx hb dX4_pact_37 (by decide) (fun c15 => ?_) (fun c15 => ?_)
        · replace hf := if_f c15 hf
          refine lv_iconst (v := 0) hx hb dX4_pact_44 (by decide) ?_
          exact J45 a1 a2 a3 (0 : Int32) S hf _ _ _ hw hl
        · replace hf := if_t c15 hf
          refine lv_iconst (v := 1) hx hb dX4_pact_40 (by decide) ?_
          refine lv_goto (tgt := 45) hx hb dX4_pact_41 (by decide) ?_
          exact J45 a1 a2 a3 (1 : Int32) S hf _ _ _ hw hl
      · replace hf := if_t c13 hf
        refine lv_aload_n hx hb dX4_pact_19 rfl (lv_at hl 0 rfl) ?_
        refine lv_iconst (v := -1) hx hb dX4_pact_20 (by decide) ?_
        obtain ⟨r27, S26, h25, hf⟩ := b2_s hf
        refine kVi X hw (c_X4_no l D cI cO ad (-1 : Int32) S r27 S26 h25) (Nat.le_of_ble_eq_true rfl) ce5 rfl ⟨rfl, rfl⟩ q688 q690 q34 q64 q691 hd_X4_no ⟨Nat.le_of_ble_eq_true rfl, Nat.le_of_ble_eq_true rfl⟩ rfl hl.1 rfl (Nat.le_of_ble_eq_true rfl) dX4_pact_21 (fun H locs hw => ?_)
        exact hfin _ _ _ _ _ _ hw (s2a hf) (s2b hf) (narI _) dX4_pact_24
end
section
/-- NineLandsModel.putPay(II)I -/
theorem dX4_putPay_0 : decode cX4_putPay 0 = .ok (.aload_n 0, 1) := by decide +kernel
theorem dX4_putPay_1 : decode cX4_putPay 1 = .ok (.getfield 53, 3) := by decide +kernel
theorem dX4_putPay_4 : decode cX4_putPay 4 = .ok (.sipush 900, 3) := by decide +kernel
theorem dX4_putPay_7 : decode cX4_putPay 7 = .ok (.iload_n 1, 1) := by decide +kernel
theorem dX4_putPay_8 : decode cX4_putPay 8 = .ok (.imul, 1) := by decide +kernel
theorem dX4_putPay_9 : decode cX4_putPay 9 = .ok (.iload_n 2, 1) := by decide +kernel
theorem dX4_putPay_10 : decode cX4_putPay 10 = .ok (.iadd, 1) := by decide +kernel
theorem dX4_putPay_11 : decode cX4_putPay 11 = .ok (.iaload, 1) := by decide +kernel
theorem dX4_putPay_12 : decode cX4_putPay 12 = .ok (.ifCond .lt 16, 3) := by decide +kernel
theorem dX4_putPay_15 : decode cX4_putPay 15 = .ok (.aload_n 0, 1) := by decide +kernel
theorem dX4_putPay_16 : decode cX4_putPay 16 = .ok (.getfield 53, 3) := by decide +kernel
theorem dX4_putPay_19 : decode cX4_putPay 19 = .ok (.sipush 900, 3) := by decide +kernel
theorem dX4_putPay_22 : decode cX4_putPay 22 = .ok (.iload_n 1, 1) := by decide +kernel
theorem dX4_putPay_23 : decode cX4_putPay 23 = .ok (.imul, 1) := by decide +kernel
theorem dX4_putPay_24 : decode cX4_putPay 24 = .ok (.iload_n 2, 1) := by decide +kernel
theorem dX4_putPay_25 : decode cX4_putPay 25 = .ok (.iadd, 1) := by decide +kernel
theorem dX4_putPay_26 : decode cX4_putPay 26 = .ok (.iaload, 1) := by decide +kernel
theorem dX4_putPay_27 : decode cX4_putPay 27 = .ok (.ireturn, 1) := by decide +kernel
theorem dX4_putPay_28 : decode cX4_putPay 28 = .ok (.iconst 0, 1) := by decide +kernel
theorem dX4_putPay_29 : decode cX4_putPay 29 = .ok (.istore_n 3, 1) := by decide +kernel
theorem dX4_putPay_30 : decode cX4_putPay 30 = .ok (.iload_n 3, 1) := by decide +kernel
theorem dX4_putPay_31 : decode cX4_putPay 31 = .ok (.bipush 6, 2) := by decide +kernel
theorem dX4_putPay_33 : decode cX4_putPay 33 = .ok (.if_icmp .ge 52, 3) := by decide +kernel
theorem dX4_putPay_36 : decode cX4_putPay 36 = .ok (.aload_n 0, 1) := by decide +kernel
theorem dX4_putPay_37 : decode cX4_putPay 37 = .ok (.getfield 43, 3) := by decide +kernel
theorem dX4_putPay_40 : decode cX4_putPay 40 = .ok (.bipush 6, 2) := by decide +kernel
theorem dX4_putPay_42 : decode cX4_putPay 42 = .ok (.iload_n 1, 1) := by decide +kernel
theorem dX4_putPay_43 : decode cX4_putPay 43 = .ok (.imul, 1) := by decide +kernel
theorem dX4_putPay_44 : decode cX4_putPay 44 = .ok (.iload_n 3, 1) := by decide +kernel
theorem dX4_putPay_45 : decode cX4_putPay 45 = .ok (.iadd, 1) := by decide +kernel
theorem dX4_putPay_46 : decode cX4_putPay 46 = .ok (.iaload, 1) := by decide +kernel
theorem dX4_putPay_47 : decode cX4_putPay 47 = .ok (.iconst 1, 1) := by decide +kernel
theorem dX4_putPay_48 : decode cX4_putPay 48 = .ok (.if_icmp .ne 31, 3) := by decide +kernel
theorem dX4_putPay_51 : decode cX4_putPay 51 = .ok (.aload_n 0, 1) := by decide +kernel
theorem dX4_putPay_52 : decode cX4_putPay 52 = .ok (.getfield 53, 3) := by decide +kernel
theorem dX4_putPay_55 : decode cX4_putPay 55 = .ok (.sipush 900, 3) := by decide +kernel
theorem dX4_putPay_58 : decode cX4_putPay 58 = .ok (.iload_n 3, 1) := by decide +kernel
theorem dX4_putPay_59 : decode cX4_putPay 59 = .ok (.imul, 1) := by decide +kernel
theorem dX4_putPay_60 : decode cX4_putPay 60 = .ok (.iload_n 2, 1) := by decide +kernel
theorem dX4_putPay_61 : decode cX4_putPay 61 = .ok (.iadd, 1) := by decide +kernel
theorem dX4_putPay_62 : decode cX4_putPay 62 = .ok (.iaload, 1) := by decide +kernel
theorem dX4_putPay_63 : decode cX4_putPay 63 = .ok (.ifCond .lt 16, 3) := by decide +kernel
theorem dX4_putPay_66 : decode cX4_putPay 66 = .ok (.aload_n 0, 1) := by decide +kernel
theorem dX4_putPay_67 : decode cX4_putPay 67 = .ok (.getfield 53, 3) := by decide +kernel
theorem dX4_putPay_70 : decode cX4_putPay 70 = .ok (.sipush 900, 3) := by decide +kernel
theorem dX4_putPay_73 : decode cX4_putPay 73 = .ok (.iload_n 3, 1) := by decide +kernel
theorem dX4_putPay_74 : decode cX4_putPay 74 = .ok (.imul, 1) := by decide +kernel
theorem dX4_putPay_75 : decode cX4_putPay 75 = .ok (.iload_n 2, 1) := by decide +kernel
theorem dX4_putPay_76 : decode cX4_putPay 76 = .ok (.iadd, 1) := by decide +kernel
theorem dX4_putPay_77 : decode cX4_putPay 77 = .ok (.iaload, 1) := by decide +kernel
theorem dX4_putPay_78 : decode cX4_putPay 78 = .ok (.ireturn, 1) := by decide +kernel
theorem dX4_putPay_79 : decode cX4_putPay 79 = .ok (.iinc 3 1, 3) := by decide +kernel
theorem dX4_putPay_82 : decode cX4_putPay 82 = .ok (.goto (-52), 3) := by decide +kernel
theorem dX4_putPay_85 : decode cX4_putPay 85 = .ok (.iconst (-1), 1) := by decide +kernel
theorem dX4_putPay_86 : decode cX4_putPay 86 = .ok (.ireturn, 1) := by decide +kernel
theorem hd_X4_putPay : yX4_putPay.cls ≠ "java/lang/invoke/MethodHandle" ∧ yX4_putPay.cls ≠ "java/lang/invoke/VarHandle" ∧ (parseMethodDescriptor yX4_putPay.desc).map (fun d => d.parameters.length) = some 2 := by decide +kernel
def f_X4_putPay_L30 (S : vS) : Nat → Int32 → Int32 → Int32 →  Option (Unit ⊕ Int32)
  | 0, _, _, _ => none
  | n + 1, x1, x2, x3 => if (6 : Int32) ≤ x3 then some (.inl (())) else if inb (((6 : Int32) * x1) + x3) 36 = true then if (S 12 ((((6 : Int32) * x1) + x3).toNatClampNeg)) = (1 : Int32) then if inb (((900 : Int32) * x3) + x2) 5400 = true then if (S 14 ((((900 : Int32) * x3) + x2).toNatClampNeg)) < 0 then (f_X4_putPay_L30 S n) x1 x2 (x3 + 1) else some (.inr (S 14 ((((900 : Int32) * x3) + x2).toNatClampNeg))) else none else (f_X4_putPay_L30 S n) x1 x2 (x3 + 1) else none
def f_X4_putPay (a1 : Int32) (a2 : Int32) (S : vS) : Option Int32 := if inb (((900 : Int32) * a1) + a2) 5400 = true then if (S 14 ((((900 : Int32) * a1) + a2).toNatClampNeg)) < 0 then bS (f_X4_putPay_L30 S FU a1 a2 (0 : Int32)) some fun _ => some (-1 : Int32) else some (S 14 ((((900 : Int32) * a1) + a2).toNatClampNeg)) else none
set_option maxHeartbeats 4000000 in
set_option maxRecDepth 20000 in
theorem c_X4_putPay (l : Launch) (D : va_G) (cI cO : ClassId) (ad : Nat → Nat) (a1 : Int32) (a2 : Int32) (S : vS) (R9 : Int32) (hf : f_X4_putPay a1 a2 S = some R9) : CI l yX4_putPay cX4_putPay 4 .int ({ frames := 0, cells := 0, slots := 0, locals := 0 }) [.ref (ad 5), .int a1, .int a2] D cI cO ad S R9 S := by
  refine CI.of (by decide +kernel) (Nat.le_of_ble_eq_true rfl) (fun p e s m args below meth c Q ls X hl hw hfin => ?_)
  have hl : lv_has ls 4 [(0, .ref (ad 5)), (1, .int a1), (2, .int a2)] := hl
  have hx := X.1
  have hb := X.2.1
  have L30 : ∀ (n : Nat) (x1 : Int32) (x2 : Int32) (x3 : Int32) (res : (Unit ⊕ Int32)), f_X4_putPay_L30 S n x1 x2 x3 = some res → (K : some (Sum.inl (())) = some res → ∀ (H : Heap) (locs : List Loc) (ls : Array Slot), WD D cI cO ad s S H locs → lv_has ls 4 [] → W p l e ({ frames := 0, cells := 0, slots := 0, locals := 0 }) s m args below meth c H locs 0 0 Q (F0 m 85 ls [])) → (K2 : ∀ q : Int32, some (Sum.inr q) = some res → some q = some R9) → ∀ (H : Heap) (locs : List Loc) (ls : Array Slot), WD D cI cO ad s S H locs → lv_has ls 4 [(0, .ref (ad 5)), (1, .int x1), (2, .int x2), (3, .int x3)] → W p l e ({ frames := 0, cells := 0, slots := 0, locals := 0 }) s m args below meth c H locs 0 0 Q (F0 m 30 ls []) := by
    intro n
    induction n with
    | zero => intro x1 x2 x3 res hf; cases hf
    | succ n ih =>
      intro x1 x2 x3 res hf K K2 H locs ls hw hl
      unfold f_X4_putPay_L30 at hf
      refine lv_iload_n hx hb dX4_putPay_30 rfl (lv_at hl 3 rfl) ?_
      refine lv_bipush (v := 6) hx hb dX4_putPay_31 (by decide +kernel) ?_
      refine lv_icmp_ge (tgt := 85) hx hb dX4_putPay_33 (by decide) (fun c3 => ?_) (fun c3 => ?_)
      · replace hf := if_t c3 hf
        exact K  hf _ _ _ hw (lv_sub hl [] rfl)
      · replace hf := if_f c3 hf
        refine lv_aload_n hx hb dX4_putPay_36 rfl (lv_at hl 0 rfl) ?_
        refine x_get X hw 5 (Nat.le_of_ble_eq_true rfl) ce5 rfl i_X4 11 (by decide) q601 ⟨rfl, rfl, rfl⟩ rfl dX4_putPay_37 ?_
        refine lv_bipush (v := 6) hx hb dX4_putPay_40 (by decide +kernel) ?_
        refine lv_iload_n hx hb dX4_putPay_42 rfl (lv_at hl 1 rfl) ?_
        refine lv_imul hx hb dX4_putPay_43 ?_
        refine lv_iload_n hx hb dX4_putPay_44 rfl (lv_at hl 3 rfl) ?_
        refine lv_iadd hx hb dX4_putPay_45 ?_
        obtain ⟨h4, hf⟩ := if_s hf
        refine x_iald X hw 12 ⟨Nat.le_of_ble_eq_true rfl, Nat.le_of_ble_eq_true rfl⟩ rfl h4 ((((6 : Int32) * x1) + x3).toNatClampNeg) rfl dX4_putPay_46 ?_
        refine lv_iconst (v := 1) hx hb dX4_putPay_47 (by decide) ?_
        refine lv_icmp_ne (tgt := 79) hx hb dX4_putPay_48 (by decide) (fun c5 => ?_) (fun c5 => ?_)
        · replace hf := if_f c5 hf
          refine lv_iinc (v := (x3 + 1)) (lv' := [(3, .int (x3 + 1)), (0, .ref (ad 5)), (1, .int x1), (2, .int x2)]) hx hb dX4_putPay_79 hl (k := 3) rfl rfl (by decide) rfl (fun ls hl => ?_)
          refine lv_goto (tgt := 30) hx hb dX4_putPay_82 (by decide) ?_
          exact ih x1 x2 (x3 + 1) _ hf K K2 _ _ _ hw (lv_sub hl [1, 2, 3, 0] rfl)
        · replace hf := if_t c5 hf
          refine lv_aload_n hx hb dX4_putPay_51 rfl (lv_at hl 0 rfl) ?_
          refine x_get X hw 5 (Nat.le_of_ble_eq_true rfl) ce5 rfl i_X4 17 (by decide) q607 ⟨rfl, rfl, rfl⟩ rfl dX4_putPay_52 ?_
          refine lv_sipush (v := 900) hx hb dX4_putPay_55 (by decide +kernel) ?_
          refine lv_iload_n hx hb dX4_putPay_58 rfl (lv_at hl 3 rfl) ?_
          refine lv_imul hx hb dX4_putPay_59 ?_
          refine lv_iload_n hx hb dX4_putPay_60 rfl (lv_at hl 2 rfl) ?_
          refine lv_iadd hx hb dX4_putPay_61 ?_
          obtain ⟨h6, hf⟩ := if_s hf
          refine x_iald X hw 14 ⟨Nat.le_of_ble_eq_true rfl, Nat.le_of_ble_eq_true rfl⟩ rfl h6 ((((900 : Int32) * x3) + x2).toNatClampNeg) rfl dX4_putPay_62 ?_
          refine lv_if_lt (tgt := 79) hx hb dX4_putPay_63 (by decide) (fun c7 => ?_) (fun c7 => ?_)
          · replace hf := if_t c7 hf
            refine lv_iinc (v := (x3 + 1)) (lv' := [(3, .int (x3 + 1)), (0, .ref (ad 5)), (1, .int x1), (2, .int x2)]) hx hb dX4_putPay_79 hl (k := 3) rfl rfl (by decide) rfl (fun ls hl => ?_)
            refine lv_goto (tgt := 30) hx hb dX4_putPay_82 (by decide) ?_
            exact ih x1 x2 (x3 + 1) _ hf K K2 _ _ _ hw (lv_sub hl [1, 2, 3, 0] rfl)
          · replace hf := if_f c7 hf
            refine lv_aload_n hx hb dX4_putPay_66 rfl (lv_at hl 0 rfl) ?_
            refine x_get X hw 5 (Nat.le_of_ble_eq_true rfl) ce5 rfl i_X4 17 (by decide) q607 ⟨rfl, rfl, rfl⟩ rfl dX4_putPay_67 ?_
            refine lv_sipush (v := 900) hx hb dX4_putPay_70 (by decide +kernel) ?_
            refine lv_iload_n hx hb dX4_putPay_73 rfl (lv_at hl 3 rfl) ?_
            refine lv_imul hx hb dX4_putPay_74 ?_
            refine lv_iload_n hx hb dX4_putPay_75 rfl (lv_at hl 2 rfl) ?_
            refine lv_iadd hx hb dX4_putPay_76 ?_
            refine x_iald X hw 14 ⟨Nat.le_of_ble_eq_true rfl, Nat.le_of_ble_eq_true rfl⟩ rfl h6 ((((900 : Int32) * x3) + x2).toNatClampNeg) rfl dX4_putPay_77 ?_
            replace hf := K2 _ hf
            exact hfin _ _ _ _ _ _ hw (Option.some.inj hf) rfl (narI _) dX4_putPay_78
  unfold f_X4_putPay at hf
  refine lv_aload_n hx hb dX4_putPay_0 rfl (lv_at hl 0 rfl) ?_
  refine x_get X hw 5 (Nat.le_of_ble_eq_true rfl) ce5 rfl i_X4 17 (by decide) q607 ⟨rfl, rfl, rfl⟩ rfl dX4_putPay_1 ?_
  refine lv_sipush (v := 900) hx hb dX4_putPay_4 (by decide +kernel) ?_
  refine lv_iload_n hx hb dX4_putPay_7 rfl (lv_at hl 1 rfl) ?_
  refine lv_imul hx hb dX4_putPay_8 ?_
  refine lv_iload_n hx hb dX4_putPay_9 rfl (lv_at hl 2 rfl) ?_
  refine lv_iadd hx hb dX4_putPay_10 ?_
  obtain ⟨h1, hf⟩ := if_s hf
  refine x_iald X hw 14 ⟨Nat.le_of_ble_eq_true rfl, Nat.le_of_ble_eq_true rfl⟩ rfl h1 ((((900 : Int32) * a1) + a2).toNatClampNeg) rfl dX4_putPay_11 ?_
  refine lv_if_lt (tgt := 28) hx hb dX4_putPay_12 (by decide) (fun c2 => ?_) (fun c2 => ?_)
  · replace hf := if_t c2 hf
    refine lv_iconst (v := 0) hx hb dX4_putPay_28 (by decide) ?_
    refine lv_istore_n (lv' := [(3, .int (0 : Int32)), (0, .ref (ad 5)), (1, .int a1), (2, .int a2)]) hx hb dX4_putPay_29 rfl hl (by decide) rfl (fun ls hl => ?_)
    obtain ⟨res, h8, hk1, hk2⟩ := bS_x hf
    refine L30 FU a1 a2 (0 : Int32) res h8 (fun eK H locs ls hw hl => ?_) (fun q eK => hk2 q (Option.some.inj eK).symm) _ _ _ hw (lv_sub hl [1, 2, 3, 0] rfl)
    replace hf := hk1 _ (Option.some.inj eK).symm
    refine lv_iconst (v := -1) hx hb dX4_putPay_85 (by decide) ?_
    exact hfin _ _ _ _ _ _ hw (Option.some.inj hf) rfl (narI _) dX4_putPay_86
  · replace hf := if_f c2 hf
    refine lv_aload_n hx hb dX4_putPay_15 rfl (lv_at hl 0 rfl) ?_
    refine x_get X hw 5 (Nat.le_of_ble_eq_true rfl) ce5 rfl i_X4 17 (by decide) q607 ⟨rfl, rfl, rfl⟩ rfl dX4_putPay_16 ?_
    refine lv_sipush (v := 900) hx hb dX4_putPay_19 (by decide +kernel) ?_
    refine lv_iload_n hx hb dX4_putPay_22 rfl (lv_at hl 1 rfl) ?_
    refine lv_imul hx hb dX4_putPay_23 ?_
    refine lv_iload_n hx hb dX4_putPay_24 rfl (lv_at hl 2 rfl) ?_
    refine lv_iadd hx hb dX4_putPay_25 ?_
    refine x_iald X hw 14 ⟨Nat.le_of_ble_eq_true rfl, Nat.le_of_ble_eq_true rfl⟩ rfl h1 ((((900 : Int32) * a1) + a2).toNatClampNeg) rfl dX4_putPay_26 ?_
    exact hfin _ _ _ _ _ _ hw (Option.some.inj hf) rfl (narI _) dX4_putPay_27
/-- NineLandsModel.sums(I)V -/
theorem dX4_sums_0 : decode cX4_sums 0 = .ok (.aload_n 0, 1) := by decide +kernel
theorem dX4_sums_1 : decode cX4_sums 1 = .ok (.getfield 56, 3) := by decide +kernel
theorem dX4_sums_4 : decode cX4_sums 4 = .ok (.iload_n 1, 1) := by decide +kernel
theorem dX4_sums_5 : decode cX4_sums 5 = .ok (.iconst 0, 1) := by decide +kernel
theorem dX4_sums_6 : decode cX4_sums 6 = .ok (.iastore, 1) := by decide +kernel
theorem dX4_sums_7 : decode cX4_sums 7 = .ok (.aload_n 0, 1) := by decide +kernel
theorem dX4_sums_8 : decode cX4_sums 8 = .ok (.getfield 59, 3) := by decide +kernel
theorem dX4_sums_11 : decode cX4_sums 11 = .ok (.iload_n 1, 1) := by decide +kernel
theorem dX4_sums_12 : decode cX4_sums 12 = .ok (.iconst 0, 1) := by decide +kernel
theorem dX4_sums_13 : decode cX4_sums 13 = .ok (.iastore, 1) := by decide +kernel
theorem dX4_sums_14 : decode cX4_sums 14 = .ok (.aload_n 0, 1) := by decide +kernel
theorem dX4_sums_15 : decode cX4_sums 15 = .ok (.getfield 62, 3) := by decide +kernel
theorem dX4_sums_18 : decode cX4_sums 18 = .ok (.iload_n 1, 1) := by decide +kernel
theorem dX4_sums_19 : decode cX4_sums 19 = .ok (.iconst 0, 1) := by decide +kernel
theorem dX4_sums_20 : decode cX4_sums 20 = .ok (.iastore, 1) := by decide +kernel
theorem dX4_sums_21 : decode cX4_sums 21 = .ok (.aload_n 0, 1) := by decide +kernel
theorem dX4_sums_22 : decode cX4_sums 22 = .ok (.getfield 65, 3) := by decide +kernel
theorem dX4_sums_25 : decode cX4_sums 25 = .ok (.iload_n 1, 1) := by decide +kernel
theorem dX4_sums_26 : decode cX4_sums 26 = .ok (.iconst 0, 1) := by decide +kernel
theorem dX4_sums_27 : decode cX4_sums 27 = .ok (.iastore, 1) := by decide +kernel
theorem dX4_sums_28 : decode cX4_sums 28 = .ok (.iconst 0, 1) := by decide +kernel
theorem dX4_sums_29 : decode cX4_sums 29 = .ok (.istore_n 2, 1) := by decide +kernel
theorem dX4_sums_30 : decode cX4_sums 30 = .ok (.iload_n 2, 1) := by decide +kernel
theorem dX4_sums_31 : decode cX4_sums 31 = .ok (.sipush 900, 3) := by decide +kernel
theorem dX4_sums_34 : decode cX4_sums 34 = .ok (.if_icmp .ge 105, 3) := by decide +kernel
theorem dX4_sums_37 : decode cX4_sums 37 = .ok (.aload_n 0, 1) := by decide +kernel
theorem dX4_sums_38 : decode cX4_sums 38 = .ok (.getfield 53, 3) := by decide +kernel
theorem dX4_sums_41 : decode cX4_sums 41 = .ok (.sipush 900, 3) := by decide +kernel
theorem dX4_sums_44 : decode cX4_sums 44 = .ok (.iload_n 1, 1) := by decide +kernel
theorem dX4_sums_45 : decode cX4_sums 45 = .ok (.imul, 1) := by decide +kernel
theorem dX4_sums_46 : decode cX4_sums 46 = .ok (.iload_n 2, 1) := by decide +kernel
theorem dX4_sums_47 : decode cX4_sums 47 = .ok (.iadd, 1) := by decide +kernel
theorem dX4_sums_48 : decode cX4_sums 48 = .ok (.iaload, 1) := by decide +kernel
theorem dX4_sums_49 : decode cX4_sums 49 = .ok (.istore_n 3, 1) := by decide +kernel
theorem dX4_sums_50 : decode cX4_sums 50 = .ok (.aload_n 0, 1) := by decide +kernel
theorem dX4_sums_51 : decode cX4_sums 51 = .ok (.iload_n 1, 1) := by decide +kernel
theorem dX4_sums_52 : decode cX4_sums 52 = .ok (.iload_n 2, 1) := by decide +kernel
theorem dX4_sums_53 : decode cX4_sums 53 = .ok (.invokevirtual 130, 3) := by decide +kernel
theorem dX4_sums_56 : decode cX4_sums 56 = .ok (.istore 4, 2) := by decide +kernel
theorem dX4_sums_58 : decode cX4_sums 58 = .ok (.aload_n 0, 1) := by decide +kernel
theorem dX4_sums_59 : decode cX4_sums 59 = .ok (.getfield 56, 3) := by decide +kernel
theorem dX4_sums_62 : decode cX4_sums 62 = .ok (.iload_n 1, 1) := by decide +kernel
theorem dX4_sums_63 : decode cX4_sums 63 = .ok (.dup2, 1) := by decide +kernel
theorem dX4_sums_64 : decode cX4_sums 64 = .ok (.iaload, 1) := by decide +kernel
theorem dX4_sums_65 : decode cX4_sums 65 = .ok (.iload_n 3, 1) := by decide +kernel
theorem dX4_sums_66 : decode cX4_sums 66 = .ok (.ifCond .lt 7, 3) := by decide +kernel
theorem dX4_sums_69 : decode cX4_sums 69 = .ok (.iconst 1, 1) := by decide +kernel
theorem dX4_sums_70 : decode cX4_sums 70 = .ok (.goto 4, 3) := by decide +kernel
theorem dX4_sums_73 : decode cX4_sums 73 = .ok (.iconst 0, 1) := by decide +kernel
theorem dX4_sums_74 : decode cX4_sums 74 = .ok (.iadd, 1) := by decide +kernel
theorem dX4_sums_75 : decode cX4_sums 75 = .ok (.iastore, 1) := by decide +kernel
theorem dX4_sums_76 : decode cX4_sums 76 = .ok (.aload_n 0, 1) := by decide +kernel
theorem dX4_sums_77 : decode cX4_sums 77 = .ok (.getfield 59, 3) := by decide +kernel
theorem dX4_sums_80 : decode cX4_sums 80 = .ok (.iload_n 1, 1) := by decide +kernel
theorem dX4_sums_81 : decode cX4_sums 81 = .ok (.dup2, 1) := by decide +kernel
theorem dX4_sums_82 : decode cX4_sums 82 = .ok (.iaload, 1) := by decide +kernel
theorem dX4_sums_83 : decode cX4_sums 83 = .ok (.iload_n 3, 1) := by decide +kernel
theorem dX4_sums_84 : decode cX4_sums 84 = .ok (.ifCond .lt 7, 3) := by decide +kernel
theorem dX4_sums_87 : decode cX4_sums 87 = .ok (.iload_n 3, 1) := by decide +kernel
theorem dX4_sums_88 : decode cX4_sums 88 = .ok (.goto 4, 3) := by decide +kernel
theorem dX4_sums_91 : decode cX4_sums 91 = .ok (.iconst 0, 1) := by decide +kernel
theorem dX4_sums_92 : decode cX4_sums 92 = .ok (.iadd, 1) := by decide +kernel
theorem dX4_sums_93 : decode cX4_sums 93 = .ok (.iastore, 1) := by decide +kernel
theorem dX4_sums_94 : decode cX4_sums 94 = .ok (.aload_n 0, 1) := by decide +kernel
theorem dX4_sums_95 : decode cX4_sums 95 = .ok (.getfield 62, 3) := by decide +kernel
theorem dX4_sums_98 : decode cX4_sums 98 = .ok (.iload_n 1, 1) := by decide +kernel
theorem dX4_sums_99 : decode cX4_sums 99 = .ok (.dup2, 1) := by decide +kernel
theorem dX4_sums_100 : decode cX4_sums 100 = .ok (.iaload, 1) := by decide +kernel
theorem dX4_sums_101 : decode cX4_sums 101 = .ok (.iload 4, 2) := by decide +kernel
theorem dX4_sums_103 : decode cX4_sums 103 = .ok (.ifCond .lt 7, 3) := by decide +kernel
theorem dX4_sums_106 : decode cX4_sums 106 = .ok (.iconst 1, 1) := by decide +kernel
theorem dX4_sums_107 : decode cX4_sums 107 = .ok (.goto 4, 3) := by decide +kernel
theorem dX4_sums_110 : decode cX4_sums 110 = .ok (.iconst 0, 1) := by decide +kernel
theorem dX4_sums_111 : decode cX4_sums 111 = .ok (.iadd, 1) := by decide +kernel
theorem dX4_sums_112 : decode cX4_sums 112 = .ok (.iastore, 1) := by decide +kernel
theorem dX4_sums_113 : decode cX4_sums 113 = .ok (.aload_n 0, 1) := by decide +kernel
theorem dX4_sums_114 : decode cX4_sums 114 = .ok (.getfield 65, 3) := by decide +kernel
theorem dX4_sums_117 : decode cX4_sums 117 = .ok (.iload_n 1, 1) := by decide +kernel
theorem dX4_sums_118 : decode cX4_sums 118 = .ok (.dup2, 1) := by decide +kernel
theorem dX4_sums_119 : decode cX4_sums 119 = .ok (.iaload, 1) := by decide +kernel
theorem dX4_sums_120 : decode cX4_sums 120 = .ok (.iload 4, 2) := by decide +kernel
theorem dX4_sums_122 : decode cX4_sums 122 = .ok (.ifCond .lt 8, 3) := by decide +kernel
theorem dX4_sums_125 : decode cX4_sums 125 = .ok (.iload 4, 2) := by decide +kernel
theorem dX4_sums_127 : decode cX4_sums 127 = .ok (.goto 4, 3) := by decide +kernel
theorem dX4_sums_130 : decode cX4_sums 130 = .ok (.iconst 0, 1) := by decide +kernel
theorem dX4_sums_131 : decode cX4_sums 131 = .ok (.iadd, 1) := by decide +kernel
theorem dX4_sums_132 : decode cX4_sums 132 = .ok (.iastore, 1) := by decide +kernel
theorem dX4_sums_133 : decode cX4_sums 133 = .ok (.iinc 2 1, 3) := by decide +kernel
theorem dX4_sums_136 : decode cX4_sums 136 = .ok (.goto (-106), 3) := by decide +kernel
theorem dX4_sums_139 : decode cX4_sums 139 = .ok (.return_, 1) := by decide +kernel
theorem hd_X4_sums : yX4_sums.cls ≠ "java/lang/invoke/MethodHandle" ∧ yX4_sums.cls ≠ "java/lang/invoke/VarHandle" ∧ (parseMethodDescriptor yX4_sums.desc).map (fun d => d.parameters.length) = some 1 := by decide +kernel
def f_X4_sums_J111 (rc : Int32 → Int32 → vS → Option vS) (x1 : Int32) (x2 : Int32) (x4 : Int32) (k1 : Int32) (k2 : Int32) (k3 : Int32) (S : vS) : Option vS := if inb k1 6 = true then lt (upk S 17 (upd (S 17) (k1.toNatClampNeg) (k2 + k3))) fun S22 => if inb x1 6 = true then if x4 < 0 then lt (upk S22 18 (upd (S22 18) (x1.toNatClampNeg) ((S22 18 (x1.toNatClampNeg)) + (0 : Int32)))) fun S25 => rc x1 (x2 + 1) S25 else lt (upk S22 18 (upd (S22 18) (x1.toNatClampNeg) ((S22 18 (x1.toNatClampNeg)) + x4))) fun S26 => rc x1 (x2 + 1) S26 else none else none
def f_X4_sums_J92 (rc : Int32 → Int32 → vS → Option vS) (x1 : Int32) (x2 : Int32) (x4 : Int32) (k1 : Int32) (k2 : Int32) (k3 : Int32) (S : vS) : Option vS := if inb k1 6 = true then lt (upk S 16 (upd (S 16) (k1.toNatClampNeg) (k2 + k3))) fun S18 => if inb x1 6 = true then if x4 < 0 then f_X4_sums_J111 rc x1 x2 x4 x1 (S18 17 (x1.toNatClampNeg)) (0 : Int32) S18 else f_X4_sums_J111 rc x1 x2 x4 x1 (S18 17 (x1.toNatClampNeg)) (1 : Int32) S18 else none else none
def f_X4_sums_J74 (rc : Int32 → Int32 → vS → Option vS) (x1 : Int32) (x2 : Int32) (x3 : Int32) (x4 : Int32) (k1 : Int32) (k2 : Int32) (k3 : Int32) (S : vS) : Option vS := if inb k1 6 = true then lt (upk S 15 (upd (S 15) (k1.toNatClampNeg) (k2 + k3))) fun S14 => if inb x1 6 = true then if x3 < 0 then f_X4_sums_J92 rc x1 x2 x4 x1 (S14 16 (x1.toNatClampNeg)) (0 : Int32) S14 else f_X4_sums_J92 rc x1 x2 x4 x1 (S14 16 (x1.toNatClampNeg)) x3 S14 else none else none
def f_X4_sums_L30 : Nat → Int32 → Int32 → vS → Option vS
  | 0, _, _, _ => none
  | n + 1, x1, x2, S => if (900 : Int32) ≤ x2 then some S else if inb (((900 : Int32) * x1) + x2) 5400 = true then lt ((S 14 ((((900 : Int32) * x1) + x2).toNatClampNeg))) fun v8 => b1 (f_X4_putPay x1 x2 S) fun r10 => if inb x1 6 = true then if v8 < 0 then f_X4_sums_J74 (f_X4_sums_L30 n) x1 x2 v8 r10 x1 (S 15 (x1.toNatClampNeg)) (0 : Int32) S else f_X4_sums_J74 (f_X4_sums_L30 n) x1 x2 v8 r10 x1 (S 15 (x1.toNatClampNeg)) (1 : Int32) S else none else none
def f_X4_sums (a1 : Int32) (S : vS) : Option vS := if inb a1 6 = true then lt (upk S 15 (upd (S 15) (a1.toNatClampNeg) (0 : Int32))) fun S2 => lt (upk S2 16 (upd (S2 16) (a1.toNatClampNeg) (0 : Int32))) fun S3 => lt (upk S3 17 (upd (S3 17) (a1.toNatClampNeg) (0 : Int32))) fun S4 => lt (upk S4 18 (upd (S4 18) (a1.toNatClampNeg) (0 : Int32))) fun S5 => b1 (f_X4_sums_L30 FU a1 (0 : Int32) S5) fun S27 => some S27 else none
set_option maxHeartbeats 4000000 in
set_option maxRecDepth 20000 in
theorem c_X4_sums (l : Launch) (D : va_G) (cI cO : ClassId) (ad : Nat → Nat) (a1 : Int32) (S : vS) (S9 : vS) (hf : f_X4_sums a1 S = some S9) : CV l yX4_sums cX4_sums 5 ({ frames := 1, cells := 0, slots := 0, locals := 23 }) [.ref (ad 5), .int a1] D cI cO ad S S9 := by
  refine CV.of (r := 0) (by decide +kernel) (Nat.le_of_ble_eq_true rfl) (fun p e s m args below meth c Q ls X hl hw hfin => ?_)
  have hl : lv_has ls 5 [(0, .ref (ad 5)), (1, .int a1)] := hl
  have hx := X.1
  have hb := X.2.1
  have L30 : ∀ (n : Nat) (x1 : Int32) (x2 : Int32) (S : vS) (res : vS), f_X4_sums_L30 n x1 x2 S = some res → (K : ∀  (S2 : vS), some S2 = some res → ∀ (H : Heap) (locs : List Loc) (ls : Array Slot), WD D cI cO ad s S2 H locs → lv_has ls 5 [] → W p l e ({ frames := 1, cells := 0, slots := 0, locals := 23 }) s m args below meth c H locs 0 0 Q (F0 m 139 ls [])) → ∀ (H : Heap) (locs : List Loc) (ls : Array Slot), WD D cI cO ad s S H locs → lv_has ls 5 [(0, .ref (ad 5)), (1, .int x1), (2, .int x2)] → W p l e ({ frames := 1, cells := 0, slots := 0, locals := 23 }) s m args below meth c H locs 0 0 Q (F0 m 30 ls []) := by
    intro n
    induction n with
    | zero => intro x1 x2 S res hf; cases hf
    | succ n ih =>
      intro x1 x2 S res hf K H locs ls hw hl
      have J111 : ∀ (x1 : Int32) (x2 : Int32) (x4 : Int32) (k1 : Int32) (k2 : Int32) (k3 : Int32) (S : vS), f_X4_sums_J111 (f_X4_sums_L30 n) x1 x2 x4 k1 k2 k3 S = some res → ∀ (H : Heap) (locs : List Loc) (ls : Array Slot), WD D cI cO ad s S H locs → lv_has ls 5 [(0, .ref (ad 5)), (1, .int x1), (2, .int x2), (4, .int x4)] → W p l e ({ frames := 1, cells := 0, slots := 0, locals := 23 }) s m args below meth c H locs 0 0 Q (F0 m 111 ls [.int k3, .int k2, .int k1, .ref (ar ad 17)]) := by
        intro x1 x2 x4 k1 k2 k3 S hf H locs ls hw hl
        unfold f_X4_sums_J111 at hf
        refine lv_iadd hx hb dX4_sums_111 ?_
        obtain ⟨h21, hf⟩ := if_s hf
        refine x_iast X hw 17 ⟨Nat.le_of_ble_eq_true rfl, Nat.le_of_ble_eq_true rfl⟩ rfl h21 (k1.toNatClampNeg) rfl dX4_sums_112 (fun S22 eS22 H locs hw => ?_)
        replace hf := lt_e eS22 hf
        refine lv_aload_n hx hb dX4_sums_113 rfl (lv_at hl 0 rfl) ?_
        refine x_get X hw 5 (Nat.le_of_ble_eq_true rfl) ce5 rfl i_X4 21 (by decide) q611 ⟨rfl, rfl, rfl⟩ rfl dX4_sums_114 ?_
        refine lv_iload_n hx hb dX4_sums_117 rfl (lv_at hl 1 rfl) ?_
        refine lv_dup2_11 hx hb dX4_sums_118 rfl rfl ?_
        obtain ⟨h23, hf⟩ := if_s hf
        refine x_iald X hw 18 ⟨Nat.le_of_ble_eq_true rfl, Nat.le_of_ble_eq_true rfl⟩ rfl h23 (x1.toNatClampNeg) rfl dX4_sums_119 ?_
        refine lv_iload hx hb dX4_sums_120 (lv_at hl 3 rfl) ?_
        refine lv_if_lt (tgt := 130) hx hb dX4_sums_122 (by decide) (fun c24 => ?_) (fun c24 => ?_)
        · replace hf := if_t c24 hf
          refine lv_iconst (v := 0) hx hb dX4_sums_130 (by decide) ?_
          refine lv_iadd hx hb dX4_sums_131 ?_
          refine x_iast X hw 18 ⟨Nat.le_of_ble_eq_true rfl, Nat.le_of_ble_eq_true rfl⟩ rfl h23 (x1.toNatClampNeg) rfl dX4_sums_132 (fun S25 eS25 H locs hw => ?_)
          replace hf := lt_e eS25 hf
          refine lv_iinc (v := (x2 + 1)) (lv' := [(2, .int (x2 + 1)), (0, .ref (ad 5)), (1, .int x1), (4, .int x4)]) hx hb dX4_sums_133 hl (k := 2) rfl rfl (by decide) rfl (fun ls hl => ?_)
          refine lv_goto (tgt := 30) hx hb dX4_sums_136 (by decide) ?_
          exact ih x1 (x2 + 1) S25 _ hf K _ _ _ hw (lv_sub hl [1, 2, 0] rfl)
        · replace hf := if_f c24 hf
          refine lv_iload hx hb dX4_sums_125 (lv_at hl 3 rfl) ?_
          refine lv_goto (tgt := 131) hx hb dX4_sums_127 (by decide) ?_
          refine lv_iadd hx hb dX4_sums_131 ?_
          refine x_iast X hw 18 ⟨Nat.le_of_ble_eq_true rfl, Nat.le_of_ble_eq_true rfl⟩ rfl h23 (x1.toNatClampNeg) rfl dX4_sums_132 (fun S26 eS26 H locs hw => ?_)
          replace hf := lt_e eS26 hf
          refine lv_iinc (v := (x2 + 1)) (lv' := [(2, .int (x2 + 1)), (0, .ref (ad 5)), (1, .int x1), (4, .int x4)]) hx hb dX4_sums_133 hl (k := 2) rfl rfl (by decide) rfl (fun ls hl => ?_)
          refine lv_goto (tgt := 30) hx hb dX4_sums_136 (by decide) ?_
          exact ih x1 (x2 + 1) S26 _ hf K _ _ _ hw (lv_sub hl [1, 2, 0] rfl)
      have J92 : ∀ (x1 : Int32) (x2 : Int32) (x4 : Int32) (k1 : Int32) (k2 : Int32) (k3 : Int32) (S : vS), f_X4_sums_J92 (f_X4_sums_L30 n) x1 x2 x4 k1 k2 k3 S = some res → ∀ (H : Heap) (locs : List Loc) (ls : Array Slot), WD D cI cO ad s S H locs → lv_has ls 5 [(0, .ref (ad 5)), (1, .int x1), (2, .int x2), (4, .int x4)] → W p l e ({ frames := 1, cells := 0, slots := 0, locals := 23 }) s m args below meth c H locs 0 0 Q (F0 m 92 ls [.int k3, .int k2, .int k1, .ref (ar ad 16)]) := by
        intro x1 x2 x4 k1 k2 k3 S hf H locs ls hw hl
        unfold f_X4_sums_J92 at hf
        refine lv_iadd hx hb dX4_sums_92 ?_
        obtain ⟨h17, hf⟩ := if_s hf
        refine x_iast X hw 16 ⟨Nat.le_of_ble_eq_true rfl, Nat.le_of_ble_eq_true rfl⟩ rfl h17 (k1.toNatClampNeg) rfl dX4_sums_93 (fun S18 eS18 H locs hw => ?_)
        replace hf := lt_e eS18 hf
        refine lv_aload_n hx hb dX4_sums_94 rfl (lv_at hl 0 rfl) ?_
        refine x_get X hw 5 (Nat.le_of_ble_eq_true rfl) ce5 rfl i_X4 20 (by decide) q610 ⟨rfl, rfl, rfl⟩ rfl dX4_sums_95 ?_
        refine lv_iload_n hx hb dX4_sums_98 rfl (lv_at hl 1 rfl) ?_
        refine lv_dup2_11 hx hb dX4_sums_99 rfl rfl ?_
        obtain ⟨h19, hf⟩ := if_s hf
        refine x_iald X hw 17 ⟨Nat.le_of_ble_eq_true rfl, Nat.le_of_ble_eq_true rfl⟩ rfl h19 (x1.toNatClampNeg) rfl dX4_sums_100 ?_
        refine lv_iload hx hb dX4_sums_101 (lv_at hl 3 rfl) ?_
        refine lv_if_lt (tgt := 110) hx hb dX4_sums_103 (by decide) (fun c20 => ?_) (fun c20 => ?_)
        · replace hf := if_t c20 hf
          refine lv_iconst (v := 0) hx hb dX4_sums_110 (by decide) ?_
          exact J111 x1 x2 x4 x1 (S18 17 (x1.toNatClampNeg)) (0 : Int32) S18 hf _ _ _ hw hl
        · replace hf := if_f c20 hf
          refine lv_iconst (v := 1) hx hb dX4_sums_106 (by decide) ?_
          refine lv_goto (tgt := 111) hx hb dX4_sums_107 (by decide) ?_
          exact J111 x1 x2 x4 x1 (S18 17 (x1.toNatClampNeg)) (1 : Int32) S18 hf _ _ _ hw hl
      have J74 : ∀ (x1 : Int32) (x2 : Int32) (x3 : Int32) (x4 : Int32) (k1 : Int32) (k2 : Int32) (k3 : Int32) (S : vS), f_X4_sums_J74 (f_X4_sums_L30 n) x1 x2 x3 x4 k1 k2 k3 S = some res → ∀ (H : Heap) (locs : List Loc) (ls : Array Slot), WD D cI cO ad s S H locs → lv_has ls 5 [(0, .ref (ad 5)), (1, .int x1), (2, .int x2), (3, .int x3), (4, .int x4)] → W p l e ({ frames := 1, cells := 0, slots := 0, locals := 23 }) s m args below meth c H locs 0 0 Q (F0 m 74 ls [.int k3, .int k2, .int k1, .ref (ar ad 15)]) := by
        intro x1 x2 x3 x4 k1 k2 k3 S hf H locs ls hw hl
        unfold f_X4_sums_J74 at hf
        refine lv_iadd hx hb dX4_sums_74 ?_
        obtain ⟨h13, hf⟩ := if_s hf
        refine x_iast X hw 15 ⟨Nat.le_of_ble_eq_true rfl, Nat.le_of_ble_eq_true rfl⟩ rfl h13 (k1.toNatClampNeg) rfl dX4_sums_75 (fun S14 eS14 H locs hw => ?_)
        replace hf := lt_e eS14 hf
        refine lv_aload_n hx hb dX4_sums_76 rfl (lv_at hl 0 rfl) ?_
        refine x_get X hw 5 (Nat.le_of_ble_eq_true rfl) ce5 rfl i_X4 19 (by decide) q609 ⟨rfl, rfl, rfl⟩ rfl dX4_sums_77 ?_
        refine lv_iload_n hx hb dX4_sums_80 rfl (lv_at hl 1 rfl) ?_
        refine lv_dup2_11 hx hb dX4_sums_81 rfl rfl ?_
        obtain ⟨h15, hf⟩ := if_s hf
        refine x_iald X hw 16 ⟨Nat.le_of_ble_eq_true rfl, Nat.le_of_ble_eq_true rfl⟩ rfl h15 (x1.toNatClampNeg) rfl dX4_sums_82 ?_
        refine lv_iload_n hx hb dX4_sums_83 rfl (lv_at hl 3 rfl) ?_
        refine lv_if_lt (tgt := 91) hx hb dX4_sums_84 (by decide) (fun c16 => ?_) (fun c16 => ?_)
        · replace hf := if_t c16 hf
          refine lv_iconst (v := 0) hx hb dX4_sums_91 (by decide) ?_
          exact J92 x1 x2 x4 x1 (S14 16 (x1.toNatClampNeg)) (0 : Int32) S14 hf _ _ _ hw (lv_sub hl [0, 1, 2, 4] rfl)
        · replace hf := if_f c16 hf
          refine lv_iload_n hx hb dX4_sums_87 rfl (lv_at hl 3 rfl) ?_
          refine lv_goto (tgt := 92) hx hb dX4_sums_88 (by decide) ?_
          exact J92 x1 x2 x4 x1 (S14 16 (x1.toNatClampNeg)) x3 S14 hf _ _ _ hw (lv_sub hl [0, 1, 2, 4] rfl)
      unfold f_X4_sums_L30 at hf
      refine lv_iload_n hx hb dX4_sums_30 rfl (lv_at hl 2 rfl) ?_
      refine lv_sipush (v := 900) hx hb dX4_sums_31 (by decide +kernel) ?_
      refine lv_icmp_ge (tgt := 139) hx hb dX4_sums_34 (by decide) (fun c6 => ?_) (fun c6 => ?_)
      · replace hf := if_t c6 hf
        exact K S hf _ _ _ hw (lv_sub hl [] rfl)
      · replace hf := if_f c6 hf
        refine lv_aload_n hx hb dX4_sums_37 rfl (lv_at hl 0 rfl) ?_
        refine x_get X hw 5 (Nat.le_of_ble_eq_true rfl) ce5 rfl i_X4 17 (by decide) q607 ⟨rfl, rfl, rfl⟩ rfl dX4_sums_38 ?_
        refine lv_sipush (v := 900) hx hb dX4_sums_41 (by decide +kernel) ?_
        refine lv_iload_n hx hb dX4_sums_44 rfl (lv_at hl 1 rfl) ?_
        refine lv_imul hx hb dX4_sums_45 ?_
        refine lv_iload_n hx hb dX4_sums_46 rfl (lv_at hl 2 rfl) ?_
        refine lv_iadd hx hb dX4_sums_47 ?_
        obtain ⟨h7, hf⟩ := if_s hf
        refine x_iald X hw 14 ⟨Nat.le_of_ble_eq_true rfl, Nat.le_of_ble_eq_true rfl⟩ rfl h7 ((((900 : Int32) * x1) + x2).toNatClampNeg) rfl dX4_sums_48 ?_
        refine lv_topi (fun v8 ev8 => ?_)
        replace hf := lt_e ev8 hf
        refine lv_istore_n (lv' := [(3, .int v8), (0, .ref (ad 5)), (1, .int x1), (2, .int x2)]) hx hb dX4_sums_49 rfl hl (by decide) rfl (fun ls hl => ?_)
        refine lv_aload_n hx hb dX4_sums_50 rfl (lv_at hl 1 rfl) ?_
        refine lv_iload_n hx hb dX4_sums_51 rfl (lv_at hl 2 rfl) ?_
        refine lv_iload_n hx hb dX4_sums_52 rfl (lv_at hl 3 rfl) ?_
        obtain ⟨r10, h9, hf⟩ := b1_s hf
        refine kVi X hw (c_X4_putPay l D cI cO ad x1 x2 S r10 h9) (Nat.le_of_ble_eq_true rfl) ce5 rfl ⟨rfl, rfl⟩ q759 q761 q43 q64 q762 hd_X4_putPay ⟨Nat.le_of_ble_eq_true rfl, Nat.le_of_ble_eq_true rfl⟩ rfl hl.1 rfl (Nat.le_of_ble_eq_true rfl) dX4_sums_53 (fun H locs hw => ?_)
        refine lv_istore (lv' := [(4, .int r10), (3, .int v8), (0, .ref (ad 5)), (1, .int x1), (2, .int x2)]) hx hb dX4_sums_56 hl (by decide) rfl (fun ls hl => ?_)
        refine lv_aload_n hx hb dX4_sums_58 rfl (lv_at hl 2 rfl) ?_
        refine x_get X hw 5 (Nat.le_of_ble_eq_true rfl) ce5 rfl i_X4 18 (by decide) q608 ⟨rfl, rfl, rfl⟩ rfl dX4_sums_59 ?_
        refine lv_iload_n hx hb dX4_sums_62 rfl (lv_at hl 3 rfl) ?_
        refine lv_dup2_11 hx hb dX4_sums_63 rfl rfl ?_
        obtain ⟨h11, hf⟩ := if_s hf
        refine x_iald X hw 15 ⟨Nat.le_of_ble_eq_true rfl, Nat.le_of_ble_eq_true rfl⟩ rfl h11 (x1.toNatClampNeg) rfl dX4_sums_64 ?_
        refine lv_iload_n hx hb dX4_sums_65 rfl (lv_at hl 1 rfl) ?_
        refine lv_if_lt (tgt := 73) hx hb dX4_sums_66 (by decide) (fun c12 => ?_) (fun c12 => ?_)
        · replace hf := if_t c12 hf
          refine lv_iconst (v := 0) hx hb dX4_sums_73 (by decide) ?_
          exact J74 x1 x2 v8 r10 x1 (S 15 (x1.toNatClampNeg)) (0 : Int32) S hf _ _ _ hw (lv_sub hl [2, 3, 4, 1, 0] rfl)
        · replace hf := if_f c12 hf
          refine lv_iconst (v := 1) hx hb dX4_sums_69 (by decide) ?_
          refine lv_goto (tgt := 74) hx hb dX4_sums_70 (by decide) ?_
          exact J74 x1 x2 v8 r10 x1 (S 15 (x1.toNatClampNeg)) (1 : Int32) S hf _ _ _ hw (lv_sub hl [2, 3, 4, 1, 0] rfl)
  unfold f_X4_sums at hf
  refine lv_aload_n hx hb dX4_sums_0 rfl (lv_at hl 0 rfl) ?_
  refine x_get X hw 5 (Nat.le_of_ble_eq_true rfl) ce5 rfl i_X4 18 (by decide) q608 ⟨rfl, rfl, rfl⟩ rfl dX4_sums_1 ?_
  refine lv_iload_n hx hb dX4_sums_4 rfl (lv_at hl 1 rfl) ?_
  refine lv_iconst (v := 0) hx hb dX4_sums_5 (by decide) ?_
  obtain ⟨h1, hf⟩ := if_s hf
  refine x_iast X hw 15 ⟨Nat.le_of_ble_eq_true rfl, Nat.le_of_ble_eq_true rfl⟩ rfl h1 (a1.toNatClampNeg) rfl dX4_sums_6 (fun S2 eS2 H locs hw => ?_)
  replace hf := lt_e eS2 hf
  refine lv_aload_n hx hb dX4_sums_7 rfl (lv_at hl 0 rfl) ?_
  refine x_get X hw 5 (Nat.le_of_ble_eq_true rfl) ce5 rfl i_X4 19 (by decide) q609 ⟨rfl, rfl, rfl⟩ rfl dX4_sums_8 ?_
  refine lv_iload_n hx hb dX4_sums_11 rfl (lv_at hl 1 rfl) ?_
  refine lv_iconst (v := 0) hx hb dX4_sums_12 (by decide) ?_
  refine x_iast X hw 16 ⟨Nat.le_of_ble_eq_true rfl, Nat.le_of_ble_eq_true rfl⟩ rfl h1 (a1.toNatClampNeg) rfl dX4_sums_13 (fun S3 eS3 H locs hw => ?_)
  replace hf := lt_e eS3 hf
  refine lv_aload_n hx hb dX4_sums_14 rfl (lv_at hl 0 rfl) ?_
  refine x_get X hw 5 (Nat.le_of_ble_eq_true rfl) ce5 rfl i_X4 20 (by decide) q610 ⟨rfl, rfl, rfl⟩ rfl dX4_sums_15 ?_
  refine lv_iload_n hx hb dX4_sums_18 rfl (lv_at hl 1 rfl) ?_
  refine lv_iconst (v := 0) hx hb dX4_sums_19 (by decide) ?_
  refine x_iast X hw 17 ⟨Nat.le_of_ble_eq_true rfl, Nat.le_of_ble_eq_true rfl⟩ rfl h1 (a1.toNatClampNeg) rfl dX4_sums_20 (fun S4 eS4 H locs hw => ?_)
  replace hf := lt_e eS4 hf
  refine lv_aload_n hx hb dX4_sums_21 rfl (lv_at hl 0 rfl) ?_
  refine x_get X hw 5 (Nat.le_of_ble_eq_true rfl) ce5 rfl i_X4 21 (by decide) q611 ⟨rfl, rfl, rfl⟩ rfl dX4_sums_22 ?_
  refine lv_iload_n hx hb dX4_sums_25 rfl (lv_at hl 1 rfl) ?_
  refine lv_iconst (v := 0) hx hb dX4_sums_26 (by decide) ?_
  refine x_iast X hw 18 ⟨Nat.le_of_ble_eq_true rfl, Nat.le_of_ble_eq_true rfl⟩ rfl h1 (a1.toNatClampNeg) rfl dX4_sums_27 (fun S5 eS5 H locs hw => ?_)
  replace hf := lt_e eS5 hf
  refine lv_iconst (v := 0) hx hb dX4_sums_28 (by decide) ?_
  refine lv_istore_n (lv' := [(2, .int (0 : Int32)), (0, .ref (ad 5)), (1, .int a1)]) hx hb dX4_sums_29 rfl hl (by decide) rfl (fun ls hl => ?_)
  obtain ⟨S27, h28, hf⟩ := b1_s hf
  refine L30 FU a1 (0 : Int32) S5 _ h28 (fun S27' eK H locs ls hw hl => ?_) _ _ _ hw (lv_sub hl [1, 2, 0] rfl)
  cases eK
  exact hfin _ _ 0 _ _ _ hw rfl (Option.some.inj hf) dX4_sums_139
/-- NineLandsModel.findMonths(I)V -/
theorem dX4_findMonths_0 : decode cX4_findMonths 0 = .ok (.iconst 0, 1) := by decide +kernel
theorem dX4_findMonths_1 : decode cX4_findMonths 1 = .ok (.istore_n 2, 1) := by decide +kernel
theorem dX4_findMonths_2 : decode cX4_findMonths 2 = .ok (.iload_n 2, 1) := by decide +kernel
theorem dX4_findMonths_3 : decode cX4_findMonths 3 = .ok (.sipush 5400, 3) := by decide +kernel
theorem dX4_findMonths_6 : decode cX4_findMonths 6 = .ok (.if_icmp .ge 16, 3) := by decide +kernel
theorem dX4_findMonths_9 : decode cX4_findMonths 9 = .ok (.aload_n 0, 1) := by decide +kernel
theorem dX4_findMonths_10 : decode cX4_findMonths 10 = .ok (.getfield 53, 3) := by decide +kernel
theorem dX4_findMonths_13 : decode cX4_findMonths 13 = .ok (.iload_n 2, 1) := by decide +kernel
theorem dX4_findMonths_14 : decode cX4_findMonths 14 = .ok (.iconst (-1), 1) := by decide +kernel
theorem dX4_findMonths_15 : decode cX4_findMonths 15 = .ok (.iastore, 1) := by decide +kernel
theorem dX4_findMonths_16 : decode cX4_findMonths 16 = .ok (.iinc 2 1, 3) := by decide +kernel
theorem dX4_findMonths_19 : decode cX4_findMonths 19 = .ok (.goto (-17), 3) := by decide +kernel
theorem dX4_findMonths_22 : decode cX4_findMonths 22 = .ok (.iconst 0, 1) := by decide +kernel
theorem dX4_findMonths_23 : decode cX4_findMonths 23 = .ok (.istore_n 2, 1) := by decide +kernel
theorem dX4_findMonths_24 : decode cX4_findMonths 24 = .ok (.iload_n 2, 1) := by decide +kernel
theorem dX4_findMonths_25 : decode cX4_findMonths 25 = .ok (.iload_n 1, 1) := by decide +kernel
theorem dX4_findMonths_26 : decode cX4_findMonths 26 = .ok (.if_icmp .ge 128, 3) := by decide +kernel
theorem dX4_findMonths_29 : decode cX4_findMonths 29 = .ok (.iload_n 2, 1) := by decide +kernel
theorem dX4_findMonths_30 : decode cX4_findMonths 30 = .ok (.aload_n 0, 1) := by decide +kernel
theorem dX4_findMonths_31 : decode cX4_findMonths 31 = .ok (.getfield 49, 3) := by decide +kernel
theorem dX4_findMonths_34 : decode cX4_findMonths 34 = .ok (.if_icmp .eq 114, 3) := by decide +kernel
theorem dX4_findMonths_37 : decode cX4_findMonths 37 = .ok (.aload_n 0, 1) := by decide +kernel
theorem dX4_findMonths_38 : decode cX4_findMonths 38 = .ok (.getfield 34, 3) := by decide +kernel
theorem dX4_findMonths_41 : decode cX4_findMonths 41 = .ok (.iload_n 2, 1) := by decide +kernel
theorem dX4_findMonths_42 : decode cX4_findMonths 42 = .ok (.iaload, 1) := by decide +kernel
theorem dX4_findMonths_43 : decode cX4_findMonths 43 = .ok (.ifCond .eq 105, 3) := by decide +kernel
theorem dX4_findMonths_46 : decode cX4_findMonths 46 = .ok (.aload_n 0, 1) := by decide +kernel
theorem dX4_findMonths_47 : decode cX4_findMonths 47 = .ok (.getfield 31, 3) := by decide +kernel
theorem dX4_findMonths_50 : decode cX4_findMonths 50 = .ok (.iload_n 2, 1) := by decide +kernel
theorem dX4_findMonths_51 : decode cX4_findMonths 51 = .ok (.iaload, 1) := by decide +kernel
theorem dX4_findMonths_52 : decode cX4_findMonths 52 = .ok (.ifCond .eq 96, 3) := by decide +kernel
theorem dX4_findMonths_55 : decode cX4_findMonths 55 = .ok (.aload_n 0, 1) := by decide +kernel
theorem dX4_findMonths_56 : decode cX4_findMonths 56 = .ok (.aload_n 0, 1) := by decide +kernel
theorem dX4_findMonths_57 : decode cX4_findMonths 57 = .ok (.getfield 16, 3) := by decide +kernel
theorem dX4_findMonths_60 : decode cX4_findMonths 60 = .ok (.iload_n 2, 1) := by decide +kernel
theorem dX4_findMonths_61 : decode cX4_findMonths 61 = .ok (.iaload, 1) := by decide +kernel
theorem dX4_findMonths_62 : decode cX4_findMonths 62 = .ok (.bipush 8, 2) := by decide +kernel
theorem dX4_findMonths_64 : decode cX4_findMonths 64 = .ok (.invokevirtual 122, 3) := by decide +kernel
theorem dX4_findMonths_67 : decode cX4_findMonths 67 = .ok (.aload_n 0, 1) := by decide +kernel
theorem dX4_findMonths_68 : decode cX4_findMonths 68 = .ok (.getfield 19, 3) := by decide +kernel
theorem dX4_findMonths_71 : decode cX4_findMonths 71 = .ok (.iload_n 2, 1) := by decide +kernel
theorem dX4_findMonths_72 : decode cX4_findMonths 72 = .ok (.iaload, 1) := by decide +kernel
theorem dX4_findMonths_73 : decode cX4_findMonths 73 = .ok (.ishr, 1) := by decide +kernel
theorem dX4_findMonths_74 : decode cX4_findMonths 74 = .ok (.iconst 1, 1) := by decide +kernel
theorem dX4_findMonths_75 : decode cX4_findMonths 75 = .ok (.iand, 1) := by decide +kernel
theorem dX4_findMonths_76 : decode cX4_findMonths 76 = .ok (.ifCond .ne 6, 3) := by decide +kernel
theorem dX4_findMonths_79 : decode cX4_findMonths 79 = .ok (.goto 69, 3) := by decide +kernel
theorem dX4_findMonths_82 : decode cX4_findMonths 82 = .ok (.aload_n 0, 1) := by decide +kernel
theorem dX4_findMonths_83 : decode cX4_findMonths 83 = .ok (.getfield 22, 3) := by decide +kernel
theorem dX4_findMonths_86 : decode cX4_findMonths 86 = .ok (.iload_n 2, 1) := by decide +kernel
theorem dX4_findMonths_87 : decode cX4_findMonths 87 = .ok (.iaload, 1) := by decide +kernel
theorem dX4_findMonths_88 : decode cX4_findMonths 88 = .ok (.istore_n 3, 1) := by decide +kernel
theorem dX4_findMonths_89 : decode cX4_findMonths 89 = .ok (.iload_n 3, 1) := by decide +kernel
theorem dX4_findMonths_90 : decode cX4_findMonths 90 = .ok (.aload_n 0, 1) := by decide +kernel
theorem dX4_findMonths_91 : decode cX4_findMonths 91 = .ok (.getfield 25, 3) := by decide +kernel
theorem dX4_findMonths_94 : decode cX4_findMonths 94 = .ok (.iload_n 2, 1) := by decide +kernel
theorem dX4_findMonths_95 : decode cX4_findMonths 95 = .ok (.iaload, 1) := by decide +kernel
theorem dX4_findMonths_96 : decode cX4_findMonths 96 = .ok (.if_icmp .ge 52, 3) := by decide +kernel
theorem dX4_findMonths_99 : decode cX4_findMonths 99 = .ok (.sipush 900, 3) := by decide +kernel
theorem dX4_findMonths_102 : decode cX4_findMonths 102 = .ok (.aload_n 0, 1) := by decide +kernel
theorem dX4_findMonths_103 : decode cX4_findMonths 103 = .ok (.getfield 16, 3) := by decide +kernel
theorem dX4_findMonths_106 : decode cX4_findMonths 106 = .ok (.iload_n 2, 1) := by decide +kernel
theorem dX4_findMonths_107 : decode cX4_findMonths 107 = .ok (.iaload, 1) := by decide +kernel
theorem dX4_findMonths_108 : decode cX4_findMonths 108 = .ok (.imul, 1) := by decide +kernel
theorem dX4_findMonths_109 : decode cX4_findMonths 109 = .ok (.iload_n 3, 1) := by decide +kernel
theorem dX4_findMonths_110 : decode cX4_findMonths 110 = .ok (.iadd, 1) := by decide +kernel
theorem dX4_findMonths_111 : decode cX4_findMonths 111 = .ok (.istore 4, 2) := by decide +kernel
theorem dX4_findMonths_113 : decode cX4_findMonths 113 = .ok (.aload_n 0, 1) := by decide +kernel
theorem dX4_findMonths_114 : decode cX4_findMonths 114 = .ok (.getfield 28, 3) := by decide +kernel
theorem dX4_findMonths_117 : decode cX4_findMonths 117 = .ok (.iload_n 2, 1) := by decide +kernel
theorem dX4_findMonths_118 : decode cX4_findMonths 118 = .ok (.iaload, 1) := by decide +kernel
theorem dX4_findMonths_119 : decode cX4_findMonths 119 = .ok (.aload_n 0, 1) := by decide +kernel
theorem dX4_findMonths_120 : decode cX4_findMonths 120 = .ok (.getfield 53, 3) := by decide +kernel
theorem dX4_findMonths_123 : decode cX4_findMonths 123 = .ok (.iload 4, 2) := by decide +kernel
theorem dX4_findMonths_125 : decode cX4_findMonths 125 = .ok (.iaload, 1) := by decide +kernel
theorem dX4_findMonths_126 : decode cX4_findMonths 126 = .ok (.if_icmp .le 16, 3) := by decide +kernel
theorem dX4_findMonths_129 : decode cX4_findMonths 129 = .ok (.aload_n 0, 1) := by decide +kernel
theorem dX4_findMonths_130 : decode cX4_findMonths 130 = .ok (.getfield 53, 3) := by decide +kernel
theorem dX4_findMonths_133 : decode cX4_findMonths 133 = .ok (.iload 4, 2) := by decide +kernel
theorem dX4_findMonths_135 : decode cX4_findMonths 135 = .ok (.aload_n 0, 1) := by decide +kernel
theorem dX4_findMonths_136 : decode cX4_findMonths 136 = .ok (.getfield 28, 3) := by decide +kernel
theorem dX4_findMonths_139 : decode cX4_findMonths 139 = .ok (.iload_n 2, 1) := by decide +kernel
theorem dX4_findMonths_140 : decode cX4_findMonths 140 = .ok (.iaload, 1) := by decide +kernel
theorem dX4_findMonths_141 : decode cX4_findMonths 141 = .ok (.iastore, 1) := by decide +kernel
theorem dX4_findMonths_142 : decode cX4_findMonths 142 = .ok (.iinc 3 1, 3) := by decide +kernel
theorem dX4_findMonths_145 : decode cX4_findMonths 145 = .ok (.goto (-56), 3) := by decide +kernel
theorem dX4_findMonths_148 : decode cX4_findMonths 148 = .ok (.iinc 2 1, 3) := by decide +kernel
theorem dX4_findMonths_151 : decode cX4_findMonths 151 = .ok (.goto (-127), 3) := by decide +kernel
theorem dX4_findMonths_154 : decode cX4_findMonths 154 = .ok (.iconst 0, 1) := by decide +kernel
theorem dX4_findMonths_155 : decode cX4_findMonths 155 = .ok (.istore_n 2, 1) := by decide +kernel
theorem dX4_findMonths_156 : decode cX4_findMonths 156 = .ok (.iload_n 2, 1) := by decide +kernel
theorem dX4_findMonths_157 : decode cX4_findMonths 157 = .ok (.bipush 6, 2) := by decide +kernel
theorem dX4_findMonths_159 : decode cX4_findMonths 159 = .ok (.if_icmp .ge 14, 3) := by decide +kernel
theorem dX4_findMonths_162 : decode cX4_findMonths 162 = .ok (.aload_n 0, 1) := by decide +kernel
theorem dX4_findMonths_163 : decode cX4_findMonths 163 = .ok (.iload_n 2, 1) := by decide +kernel
theorem dX4_findMonths_164 : decode cX4_findMonths 164 = .ok (.invokevirtual 126, 3) := by decide +kernel
theorem dX4_findMonths_167 : decode cX4_findMonths 167 = .ok (.iinc 2 1, 3) := by decide +kernel
theorem dX4_findMonths_170 : decode cX4_findMonths 170 = .ok (.goto (-14), 3) := by decide +kernel
theorem dX4_findMonths_173 : decode cX4_findMonths 173 = .ok (.return_, 1) := by decide +kernel
theorem hd_X4_findMonths : yX4_findMonths.cls ≠ "java/lang/invoke/MethodHandle" ∧ yX4_findMonths.cls ≠ "java/lang/invoke/VarHandle" ∧ (parseMethodDescriptor yX4_findMonths.desc).map (fun d => d.parameters.length) = some 1 := by decide +kernel
def f_X4_findMonths_L2 : Nat → Int32 → Int32 → vS → Option vS
  | 0, _, _, _ => none
  | n + 1, x1, x2, S => if (5400 : Int32) ≤ x2 then some S else if inb x2 5400 = true then lt (upk S 14 (upd (S 14) (x2.toNatClampNeg) (-1 : Int32))) fun S3 => (f_X4_findMonths_L2 n) x1 (x2 + 1) S3 else none
def f_X4_findMonths_L89 : Nat → Int32 → Int32 → Int32 → vS → Option vS
  | 0, _, _, _, _ => none
  | n + 1, x1, x2, x3, S => if inb x2 21 = true then if (S 6 (x2.toNatClampNeg)) ≤ x3 then some S else lt ((((900 : Int32) * (S 3 (x2.toNatClampNeg))) + x3)) fun v15 => if inb v15 5400 = true then if (S 7 (x2.toNatClampNeg)) ≤ (S 14 (v15.toNatClampNeg)) then (f_X4_findMonths_L89 n) x1 x2 (x3 + 1) S else lt (upk S 14 (upd (S 14) (v15.toNatClampNeg) (S 7 (x2.toNatClampNeg)))) fun S18 => (f_X4_findMonths_L89 n) x1 x2 (x3 + 1) S18 else none else none
def f_X4_findMonths_L24 : Nat → Int32 → Int32 → vS → Option vS
  | 0, _, _, _ => none
  | n + 1, x1, x2, S => if x1 ≤ x2 then some S else if x2 = (S 0 3) then (f_X4_findMonths_L24 n) x1 (x2 + 1) S else if inb x2 21 = true then if (S 9 (x2.toNatClampNeg)) = 0 then (f_X4_findMonths_L24 n) x1 (x2 + 1) S else if (S 8 (x2.toNatClampNeg)) = 0 then (f_X4_findMonths_L24 n) x1 (x2 + 1) S else b1 (f_X4_lawOf (S 3 (x2.toNatClampNeg)) (8 : Int32) S) fun r11 => if ((r11 >>> ((S 4 (x2.toNatClampNeg)) &&& 31)) &&& (1 : Int32)) = 0 then (f_X4_findMonths_L24 n) x1 (x2 + 1) S else b1 (f_X4_findMonths_L89 FU x1 x2 (S 5 (x2.toNatClampNeg)) S) fun S19 => (f_X4_findMonths_L24 n) x1 (x2 + 1) S19 else none
def f_X4_findMonths_L156 : Nat → Int32 → vS → Option vS
  | 0, _, _ => none
  | n + 1, x2, S => if (6 : Int32) ≤ x2 then some S else b1 (f_X4_sums x2 S) fun S24 => (f_X4_findMonths_L156 n) (x2 + 1) S24
def f_X4_findMonths (a1 : Int32) (S : vS) : Option vS := b1 (f_X4_findMonths_L2 FU a1 (0 : Int32) S) fun S4 => b1 (f_X4_findMonths_L24 FU a1 (0 : Int32) S4) fun S21 => b1 (f_X4_findMonths_L156 FU (0 : Int32) S21) fun S25 => some S25
set_option maxHeartbeats 4000000 in
set_option maxRecDepth 20000 in
theorem c_X4_findMonths (l : Launch) (D : va_G) (cI cO : ClassId) (ad : Nat → Nat) (a1 : Int32) (S : vS) (S9 : vS) (hf : f_X4_findMonths a1 S = some S9) : CV l yX4_findMonths cX4_findMonths 5 ({ frames := 2, cells := 0, slots := 0, locals := 47 }) [.ref (ad 5), .int a1] D cI cO ad S S9 := by
  refine CV.of (r := 0) (by decide +kernel) (Nat.le_of_ble_eq_true rfl) (fun p e s m args below meth c Q ls X hl hw hfin => ?_)
  have hl : lv_has ls 5 [(0, .ref (ad 5)), (1, .int a1)] := hl
  have hx := X.1
  have hb := X.2.1
  have L2 : ∀ (n : Nat) (x1 : Int32) (x2 : Int32) (S : vS) (res : vS), f_X4_findMonths_L2 n x1 x2 S = some res → (K : ∀  (S2 : vS), some S2 = some res → ∀ (H : Heap) (locs : List Loc) (ls : Array Slot), WD D cI cO ad s S2 H locs → lv_has ls 5 [(0, .ref (ad 5)), (1, .int x1)] → W p l e ({ frames := 2, cells := 0, slots := 0, locals := 47 }) s m args below meth c H locs 0 0 Q (F0 m 22 ls [])) → ∀ (H : Heap) (locs : List Loc) (ls : Array Slot), WD D cI cO ad s S H locs → lv_has ls 5 [(0, .ref (ad 5)), (1, .int x1), (2, .int x2)] → W p l e ({ frames := 2, cells := 0, slots := 0, locals := 47 }) s m args below meth c H locs 0 0 Q (F0 m 2 ls []) := by
    intro n
    induction n with
    | zero => intro x1 x2 S res hf; cases hf
    | succ n ih =>
      intro x1 x2 S res hf K H locs ls hw hl
      unfold f_X4_findMonths_L2 at hf
      refine lv_iload_n hx hb dX4_findMonths_2 rfl (lv_at hl 2 rfl) ?_
      refine lv_sipush (v := 5400) hx hb dX4_findMonths_3 (by decide +kernel) ?_
      refine lv_icmp_ge (tgt := 22) hx hb dX4_findMonths_6 (by decide) (fun c1 => ?_) (fun c1 => ?_)
      · replace hf := if_t c1 hf
        exact K S hf _ _ _ hw (lv_sub hl [0, 1] rfl)
      · replace hf := if_f c1 hf
        refine lv_aload_n hx hb dX4_findMonths_9 rfl (lv_at hl 0 rfl) ?_
        refine x_get X hw 5 (Nat.le_of_ble_eq_true rfl) ce5 rfl i_X4 17 (by decide) q607 ⟨rfl, rfl, rfl⟩ rfl dX4_findMonths_10 ?_
        refine lv_iload_n hx hb dX4_findMonths_13 rfl (lv_at hl 2 rfl) ?_
        refine lv_iconst (v := -1) hx hb dX4_findMonths_14 (by decide) ?_
        obtain ⟨h2, hf⟩ := if_s hf
        refine x_iast X hw 14 ⟨Nat.le_of_ble_eq_true rfl, Nat.le_of_ble_eq_true rfl⟩ rfl h2 (x2.toNatClampNeg) rfl dX4_findMonths_15 (fun S3 eS3 H locs hw => ?_)
        replace hf := lt_e eS3 hf
        refine lv_iinc (v := (x2 + 1)) (lv' := [(2, .int (x2 + 1)), (0, .ref (ad 5)), (1, .int x1)]) hx hb dX4_findMonths_16 hl (k := 2) rfl rfl (by decide) rfl (fun ls hl => ?_)
        refine lv_goto (tgt := 2) hx hb dX4_findMonths_19 (by decide) ?_
        exact ih x1 (x2 + 1) S3 _ hf K _ _ _ hw (lv_sub hl [1, 2, 0] rfl)
  have L89 : ∀ (n : Nat) (x1 : Int32) (x2 : Int32) (x3 : Int32) (S : vS) (res : vS), f_X4_findMonths_L89 n x1 x2 x3 S = some res → (K : ∀  (S2 : vS), some S2 = some res → ∀ (H : Heap) (locs : List Loc) (ls : Array Slot), WD D cI cO ad s S2 H locs → lv_has ls 5 [(0, .ref (ad 5)), (1, .int x1), (2, .int x2)] → W p l e ({ frames := 2, cells := 0, slots := 0, locals := 47 }) s m args below meth c H locs 0 0 Q (F0 m 148 ls [])) → ∀ (H : Heap) (locs : List Loc) (ls : Array Slot), WD D cI cO ad s S H locs → lv_has ls 5 [(0, .ref (ad 5)), (1, .int x1), (2, .int x2), (3, .int x3)] → W p l e ({ frames := 2, cells := 0, slots := 0, locals := 47 }) s m args below meth c H locs 0 0 Q (F0 m 89 ls []) := by
    intro n
    induction n with
    | zero => intro x1 x2 x3 S res hf; cases hf
    | succ n ih =>
      intro x1 x2 x3 S res hf K H locs ls hw hl
      unfold f_X4_findMonths_L89 at hf
      refine lv_iload_n hx hb dX4_findMonths_89 rfl (lv_at hl 3 rfl) ?_
      refine lv_aload_n hx hb dX4_findMonths_90 rfl (lv_at hl 0 rfl) ?_
      refine x_get X hw 5 (Nat.le_of_ble_eq_true rfl) ce5 rfl i_X4 5 (by decide) q595 ⟨rfl, rfl, rfl⟩ rfl dX4_findMonths_91 ?_
      refine lv_iload_n hx hb dX4_findMonths_94 rfl (lv_at hl 2 rfl) ?_
      obtain ⟨h13, hf⟩ := if_s hf
      refine x_iald X hw 6 ⟨Nat.le_of_ble_eq_true rfl, Nat.le_of_ble_eq_true rfl⟩ rfl h13 (x2.toNatClampNeg) rfl dX4_findMonths_95 ?_
      refine lv_icmp_ge (tgt := 148) hx hb dX4_findMonths_96 (by decide) (fun c14 => ?_) (fun c14 => ?_)
      · replace hf := if_t c14 hf
        exact K S hf _ _ _ hw (lv_sub hl [0, 1, 2] rfl)
      · replace hf := if_f c14 hf
        refine lv_sipush (v := 900) hx hb dX4_findMonths_99 (by decide +kernel) ?_
        refine lv_aload_n hx hb dX4_findMonths_102 rfl (lv_at hl 0 rfl) ?_
        refine x_get X hw 5 (Nat.le_of_ble_eq_true rfl) ce5 rfl i_X4 2 (by decide) q592 ⟨rfl, rfl, rfl⟩ rfl dX4_findMonths_103 ?_
        refine lv_iload_n hx hb dX4_findMonths_106 rfl (lv_at hl 2 rfl) ?_
        refine x_iald X hw 3 ⟨Nat.le_of_ble_eq_true rfl, Nat.le_of_ble_eq_true rfl⟩ rfl h13 (x2.toNatClampNeg) rfl dX4_findMonths_107 ?_
        refine lv_imul hx hb dX4_findMonths_108 ?_
        refine lv_iload_n hx hb dX4_findMonths_109 rfl (lv_at hl 3 rfl) ?_
        refine lv_iadd hx hb dX4_findMonths_110 ?_
        refine lv_topi (fun v15 ev15 => ?_)
        replace hf := lt_e ev15 hf
        refine lv_istore (lv' := [(4, .int v15), (0, .ref (ad 5)), (1, .int x1), (2, .int x2), (3, .int x3)]) hx hb dX4_findMonths_111 hl (by decide) rfl (fun ls hl => ?_)
        refine lv_aload_n hx hb dX4_findMonths_113 rfl (lv_at hl 1 rfl) ?_
        refine x_get X hw 5 (Nat.le_of_ble_eq_true rfl) ce5 rfl i_X4 6 (by decide) q596 ⟨rfl, rfl, rfl⟩ rfl dX4_findMonths_114 ?_
        refine lv_iload_n hx hb dX4_findMonths_117 rfl (lv_at hl 3 rfl) ?_
        refine x_iald X hw 7 ⟨Nat.le_of_ble_eq_true rfl, Nat.le_of_ble_eq_true rfl⟩ rfl h13 (x2.toNatClampNeg) rfl dX4_findMonths_118 ?_
        refine lv_aload_n hx hb dX4_findMonths_119 rfl (lv_at hl 1 rfl) ?_
        refine x_get X hw 5 (Nat.le_of_ble_eq_true rfl) ce5 rfl i_X4 17 (by decide) q607 ⟨rfl, rfl, rfl⟩ rfl dX4_findMonths_120 ?_
        refine lv_iload hx hb dX4_findMonths_123 (lv_at hl 0 rfl) ?_
        obtain ⟨h16, hf⟩ := if_s hf
        refine x_iald X hw 14 ⟨Nat.le_of_ble_eq_true rfl, Nat.le_of_ble_eq_true rfl⟩ rfl h16 (v15.toNatClampNeg) rfl dX4_findMonths_125 ?_
        refine lv_icmp_le (tgt := 142) hx hb dX4_findMonths_126 (by decide) (fun c17 => ?_) (fun c17 => ?_)
        · replace hf := if_t c17 hf
          refine lv_iinc (v := (x3 + 1)) (lv' := [(3, .int (x3 + 1)), (4, .int v15), (0, .ref (ad 5)), (1, .int x1), (2, .int x2)]) hx hb dX4_findMonths_142 hl (k := 4) rfl rfl (by decide) rfl (fun ls hl => ?_)
          refine lv_goto (tgt := 89) hx hb dX4_findMonths_145 (by decide) ?_
          exact ih x1 x2 (x3 + 1) S _ hf K _ _ _ hw (lv_sub hl [2, 3, 4, 0] rfl)
        · replace hf := if_f c17 hf
          refine lv_aload_n hx hb dX4_findMonths_129 rfl (lv_at hl 1 rfl) ?_
          refine x_get X hw 5 (Nat.le_of_ble_eq_true rfl) ce5 rfl i_X4 17 (by decide) q607 ⟨rfl, rfl, rfl⟩ rfl dX4_findMonths_130 ?_
          refine lv_iload hx hb dX4_findMonths_133 (lv_at hl 0 rfl) ?_
          refine lv_aload_n hx hb dX4_findMonths_135 rfl (lv_at hl 1 rfl) ?_
          refine x_get X hw 5 (Nat.le_of_ble_eq_true rfl) ce5 rfl i_X4 6 (by decide) q596 ⟨rfl, rfl, rfl⟩ rfl dX4_findMonths_136 ?_
          refine lv_iload_n hx hb dX4_findMonths_139 rfl (lv_at hl 3 rfl) ?_
          refine x_iald X hw 7 ⟨Nat.le_of_ble_eq_true rfl, Nat.le_of_ble_eq_true rfl⟩ rfl h13 (x2.toNatClampNeg) rfl dX4_findMonths_140 ?_
          refine x_iast X hw 14 ⟨Nat.le_of_ble_eq_true rfl, Nat.le_of_ble_eq_true rfl⟩ rfl h16 (v15.toNatClampNeg) rfl dX4_findMonths_141 (fun S18 eS18 H locs hw => ?_)
          replace hf := lt_e eS18 hf
          refine lv_iinc (v := (x3 + 1)) (lv' := [(3, .int (x3 + 1)), (4, .int v15), (0, .ref (ad 5)), (1, .int x1), (2, .int x2)]) hx hb dX4_findMonths_142 hl (k := 4) rfl rfl (by decide) rfl (fun ls hl => ?_)
          refine lv_goto (tgt := 89) hx hb dX4_findMonths_145 (by decide) ?_
          exact ih x1 x2 (x3 + 1) S18 _ hf K _ _ _ hw (lv_sub hl [2, 3, 4, 0] rfl)
  have L24 : ∀ (n : Nat) (x1 : Int32) (x2 : Int32) (S : vS) (res : vS), f_X4_findMonths_L24 n x1 x2 S = some res → (K : ∀  (S2 : vS), some S2 = some res → ∀ (H : Heap) (locs : List Loc) (ls : Array Slot), WD D cI cO ad s S2 H locs → lv_has ls 5 [(0, .ref (ad 5))] → W p l e ({ frames := 2, cells := 0, slots := 0, locals := 47 }) s m args below meth c H locs 0 0 Q (F0 m 154 ls [])) → ∀ (H : Heap) (locs : List Loc) (ls : Array Slot), WD D cI cO ad s S H locs → lv_has ls 5 [(0, .ref (ad 5)), (1, .int x1), (2, .int x2)] → W p l e ({ frames := 2, cells := 0, slots := 0, locals := 47 }) s m args below meth c H locs 0 0 Q (F0 m 24 ls []) := by
    intro n
    induction n with
    | zero => intro x1 x2 S res hf; cases hf
    | succ n ih =>
      intro x1 x2 S res hf K H locs ls hw hl
      unfold f_X4_findMonths_L24 at hf
      refine lv_iload_n hx hb dX4_findMonths_24 rfl (lv_at hl 2 rfl) ?_
      refine lv_iload_n hx hb dX4_findMonths_25 rfl (lv_at hl 1 rfl) ?_
      refine lv_icmp_ge (tgt := 154) hx hb dX4_findMonths_26 (by decide) (fun c5 => ?_) (fun c5 => ?_)
      · replace hf := if_t c5 hf
        exact K S hf _ _ _ hw (lv_sub hl [0] rfl)
      · replace hf := if_f c5 hf
        refine lv_iload_n hx hb dX4_findMonths_29 rfl (lv_at hl 2 rfl) ?_
        refine lv_aload_n hx hb dX4_findMonths_30 rfl (lv_at hl 0 rfl) ?_
        refine x_get X hw 5 (Nat.le_of_ble_eq_true rfl) ce5 rfl i_X4 16 (by decide) q606 ⟨rfl, rfl, rfl⟩ rfl dX4_findMonths_31 ?_
        refine lv_icmp_eq (tgt := 148) hx hb dX4_findMonths_34 (by decide) (fun c6 => ?_) (fun c6 => ?_)
        · replace hf := if_t c6 hf
          refine lv_iinc (v := (x2 + 1)) (lv' := [(2, .int (x2 + 1)), (0, .ref (ad 5)), (1, .int x1)]) hx hb dX4_findMonths_148 hl (k := 2) rfl rfl (by decide) rfl (fun ls hl => ?_)
          refine lv_goto (tgt := 24) hx hb dX4_findMonths_151 (by decide) ?_
          exact ih x1 (x2 + 1) S _ hf K _ _ _ hw (lv_sub hl [1, 2, 0] rfl)
        · replace hf := if_f c6 hf
          refine lv_aload_n hx hb dX4_findMonths_37 rfl (lv_at hl 0 rfl) ?_
          refine x_get X hw 5 (Nat.le_of_ble_eq_true rfl) ce5 rfl i_X4 8 (by decide) q598 ⟨rfl, rfl, rfl⟩ rfl dX4_findMonths_38 ?_
          refine lv_iload_n hx hb dX4_findMonths_41 rfl (lv_at hl 2 rfl) ?_
          obtain ⟨h7, hf⟩ := if_s hf
          refine x_iald X hw 9 ⟨Nat.le_of_ble_eq_true rfl, Nat.le_of_ble_eq_true rfl⟩ rfl h7 (x2.toNatClampNeg) rfl dX4_findMonths_42 ?_
          refine lv_if_eq (tgt := 148) hx hb dX4_findMonths_43 (by decide) (fun c8 => ?_) (fun c8 => ?_)
          · replace hf := if_t c8 hf
            refine lv_iinc (v := (x2 + 1)) (lv' := [(2, .int (x2 + 1)), (0, .ref (ad 5)), (1, .int x1)]) hx hb dX4_findMonths_148 hl (k := 2) rfl rfl (by decide) rfl (fun ls hl => ?_)
            refine lv_goto (tgt := 24) hx hb dX4_findMonths_151 (by decide) ?_
            exact ih x1 (x2 + 1) S _ hf K _ _ _ hw (lv_sub hl [1, 2, 0] rfl)
          · replace hf := if_f c8 hf
            refine lv_aload_n hx hb dX4_findMonths_46 rfl (lv_at hl 0 rfl) ?_
            refine x_get X hw 5 (Nat.le_of_ble_eq_true rfl) ce5 rfl i_X4 7 (by decide) q597 ⟨rfl, rfl, rfl⟩ rfl dX4_findMonths_47 ?_
            refine lv_iload_n hx hb dX4_findMonths_50 rfl (lv_at hl 2 rfl) ?_
            refine x_iald X hw 8 ⟨Nat.le_of_ble_eq_true rfl, Nat.le_of_ble_eq_true rfl⟩ rfl h7 (x2.toNatClampNeg) rfl dX4_findMonths_51 ?_
            refine lv_if_eq (tgt := 148) hx hb dX4_findMonths_52 (by decide) (fun c9 => ?_) (fun c9 => ?_)
            · replace hf := if_t c9 hf
              refine lv_iinc (v := (x2 + 1)) (lv' := [(2, .int (x2 + 1)), (0, .ref (ad 5)), (1, .int x1)]) hx hb dX4_findMonths_148 hl (k := 2) rfl rfl (by decide) rfl (fun ls hl => ?_)
              refine lv_goto (tgt := 24) hx hb dX4_findMonths_151 (by decide) ?_
              exact ih x1 (x2 + 1) S _ hf K _ _ _ hw (lv_sub hl [1, 2, 0] rfl)
            · replace hf := if_f c9 hf
              refine lv_aload_n hx hb dX4_findMonths_55 rfl (lv_at hl 0 rfl) ?_
              refine lv_aload_n hx hb dX4_findMonths_56 rfl (lv_at hl 0 rfl) ?_
              refine x_get X hw 5 (Nat.le_of_ble_eq_true rfl) ce5 rfl i_X4 2 (by decide) q592 ⟨rfl, rfl, rfl⟩ rfl dX4_findMonths_57 ?_
              refine lv_iload_n hx hb dX4_findMonths_60 rfl (lv_at hl 2 rfl) ?_
              refine x_iald X hw 3 ⟨Nat.le_of_ble_eq_true rfl, Nat.le_of_ble_eq_true rfl⟩ rfl h7 (x2.toNatClampNeg) rfl dX4_findMonths_61 ?_
              refine lv_bipush (v := 8) hx hb dX4_findMonths_62 (by decide +kernel) ?_
              obtain ⟨r11, h10, hf⟩ := b1_s hf
              refine kVi X hw (c_X4_lawOf l D cI cO ad (S 3 (x2.toNatClampNeg)) (8 : Int32) S r11 h10) (Nat.le_of_ble_eq_true rfl) ce5 rfl ⟨rfl, rfl⟩ q751 q753 q41 q64 q754 hd_X4_lawOf ⟨Nat.le_of_ble_eq_true rfl, Nat.le_of_ble_eq_true rfl⟩ rfl hl.1 rfl (Nat.le_of_ble_eq_true rfl) dX4_findMonths_64 (fun H locs hw => ?_)
              refine lv_aload_n hx hb dX4_findMonths_67 rfl (lv_at hl 0 rfl) ?_
              refine x_get X hw 5 (Nat.le_of_ble_eq_true rfl) ce5 rfl i_X4 3 (by decide) q593 ⟨rfl, rfl, rfl⟩ rfl dX4_findMonths_68 ?_
              refine lv_iload_n hx hb dX4_findMonths_71 rfl (lv_at hl 2 rfl) ?_
              refine x_iald X hw 4 ⟨Nat.le_of_ble_eq_true rfl, Nat.le_of_ble_eq_true rfl⟩ rfl h7 (x2.toNatClampNeg) rfl dX4_findMonths_72 ?_
              refine lv_ishr hx hb dX4_findMonths_73 ?_
              refine lv_iconst (v := 1) hx hb dX4_findMonths_74 (by decide) ?_
              refine lv_iand hx hb dX4_findMonths_75 ?_
              refine lv_if_ne (tgt := 82) hx hb dX4_findMonths_76 (by decide) (fun c12 => ?_) (fun c12 => ?_)
              · replace hf := if_f c12 hf
                refine lv_aload_n hx hb dX4_findMonths_82 rfl (lv_at hl 0 rfl) ?_
                refine x_get X hw 5 (Nat.le_of_ble_eq_true rfl) ce5 rfl i_X4 4 (by decide) q594 ⟨rfl, rfl, rfl⟩ rfl dX4_findMonths_83 ?_
                refine lv_iload_n hx hb dX4_findMonths_86 rfl (lv_at hl 2 rfl) ?_
                refine x_iald X hw 5 ⟨Nat.le_of_ble_eq_true rfl, Nat.le_of_ble_eq_true rfl⟩ rfl h7 (x2.toNatClampNeg) rfl dX4_findMonths_87 ?_
                refine lv_istore_n (lv' := [(3, .int (S 5 (x2.toNatClampNeg))), (0, .ref (ad 5)), (1, .int x1), (2, .int x2)]) hx hb dX4_findMonths_88 rfl hl (by decide) rfl (fun ls hl => ?_)
                obtain ⟨S19, h20, hf⟩ := b1_s hf
                refine L89 FU x1 x2 (S 5 (x2.toNatClampNeg)) S _ h20 (fun S19' eK H locs ls hw hl => ?_) _ _ _ hw (lv_sub hl [1, 2, 3, 0] rfl)
                cases eK
                refine lv_iinc (v := (x2 + 1)) (lv' := [(2, .int (x2 + 1)), (0, .ref (ad 5)), (1, .int x1)]) hx hb dX4_findMonths_148 hl (k := 2) rfl rfl (by decide) rfl (fun ls hl => ?_)
                refine lv_goto (tgt := 24) hx hb dX4_findMonths_151 (by decide) ?_
                exact ih x1 (x2 + 1) S19 _ hf K _ _ _ hw (lv_sub hl [1, 2, 0] rfl)
              · replace hf := if_t c12 hf
                refine lv_goto (tgt := 148) hx hb dX4_findMonths_79 (by decide) ?_
                refine lv_iinc (v := (x2 + 1)) (lv' := [(2, .int (x2 + 1)), (0, .ref (ad 5)), (1, .int x1)]) hx hb dX4_findMonths_148 hl (k := 2) rfl rfl (by decide) rfl (fun ls hl => ?_)
                refine lv_goto (tgt := 24) hx hb dX4_findMonths_151 (by decide) ?_
                exact ih x1 (x2 + 1) S _ hf K _ _ _ hw (lv_sub hl [1, 2, 0] rfl)
  have L156 : ∀ (n : Nat) (x2 : Int32) (S : vS) (res : vS), f_X4_findMonths_L156 n x2 S = some res → (K : ∀  (S2 : vS), some S2 = some res → ∀ (H : Heap) (locs : List Loc) (ls : Array Slot), WD D cI cO ad s S2 H locs → lv_has ls 5 [] → W p l e ({ frames := 2, cells := 0, slots := 0, locals := 47 }) s m args below meth c H locs 0 0 Q (F0 m 173 ls [])) → ∀ (H : Heap) (locs : List Loc) (ls : Array Slot), WD D cI cO ad s S H locs → lv_has ls 5 [(0, .ref (ad 5)), (2, .int x2)] → W p l e ({ frames := 2, cells := 0, slots := 0, locals := 47 }) s m args below meth c H locs 0 0 Q (F0 m 156 ls []) := by
    intro n
    induction n with
    | zero => intro x2 S res hf; cases hf
    | succ n ih =>
      intro x2 S res hf K H locs ls hw hl
      unfold f_X4_findMonths_L156 at hf
      refine lv_iload_n hx hb dX4_findMonths_156 rfl (lv_at hl 1 rfl) ?_
      refine lv_bipush (v := 6) hx hb dX4_findMonths_157 (by decide +kernel) ?_
      refine lv_icmp_ge (tgt := 173) hx hb dX4_findMonths_159 (by decide) (fun c22 => ?_) (fun c22 => ?_)
      · replace hf := if_t c22 hf
        exact K S hf _ _ _ hw (lv_sub hl [] rfl)
      · replace hf := if_f c22 hf
        refine lv_aload_n hx hb dX4_findMonths_162 rfl (lv_at hl 0 rfl) ?_
        refine lv_iload_n hx hb dX4_findMonths_163 rfl (lv_at hl 1 rfl) ?_
        obtain ⟨S24, h23, hf⟩ := b1_s hf
        refine kVv X hw (c_X4_sums l D cI cO ad x2 S S24 h23) (Nat.le_of_ble_eq_true rfl) ce5 rfl ⟨rfl, rfl⟩ q755 q757 q42 q64 q758 hd_X4_sums ⟨Nat.le_of_ble_eq_true rfl, Nat.le_of_ble_eq_true rfl⟩ rfl hl.1 rfl (Nat.le_of_ble_eq_true rfl) dX4_findMonths_164 (fun H locs hw => ?_)
        refine lv_iinc (v := (x2 + 1)) (lv' := [(2, .int (x2 + 1)), (0, .ref (ad 5))]) hx hb dX4_findMonths_167 hl (k := 1) rfl rfl (by decide) rfl (fun ls hl => ?_)
        refine lv_goto (tgt := 156) hx hb dX4_findMonths_170 (by decide) ?_
        exact ih (x2 + 1) S24 _ hf K _ _ _ hw (lv_sub hl [1, 0] rfl)
  unfold f_X4_findMonths at hf
  refine lv_iconst (v := 0) hx hb dX4_findMonths_0 (by decide) ?_
  refine lv_istore_n (lv' := [(2, .int (0 : Int32)), (0, .ref (ad 5)), (1, .int a1)]) hx hb dX4_findMonths_1 rfl hl (by decide) rfl (fun ls hl => ?_)
  obtain ⟨S4, h28, hf⟩ := b1_s hf
  refine L2 FU a1 (0 : Int32) S _ h28 (fun S4' eK H locs ls hw hl => ?_) _ _ _ hw (lv_sub hl [1, 2, 0] rfl)
  cases eK
  refine lv_iconst (v := 0) hx hb dX4_findMonths_22 (by decide) ?_
  refine lv_istore_n (lv' := [(2, .int (0 : Int32)), (0, .ref (ad 5)), (1, .int a1)]) hx hb dX4_findMonths_23 rfl hl (by decide) rfl (fun ls hl => ?_)
  obtain ⟨S21, h27, hf⟩ := b1_s hf
  refine L24 FU a1 (0 : Int32) S4 _ h27 (fun S21' eK H locs ls hw hl => ?_) _ _ _ hw (lv_sub hl [1, 2, 0] rfl)
  cases eK
  refine lv_iconst (v := 0) hx hb dX4_findMonths_154 (by decide) ?_
  refine lv_istore_n (lv' := [(2, .int (0 : Int32)), (0, .ref (ad 5))]) hx hb dX4_findMonths_155 rfl hl (by decide) rfl (fun ls hl => ?_)
  obtain ⟨S25, h26, hf⟩ := b1_s hf
  refine L156 FU (0 : Int32) S21 _ h26 (fun S25' eK H locs ls hw hl => ?_) _ _ _ hw (lv_sub hl [1, 0] rfl)
  cases eK
  exact hfin _ _ 0 _ _ _ hw rfl (Option.some.inj hf) dX4_findMonths_173
/-- NineLandsModel.counts(II)I -/
theorem dX4_counts_0 : decode cX4_counts 0 = .ok (.iload_n 1, 1) := by decide +kernel
theorem dX4_counts_1 : decode cX4_counts 1 = .ok (.invokestatic 105, 3) := by decide +kernel
theorem dX4_counts_4 : decode cX4_counts 4 = .ok (.ifCond .ne 9, 3) := by decide +kernel
theorem dX4_counts_7 : decode cX4_counts 7 = .ok (.aload_n 0, 1) := by decide +kernel
theorem dX4_counts_8 : decode cX4_counts 8 = .ok (.iconst (-1), 1) := by decide +kernel
theorem dX4_counts_9 : decode cX4_counts 9 = .ok (.invokevirtual 85, 3) := by decide +kernel
theorem dX4_counts_12 : decode cX4_counts 12 = .ok (.ireturn, 1) := by decide +kernel
theorem dX4_counts_13 : decode cX4_counts 13 = .ok (.iload_n 2, 1) := by decide +kernel
theorem dX4_counts_14 : decode cX4_counts 14 = .ok (.iconst 0, 1) := by decide +kernel
theorem dX4_counts_15 : decode cX4_counts 15 = .ok (.iconst 3, 1) := by decide +kernel
theorem dX4_counts_16 : decode cX4_counts 16 = .ok (.invokestatic 98, 3) := by decide +kernel
theorem dX4_counts_19 : decode cX4_counts 19 = .ok (.ifCond .ne 10, 3) := by decide +kernel
theorem dX4_counts_22 : decode cX4_counts 22 = .ok (.aload_n 0, 1) := by decide +kernel
theorem dX4_counts_23 : decode cX4_counts 23 = .ok (.bipush (-2), 2) := by decide +kernel
theorem dX4_counts_25 : decode cX4_counts 25 = .ok (.invokevirtual 85, 3) := by decide +kernel
theorem dX4_counts_28 : decode cX4_counts 28 = .ok (.ireturn, 1) := by decide +kernel
theorem dX4_counts_29 : decode cX4_counts 29 = .ok (.aload_n 0, 1) := by decide +kernel
theorem dX4_counts_30 : decode cX4_counts 30 = .ok (.aload_n 0, 1) := by decide +kernel
theorem dX4_counts_31 : decode cX4_counts 31 = .ok (.getfield 102, 3) := by decide +kernel
theorem dX4_counts_34 : decode cX4_counts 34 = .ok (.invokevirtual 133, 3) := by decide +kernel
theorem dX4_counts_37 : decode cX4_counts 37 = .ok (.iload_n 2, 1) := by decide +kernel
theorem dX4_counts_38 : decode cX4_counts 38 = .ok (.ifCond .ne 12, 3) := by decide +kernel
theorem dX4_counts_41 : decode cX4_counts 41 = .ok (.aload_n 0, 1) := by decide +kernel
theorem dX4_counts_42 : decode cX4_counts 42 = .ok (.getfield 56, 3) := by decide +kernel
theorem dX4_counts_45 : decode cX4_counts 45 = .ok (.iload_n 1, 1) := by decide +kernel
theorem dX4_counts_46 : decode cX4_counts 46 = .ok (.iaload, 1) := by decide +kernel
theorem dX4_counts_47 : decode cX4_counts 47 = .ok (.goto 37, 3) := by decide +kernel
theorem dX4_counts_50 : decode cX4_counts 50 = .ok (.iload_n 2, 1) := by decide +kernel
theorem dX4_counts_51 : decode cX4_counts 51 = .ok (.iconst 1, 1) := by decide +kernel
theorem dX4_counts_52 : decode cX4_counts 52 = .ok (.if_icmp .ne 12, 3) := by decide +kernel
theorem dX4_counts_55 : decode cX4_counts 55 = .ok (.aload_n 0, 1) := by decide +kernel
theorem dX4_counts_56 : decode cX4_counts 56 = .ok (.getfield 59, 3) := by decide +kernel
theorem dX4_counts_59 : decode cX4_counts 59 = .ok (.iload_n 1, 1) := by decide +kernel
theorem dX4_counts_60 : decode cX4_counts 60 = .ok (.iaload, 1) := by decide +kernel
theorem dX4_counts_61 : decode cX4_counts 61 = .ok (.goto 23, 3) := by decide +kernel
theorem dX4_counts_64 : decode cX4_counts 64 = .ok (.iload_n 2, 1) := by decide +kernel
theorem dX4_counts_65 : decode cX4_counts 65 = .ok (.iconst 2, 1) := by decide +kernel
theorem dX4_counts_66 : decode cX4_counts 66 = .ok (.if_icmp .ne 12, 3) := by decide +kernel
theorem dX4_counts_69 : decode cX4_counts 69 = .ok (.aload_n 0, 1) := by decide +kernel
theorem dX4_counts_70 : decode cX4_counts 70 = .ok (.getfield 62, 3) := by decide +kernel
theorem dX4_counts_73 : decode cX4_counts 73 = .ok (.iload_n 1, 1) := by decide +kernel
theorem dX4_counts_74 : decode cX4_counts 74 = .ok (.iaload, 1) := by decide +kernel
theorem dX4_counts_75 : decode cX4_counts 75 = .ok (.goto 9, 3) := by decide +kernel
theorem dX4_counts_78 : decode cX4_counts 78 = .ok (.aload_n 0, 1) := by decide +kernel
theorem dX4_counts_79 : decode cX4_counts 79 = .ok (.getfield 65, 3) := by decide +kernel
theorem dX4_counts_82 : decode cX4_counts 82 = .ok (.iload_n 1, 1) := by decide +kernel
theorem dX4_counts_83 : decode cX4_counts 83 = .ok (.iaload, 1) := by decide +kernel
theorem dX4_counts_84 : decode cX4_counts 84 = .ok (.ireturn, 1) := by decide +kernel
theorem hd_X4_counts : yX4_counts.cls ≠ "java/lang/invoke/MethodHandle" ∧ yX4_counts.cls ≠ "java/lang/invoke/VarHandle" ∧ (parseMethodDescriptor yX4_counts.desc).map (fun d => d.parameters.length) = some 2 := by decide +kernel
def f_X4_counts (a1 : Int32) (a2 : Int32) (S : vS) : Option (Int32 × vS) := b1 (f_X4_isLand a1 S) fun r2 => if r2 = 0 then b2 (f_X4_no (-1 : Int32) S) fun r21 S20 => some (r21, S20) else b1 (f_X4_isIn a2 (0 : Int32) (3 : Int32) S) fun r5 => if r5 = 0 then b2 (f_X4_no (-2 : Int32) S) fun r18 S17 => some (r18, S17) else b1 (f_X4_findMonths (S 0 2) S) fun S8 => if a2 = 0 then if inb a1 6 = true then some ((S8 15 (a1.toNatClampNeg)), S8) else none else if a2 = (1 : Int32) then if inb a1 6 = true then some ((S8 16 (a1.toNatClampNeg)), S8) else none else if a2 = (2 : Int32) then if inb a1 6 = true then some ((S8 17 (a1.toNatClampNeg)), S8) else none else if inb a1 6 = true then some ((S8 18 (a1.toNatClampNeg)), S8) else none
set_option maxHeartbeats 4000000 in
set_option maxRecDepth 20000 in
theorem c_X4_counts (l : Launch) (D : va_G) (cI cO : ClassId) (ad : Nat → Nat) (a1 : Int32) (a2 : Int32) (S : vS) (R9 : Int32) (S9 : vS) (hf : f_X4_counts a1 a2 S = some (R9, S9)) : CI l yX4_counts cX4_counts 3 .int ({ frames := 3, cells := 0, slots := 0, locals := 71 }) [.ref (ad 5), .int a1, .int a2] D cI cO ad S R9 S9 := by
  refine CI.of (by decide +kernel) (Nat.le_of_ble_eq_true rfl) (fun p e s m args below meth c Q ls X hl hw hfin => ?_)
  have hl : lv_has ls 3 [(0, .ref (ad 5)), (1, .int a1), (2, .int a2)] := hl
  have hx := X.1
  have hb := X.2.1
  unfold f_X4_counts at hf
  refine lv_iload_n hx hb dX4_counts_0 rfl (lv_at hl 1 rfl) ?_
  obtain ⟨r2, h1, hf⟩ := b1_s hf
  refine kSi X hw (c_X4_isLand l D cI cO ad a1 S r2 h1) ⟨rfl, rfl⟩ q705 q706 q64 q707 hd_X4_isLand ⟨Nat.le_of_ble_eq_true rfl, Nat.le_of_ble_eq_true rfl⟩ rfl hl.1 rfl (Nat.le_of_ble_eq_true rfl) dX4_counts_1 (fun H locs hw => ?_)
  refine lv_if_ne (tgt := 13) hx hb dX4_counts_4 (by decide) (fun c3 => ?_) (fun c3 => ?_)
  · replace hf := if_f c3 hf
    refine lv_iload_n hx hb dX4_counts_13 rfl (lv_at hl 2 rfl) ?_
    refine lv_iconst (v := 0) hx hb dX4_counts_14 (by decide) ?_
    refine lv_iconst (v := 3) hx hb dX4_counts_15 (by decide) ?_
    obtain ⟨r5, h4, hf⟩ := b1_s hf
    refine kSi X hw (c_X4_isIn l D cI cO ad a2 (0 : Int32) (3 : Int32) S r5 h4) ⟨rfl, rfl⟩ q712 q713 q64 q714 hd_X4_isIn ⟨Nat.le_of_ble_eq_true rfl, Nat.le_of_ble_eq_true rfl⟩ rfl hl.1 rfl (Nat.le_of_ble_eq_true rfl) dX4_counts_16 (fun H locs hw => ?_)
    refine lv_if_ne (tgt := 29) hx hb dX4_counts_19 (by decide) (fun c6 => ?_) (fun c6 => ?_)
    · replace hf := if_f c6 hf
      refine lv_aload_n hx hb dX4_counts_29 rfl (lv_at hl 0 rfl) ?_
      refine lv_aload_n hx hb dX4_counts_30 rfl (lv_at hl 0 rfl) ?_
      refine x_get X hw 5 (Nat.le_of_ble_eq_true rfl) ce5 rfl i_X4 15 (by decide) q605 ⟨rfl, rfl, rfl⟩ rfl dX4_counts_31 ?_
      obtain ⟨S8, h7, hf⟩ := b1_s hf
      refine kVv X hw (c_X4_findMonths l D cI cO ad (S 0 2) S S8 h7) (Nat.le_of_ble_eq_true rfl) ce5 rfl ⟨rfl, rfl⟩ q747 q749 q40 q64 q750 hd_X4_findMonths ⟨Nat.le_of_ble_eq_true rfl, Nat.le_of_ble_eq_true rfl⟩ rfl hl.1 rfl (Nat.le_of_ble_eq_true rfl) dX4_counts_34 (fun H locs hw => ?_)
      refine lv_iload_n hx hb dX4_counts_37 rfl (lv_at hl 2 rfl) ?_
      refine lv_if_ne (tgt := 50) hx hb dX4_counts_38 (by decide) (fun c9 => ?_) (fun c9 => ?_)
      · replace hf := if_f c9 hf
        refine lv_iload_n hx hb dX4_counts_50 rfl (lv_at hl 2 rfl) ?_
        refine lv_iconst (v := 1) hx hb dX4_counts_51 (by decide) ?_
        refine lv_icmp_ne (tgt := 64) hx hb dX4_counts_52 (by decide) (fun c10 => ?_) (fun c10 => ?_)
        · replace hf := if_f c10 hf
          refine lv_iload_n hx hb dX4_counts_64 rfl (lv_at hl 2 rfl) ?_
          refine lv_iconst (v := 2) hx hb dX4_counts_65 (by decide) ?_
          refine lv_icmp_ne (tgt := 78) hx hb dX4_counts_66 (by decide) (fun c11 => ?_) (fun c11 => ?_)
          · replace hf := if_f c11 hf
            refine lv_aload_n hx hb dX4_counts_78 rfl (lv_at hl 0 rfl) ?_
            refine x_get X hw 5 (Nat.le_of_ble_eq_true rfl) ce5 rfl i_X4 21 (by decide) q611 ⟨rfl, rfl, rfl⟩ rfl dX4_counts_79 ?_
            refine lv_iload_n hx hb dX4_counts_82 rfl (lv_at hl 1 rfl) ?_
            obtain ⟨h12, hf⟩ := if_s hf
            refine x_iald X hw 18 ⟨Nat.le_of_ble_eq_true rfl, Nat.le_of_ble_eq_true rfl⟩ rfl h12 (a1.toNatClampNeg) rfl dX4_counts_83 ?_
            exact hfin _ _ _ _ _ _ hw (s2a hf) (s2b hf) (narI _) dX4_counts_84
          · replace hf := if_t c11 hf
            refine lv_aload_n hx hb dX4_counts_69 rfl (lv_at hl 0 rfl) ?_
            refine x_get X hw 5 (Nat.le_of_ble_eq_true rfl) ce5 rfl i_X4 20 (by decide) q610 ⟨rfl, rfl, rfl⟩ rfl dX4_counts_70 ?_
            refine lv_iload_n hx hb dX4_counts_73 rfl (lv_at hl 1 rfl) ?_
            obtain ⟨h13, hf⟩ := if_s hf
            refine x_iald X hw 17 ⟨Nat.le_of_ble_eq_true rfl, Nat.le_of_ble_eq_true rfl⟩ rfl h13 (a1.toNatClampNeg) rfl dX4_counts_74 ?_
            refine lv_goto (tgt := 84) hx hb dX4_counts_75 (by decide) ?_
            exact hfin _ _ _ _ _ _ hw (s2a hf) (s2b hf) (narI _) dX4_counts_84
        · replace hf := if_t c10 hf
          refine lv_aload_n hx hb dX4_counts_55 rfl (lv_at hl 0 rfl) ?_
          refine x_get X hw 5 (Nat.le_of_ble_eq_true rfl) ce5 rfl i_X4 19 (by decide) q609 ⟨rfl, rfl, rfl⟩ rfl dX4_counts_56 ?_
          refine lv_iload_n hx hb dX4_counts_59 rfl (lv_at hl 1 rfl) ?_
          obtain ⟨h14, hf⟩ := if_s hf
          refine x_iald X hw 16 ⟨Nat.le_of_ble_eq_true rfl, Nat.le_of_ble_eq_true rfl⟩ rfl h14 (a1.toNatClampNeg) rfl dX4_counts_60 ?_
          refine lv_goto (tgt := 84) hx hb dX4_counts_61 (by decide) ?_
          exact hfin _ _ _ _ _ _ hw (s2a hf) (s2b hf) (narI _) dX4_counts_84
      · replace hf := if_t c9 hf
        refine lv_aload_n hx hb dX4_counts_41 rfl (lv_at hl 0 rfl) ?_
        refine x_get X hw 5 (Nat.le_of_ble_eq_true rfl) ce5 rfl i_X4 18 (by decide) q608 ⟨rfl, rfl, rfl⟩ rfl dX4_counts_42 ?_
        refine lv_iload_n hx hb dX4_counts_45 rfl (lv_at hl 1 rfl) ?_
        obtain ⟨h15, hf⟩ := if_s hf
        refine x_iald X hw 15 ⟨Nat.le_of_ble_eq_true rfl, Nat.le_of_ble_eq_true rfl⟩ rfl h15 (a1.toNatClampNeg) rfl dX4_counts_46 ?_
        refine lv_goto (tgt := 84) hx hb dX4_counts_47 (by decide) ?_
        exact hfin _ _ _ _ _ _ hw (s2a hf) (s2b hf) (narI _) dX4_counts_84
    · replace hf := if_t c6 hf
      refine lv_aload_n hx hb dX4_counts_22 rfl (lv_at hl 0 rfl) ?_
      refine lv_bipush (v := -2) hx hb dX4_counts_23 (by decide +kernel) ?_
      obtain ⟨r18, S17, h16, hf⟩ := b2_s hf
      refine kVi X hw (c_X4_no l D cI cO ad (-2 : Int32) S r18 S17 h16) (Nat.le_of_ble_eq_true rfl) ce5 rfl ⟨rfl, rfl⟩ q688 q690 q34 q64 q691 hd_X4_no ⟨Nat.le_of_ble_eq_true rfl, Nat.le_of_ble_eq_true rfl⟩ rfl hl.1 rfl (Nat.le_of_ble_eq_true rfl) dX4_counts_25 (fun H locs hw => ?_)
      exact hfin _ _ _ _ _ _ hw (s2a hf) (s2b hf) (narI _) dX4_counts_28
  · replace hf := if_t c3 hf
    refine lv_aload_n hx hb dX4_counts_7 rfl (lv_at hl 0 rfl) ?_
    refine lv_iconst (v := -1) hx hb dX4_counts_8 (by decide) ?_
    obtain ⟨r21, S20, h19, hf⟩ := b2_s hf
    refine kVi X hw (c_X4_no l D cI cO ad (-1 : Int32) S r21 S20 h19) (Nat.le_of_ble_eq_true rfl) ce5 rfl ⟨rfl, rfl⟩ q688 q690 q34 q64 q691 hd_X4_no ⟨Nat.le_of_ble_eq_true rfl, Nat.le_of_ble_eq_true rfl⟩ rfl hl.1 rfl (Nat.le_of_ble_eq_true rfl) dX4_counts_9 (fun H locs hw => ?_)
    exact hfin _ _ _ _ _ _ hw (s2a hf) (s2b hf) (narI _) dX4_counts_12
/-- NineLandsModel.month(II)I -/
theorem dX4_month_0 : decode cX4_month 0 = .ok (.iload_n 1, 1) := by decide +kernel
theorem dX4_month_1 : decode cX4_month 1 = .ok (.invokestatic 105, 3) := by decide +kernel
theorem dX4_month_4 : decode cX4_month 4 = .ok (.ifCond .ne 9, 3) := by decide +kernel
theorem dX4_month_7 : decode cX4_month 7 = .ok (.aload_n 0, 1) := by decide +kernel
theorem dX4_month_8 : decode cX4_month 8 = .ok (.iconst (-1), 1) := by decide +kernel
theorem dX4_month_9 : decode cX4_month 9 = .ok (.invokevirtual 85, 3) := by decide +kernel
theorem dX4_month_12 : decode cX4_month 12 = .ok (.ireturn, 1) := by decide +kernel
theorem dX4_month_13 : decode cX4_month 13 = .ok (.iload_n 2, 1) := by decide +kernel
theorem dX4_month_14 : decode cX4_month 14 = .ok (.iconst 0, 1) := by decide +kernel
theorem dX4_month_15 : decode cX4_month 15 = .ok (.sipush 899, 3) := by decide +kernel
theorem dX4_month_18 : decode cX4_month 18 = .ok (.invokestatic 78, 3) := by decide +kernel
theorem dX4_month_21 : decode cX4_month 21 = .ok (.istore_n 3, 1) := by decide +kernel
theorem dX4_month_22 : decode cX4_month 22 = .ok (.iload_n 3, 1) := by decide +kernel
theorem dX4_month_23 : decode cX4_month 23 = .ok (.ifCond .eq 9, 3) := by decide +kernel
theorem dX4_month_26 : decode cX4_month 26 = .ok (.aload_n 0, 1) := by decide +kernel
theorem dX4_month_27 : decode cX4_month 27 = .ok (.iload_n 3, 1) := by decide +kernel
theorem dX4_month_28 : decode cX4_month 28 = .ok (.invokevirtual 85, 3) := by decide +kernel
theorem dX4_month_31 : decode cX4_month 31 = .ok (.ireturn, 1) := by decide +kernel
theorem dX4_month_32 : decode cX4_month 32 = .ok (.aload_n 0, 1) := by decide +kernel
theorem dX4_month_33 : decode cX4_month 33 = .ok (.aload_n 0, 1) := by decide +kernel
theorem dX4_month_34 : decode cX4_month 34 = .ok (.getfield 102, 3) := by decide +kernel
theorem dX4_month_37 : decode cX4_month 37 = .ok (.invokevirtual 133, 3) := by decide +kernel
theorem dX4_month_40 : decode cX4_month 40 = .ok (.aload_n 0, 1) := by decide +kernel
theorem dX4_month_41 : decode cX4_month 41 = .ok (.getfield 53, 3) := by decide +kernel
theorem dX4_month_44 : decode cX4_month 44 = .ok (.sipush 900, 3) := by decide +kernel
theorem dX4_month_47 : decode cX4_month 47 = .ok (.iload_n 1, 1) := by decide +kernel
theorem dX4_month_48 : decode cX4_month 48 = .ok (.imul, 1) := by decide +kernel
theorem dX4_month_49 : decode cX4_month 49 = .ok (.iload_n 2, 1) := by decide +kernel
theorem dX4_month_50 : decode cX4_month 50 = .ok (.iadd, 1) := by decide +kernel
theorem dX4_month_51 : decode cX4_month 51 = .ok (.iaload, 1) := by decide +kernel
theorem dX4_month_52 : decode cX4_month 52 = .ok (.istore 4, 2) := by decide +kernel
theorem dX4_month_54 : decode cX4_month 54 = .ok (.iload 4, 2) := by decide +kernel
theorem dX4_month_56 : decode cX4_month 56 = .ok (.ifCond .ge 8, 3) := by decide +kernel
theorem dX4_month_59 : decode cX4_month 59 = .ok (.bipush (-9), 2) := by decide +kernel
theorem dX4_month_61 : decode cX4_month 61 = .ok (.goto 5, 3) := by decide +kernel
theorem dX4_month_64 : decode cX4_month 64 = .ok (.iload 4, 2) := by decide +kernel
theorem dX4_month_66 : decode cX4_month 66 = .ok (.ireturn, 1) := by decide +kernel
theorem hd_X4_month : yX4_month.cls ≠ "java/lang/invoke/MethodHandle" ∧ yX4_month.cls ≠ "java/lang/invoke/VarHandle" ∧ (parseMethodDescriptor yX4_month.desc).map (fun d => d.parameters.length) = some 2 := by decide +kernel
def f_X4_month (a1 : Int32) (a2 : Int32) (S : vS) : Option (Int32 × vS) := b1 (f_X4_isLand a1 S) fun r2 => if r2 = 0 then b2 (f_X4_no (-1 : Int32) S) fun r17 S16 => some (r17, S16) else b1 (f_X4_out a2 (0 : Int32) (899 : Int32) S) fun r5 => if r5 = 0 then b1 (f_X4_findMonths (S 0 2) S) fun S8 => if inb (((900 : Int32) * a1) + a2) 5400 = true then lt ((S8 14 ((((900 : Int32) * a1) + a2).toNatClampNeg))) fun v10 => if 0 ≤ v10 then some (v10, S8) else some ((-9 : Int32), S8) else none else b2 (f_X4_no r5 S) fun r14 S13 => some (r14, S13)
set_option maxHeartbeats 4000000 in
set_option maxRecDepth 20000 in
theorem c_X4_month (l : Launch) (D : va_G) (cI cO : ClassId) (ad : Nat → Nat) (a1 : Int32) (a2 : Int32) (S : vS) (R9 : Int32) (S9 : vS) (hf : f_X4_month a1 a2 S = some (R9, S9)) : CI l yX4_month cX4_month 5 .int ({ frames := 3, cells := 0, slots := 0, locals := 71 }) [.ref (ad 5), .int a1, .int a2] D cI cO ad S R9 S9 := by
  refine CI.of (by decide +kernel) (Nat.le_of_ble_eq_true rfl) (fun p e s m args below meth c Q ls X hl hw hfin => ?_)
  have hl : lv_has ls 5 [(0, .ref (ad 5)), (1, .int a1), (2, .int a2)] := hl
  have hx := X.1
  have hb := X.2.1
  unfold f_X4_month at hf
  refine lv_iload_n hx hb dX4_month_0 rfl (lv_at hl 1 rfl) ?_
  obtain ⟨r2, h1, hf⟩ := b1_s hf
  refine kSi X hw (c_X4_isLand l D cI cO ad a1 S r2 h1) ⟨rfl, rfl⟩ q705 q706 q64 q707 hd_X4_isLand ⟨Nat.le_of_ble_eq_true rfl, Nat.le_of_ble_eq_true rfl⟩ rfl hl.1 rfl (Nat.le_of_ble_eq_true rfl) dX4_month_1 (fun H locs hw => ?_)
  refine lv_if_ne (tgt := 13) hx hb dX4_month_4 (by decide) (fun c3 => ?_) (fun c3 => ?_)
  · replace hf := if_f c3 hf
    refine lv_iload_n hx hb dX4_month_13 rfl (lv_at hl 2 rfl) ?_
    refine lv_iconst (v := 0) hx hb dX4_month_14 (by decide) ?_
    refine lv_sipush (v := 899) hx hb dX4_month_15 (by decide +kernel) ?_
    obtain ⟨r5, h4, hf⟩ := b1_s hf
    refine kSi X hw (c_X4_out l D cI cO ad a2 (0 : Int32) (899 : Int32) S r5 h4) ⟨rfl, rfl⟩ q685 q686 q64 q687 hd_X4_out ⟨Nat.le_of_ble_eq_true rfl, Nat.le_of_ble_eq_true rfl⟩ rfl hl.1 rfl (Nat.le_of_ble_eq_true rfl) dX4_month_18 (fun H locs hw => ?_)
    refine lv_istore_n (lv' := [(3, .int r5), (0, .ref (ad 5)), (1, .int a1), (2, .int a2)]) hx hb dX4_month_21 rfl hl (by decide) rfl (fun ls hl => ?_)
    refine lv_iload_n hx hb dX4_month_22 rfl (lv_at hl 0 rfl) ?_
    refine lv_if_eq (tgt := 32) hx hb dX4_month_23 (by decide) (fun c6 => ?_) (fun c6 => ?_)
    · replace hf := if_t c6 hf
      refine lv_aload_n hx hb dX4_month_32 rfl (lv_at hl 1 rfl) ?_
      refine lv_aload_n hx hb dX4_month_33 rfl (lv_at hl 1 rfl) ?_
      refine x_get X hw 5 (Nat.le_of_ble_eq_true rfl) ce5 rfl i_X4 15 (by decide) q605 ⟨rfl, rfl, rfl⟩ rfl dX4_month_34 ?_
      obtain ⟨S8, h7, hf⟩ := b1_s hf
      refine kVv X hw (c_X4_findMonths l D cI cO ad (S 0 2) S S8 h7) (Nat.le_of_ble_eq_true rfl) ce5 rfl ⟨rfl, rfl⟩ q747 q749 q40 q64 q750 hd_X4_findMonths ⟨Nat.le_of_ble_eq_true rfl, Nat.le_of_ble_eq_true rfl⟩ rfl hl.1 rfl (Nat.le_of_ble_eq_true rfl) dX4_month_37 (fun H locs hw => ?_)
      refine lv_aload_n hx hb dX4_month_40 rfl (lv_at hl 1 rfl) ?_
      refine x_get X hw 5 (Nat.le_of_ble_eq_true rfl) ce5 rfl i_X4 17 (by decide) q607 ⟨rfl, rfl, rfl⟩ rfl dX4_month_41 ?_
      refine lv_sipush (v := 900) hx hb dX4_month_44 (by decide +kernel) ?_
      refine lv_iload_n hx hb dX4_month_47 rfl (lv_at hl 2 rfl) ?_
      refine lv_imul hx hb dX4_month_48 ?_
      refine lv_iload_n hx hb dX4_month_49 rfl (lv_at hl 3 rfl) ?_
      refine lv_iadd hx hb dX4_month_50 ?_
      obtain ⟨h9, hf⟩ := if_s hf
      refine x_iald X hw 14 ⟨Nat.le_of_ble_eq_true rfl, Nat.le_of_ble_eq_true rfl⟩ rfl h9 ((((900 : Int32) * a1) + a2).toNatClampNeg) rfl dX4_month_51 ?_
      refine lv_topi (fun v10 ev10 => ?_)
      replace hf := lt_e ev10 hf
      refine lv_istore (lv' := [(4, .int v10), (3, .int r5), (0, .ref (ad 5)), (1, .int a1), (2, .int a2)]) hx hb dX4_month_52 hl (by decide) rfl (fun ls hl => ?_)
      refine lv_iload hx hb dX4_month_54 (lv_at hl 0 rfl) ?_
      refine lv_if_ge (tgt := 64) hx hb dX4_month_56 (by decide) (fun c11 => ?_) (fun c11 => ?_)
      · replace hf := if_t c11 hf
        refine lv_iload hx hb dX4_month_64 (lv_at hl 0 rfl) ?_
        exact hfin _ _ _ _ _ _ hw (s2a hf) (s2b hf) (narI _) dX4_month_66
      · replace hf := if_f c11 hf
        refine lv_bipush (v := -9) hx hb dX4_month_59 (by decide +kernel) ?_
        refine lv_goto (tgt := 66) hx hb dX4_month_61 (by decide) ?_
        exact hfin _ _ _ _ _ _ hw (s2a hf) (s2b hf) (narI _) dX4_month_66
    · replace hf := if_f c6 hf
      refine lv_aload_n hx hb dX4_month_26 rfl (lv_at hl 1 rfl) ?_
      refine lv_iload_n hx hb dX4_month_27 rfl (lv_at hl 0 rfl) ?_
      obtain ⟨r14, S13, h12, hf⟩ := b2_s hf
      refine kVi X hw (c_X4_no l D cI cO ad r5 S r14 S13 h12) (Nat.le_of_ble_eq_true rfl) ce5 rfl ⟨rfl, rfl⟩ q688 q690 q34 q64 q691 hd_X4_no ⟨Nat.le_of_ble_eq_true rfl, Nat.le_of_ble_eq_true rfl⟩ rfl hl.1 rfl (Nat.le_of_ble_eq_true rfl) dX4_month_28 (fun H locs hw => ?_)
      exact hfin _ _ _ _ _ _ hw (s2a hf) (s2b hf) (narI _) dX4_month_31
  · replace hf := if_t c3 hf
    refine lv_aload_n hx hb dX4_month_7 rfl (lv_at hl 0 rfl) ?_
    refine lv_iconst (v := -1) hx hb dX4_month_8 (by decide) ?_
    obtain ⟨r17, S16, h15, hf⟩ := b2_s hf
    refine kVi X hw (c_X4_no l D cI cO ad (-1 : Int32) S r17 S16 h15) (Nat.le_of_ble_eq_true rfl) ce5 rfl ⟨rfl, rfl⟩ q688 q690 q34 q64 q691 hd_X4_no ⟨Nat.le_of_ble_eq_true rfl, Nat.le_of_ble_eq_true rfl⟩ rfl hl.1 rfl (Nat.le_of_ble_eq_true rfl) dX4_month_9 (fun H locs hw => ?_)
    exact hfin _ _ _ _ _ _ hw (s2a hf) (s2b hf) (narI _) dX4_month_12
/-- NineLandsModel.over(I)I -/
theorem dX4_over_0 : decode cX4_over 0 = .ok (.iload_n 1, 1) := by decide +kernel
theorem dX4_over_1 : decode cX4_over 1 = .ok (.iconst 0, 1) := by decide +kernel
theorem dX4_over_2 : decode cX4_over 2 = .ok (.iconst 1, 1) := by decide +kernel
theorem dX4_over_3 : decode cX4_over 3 = .ok (.invokestatic 98, 3) := by decide +kernel
theorem dX4_over_6 : decode cX4_over 6 = .ok (.ifCond .ne 10, 3) := by decide +kernel
theorem dX4_over_9 : decode cX4_over 9 = .ok (.aload_n 0, 1) := by decide +kernel
theorem dX4_over_10 : decode cX4_over 10 = .ok (.bipush (-2), 2) := by decide +kernel
theorem dX4_over_12 : decode cX4_over 12 = .ok (.invokevirtual 85, 3) := by decide +kernel
theorem dX4_over_15 : decode cX4_over 15 = .ok (.ireturn, 1) := by decide +kernel
theorem dX4_over_16 : decode cX4_over 16 = .ok (.iconst 0, 1) := by decide +kernel
theorem dX4_over_17 : decode cX4_over 17 = .ok (.istore_n 2, 1) := by decide +kernel
theorem dX4_over_18 : decode cX4_over 18 = .ok (.bipush (-9), 2) := by decide +kernel
theorem dX4_over_20 : decode cX4_over 20 = .ok (.istore_n 3, 1) := by decide +kernel
theorem dX4_over_21 : decode cX4_over 21 = .ok (.sipush 899, 3) := by decide +kernel
theorem dX4_over_24 : decode cX4_over 24 = .ok (.istore 4, 2) := by decide +kernel
theorem dX4_over_26 : decode cX4_over 26 = .ok (.iload 4, 2) := by decide +kernel
theorem dX4_over_28 : decode cX4_over 28 = .ok (.ifCond .lt 90, 3) := by decide +kernel
theorem dX4_over_31 : decode cX4_over 31 = .ok (.iconst 0, 1) := by decide +kernel
theorem dX4_over_32 : decode cX4_over 32 = .ok (.istore 5, 2) := by decide +kernel
theorem dX4_over_34 : decode cX4_over 34 = .ok (.iconst 0, 1) := by decide +kernel
theorem dX4_over_35 : decode cX4_over 35 = .ok (.istore 6, 2) := by decide +kernel
theorem dX4_over_37 : decode cX4_over 37 = .ok (.iload 6, 2) := by decide +kernel
theorem dX4_over_39 : decode cX4_over 39 = .ok (.aload_n 0, 1) := by decide +kernel
theorem dX4_over_40 : decode cX4_over 40 = .ok (.getfield 102, 3) := by decide +kernel
theorem dX4_over_43 : decode cX4_over 43 = .ok (.if_icmp .ge 54, 3) := by decide +kernel
theorem dX4_over_46 : decode cX4_over 46 = .ok (.iload 5, 2) := by decide +kernel
theorem dX4_over_48 : decode cX4_over 48 = .ok (.aload_n 0, 1) := by decide +kernel
theorem dX4_over_49 : decode cX4_over 49 = .ok (.getfield 34, 3) := by decide +kernel
theorem dX4_over_52 : decode cX4_over 52 = .ok (.iload 6, 2) := by decide +kernel
theorem dX4_over_54 : decode cX4_over 54 = .ok (.iaload, 1) := by decide +kernel
theorem dX4_over_55 : decode cX4_over 55 = .ok (.iconst 1, 1) := by decide +kernel
theorem dX4_over_56 : decode cX4_over 56 = .ok (.if_icmp .ne 31, 3) := by decide +kernel
theorem dX4_over_59 : decode cX4_over 59 = .ok (.aload_n 0, 1) := by decide +kernel
theorem dX4_over_60 : decode cX4_over 60 = .ok (.getfield 22, 3) := by decide +kernel
theorem dX4_over_63 : decode cX4_over 63 = .ok (.iload 6, 2) := by decide +kernel
theorem dX4_over_65 : decode cX4_over 65 = .ok (.iaload, 1) := by decide +kernel
theorem dX4_over_66 : decode cX4_over 66 = .ok (.iload 4, 2) := by decide +kernel
theorem dX4_over_68 : decode cX4_over 68 = .ok (.if_icmp .gt 19, 3) := by decide +kernel
theorem dX4_over_71 : decode cX4_over 71 = .ok (.iload 4, 2) := by decide +kernel
theorem dX4_over_73 : decode cX4_over 73 = .ok (.aload_n 0, 1) := by decide +kernel
theorem dX4_over_74 : decode cX4_over 74 = .ok (.getfield 25, 3) := by decide +kernel
theorem dX4_over_77 : decode cX4_over 77 = .ok (.iload 6, 2) := by decide +kernel
theorem dX4_over_79 : decode cX4_over 79 = .ok (.iaload, 1) := by decide +kernel
theorem dX4_over_80 : decode cX4_over 80 = .ok (.if_icmp .ge 7, 3) := by decide +kernel
theorem dX4_over_83 : decode cX4_over 83 = .ok (.iconst 1, 1) := by decide +kernel
theorem dX4_over_84 : decode cX4_over 84 = .ok (.goto 4, 3) := by decide +kernel
theorem dX4_over_87 : decode cX4_over 87 = .ok (.iconst 0, 1) := by decide +kernel
theorem dX4_over_88 : decode cX4_over 88 = .ok (.iadd, 1) := by decide +kernel
theorem dX4_over_89 : decode cX4_over 89 = .ok (.istore 5, 2) := by decide +kernel
theorem dX4_over_91 : decode cX4_over 91 = .ok (.iinc 6 1, 3) := by decide +kernel
theorem dX4_over_94 : decode cX4_over 94 = .ok (.goto (-57), 3) := by decide +kernel
theorem dX4_over_97 : decode cX4_over 97 = .ok (.iload 5, 2) := by decide +kernel
theorem dX4_over_99 : decode cX4_over 99 = .ok (.iconst 2, 1) := by decide +kernel
theorem dX4_over_100 : decode cX4_over 100 = .ok (.if_icmp .ge 6, 3) := by decide +kernel
theorem dX4_over_103 : decode cX4_over 103 = .ok (.goto 9, 3) := by decide +kernel
theorem dX4_over_106 : decode cX4_over 106 = .ok (.iinc 2 1, 3) := by decide +kernel
theorem dX4_over_109 : decode cX4_over 109 = .ok (.iload 4, 2) := by decide +kernel
theorem dX4_over_111 : decode cX4_over 111 = .ok (.istore_n 3, 1) := by decide +kernel
theorem dX4_over_112 : decode cX4_over 112 = .ok (.iinc 4 (-1), 3) := by decide +kernel
theorem dX4_over_115 : decode cX4_over 115 = .ok (.goto (-89), 3) := by decide +kernel
theorem dX4_over_118 : decode cX4_over 118 = .ok (.iload_n 1, 1) := by decide +kernel
theorem dX4_over_119 : decode cX4_over 119 = .ok (.ifCond .ne 7, 3) := by decide +kernel
theorem dX4_over_122 : decode cX4_over 122 = .ok (.iload_n 2, 1) := by decide +kernel
theorem dX4_over_123 : decode cX4_over 123 = .ok (.goto 4, 3) := by decide +kernel
theorem dX4_over_126 : decode cX4_over 126 = .ok (.iload_n 3, 1) := by decide +kernel
theorem dX4_over_127 : decode cX4_over 127 = .ok (.ireturn, 1) := by decide +kernel
theorem hd_X4_over : yX4_over.cls ≠ "java/lang/invoke/MethodHandle" ∧ yX4_over.cls ≠ "java/lang/invoke/VarHandle" ∧ (parseMethodDescriptor yX4_over.desc).map (fun d => d.parameters.length) = some 1 := by decide +kernel
def f_X4_over_L37 (S : vS) : Nat → Int32 → Int32 → Int32 → Int32 → Int32 → Int32 →  Option Int32
  | 0, _, _, _, _, _, _ => none
  | n + 1, x1, x2, x3, x4, x5, x6 => if (S 0 2) ≤ x6 then some x5 else if inb x6 21 = true then if (S 9 (x6.toNatClampNeg)) = (1 : Int32) then if x4 < (S 5 (x6.toNatClampNeg)) then (f_X4_over_L37 S n) x1 x2 x3 x4 (x5 + (0 : Int32)) (x6 + 1) else if (S 6 (x6.toNatClampNeg)) ≤ x4 then (f_X4_over_L37 S n) x1 x2 x3 x4 (x5 + (0 : Int32)) (x6 + 1) else (f_X4_over_L37 S n) x1 x2 x3 x4 (x5 + (1 : Int32)) (x6 + 1) else (f_X4_over_L37 S n) x1 x2 x3 x4 (x5 + (0 : Int32)) (x6 + 1) else none
def f_X4_over_L26 (S : vS) : Nat → Int32 → Int32 → Int32 → Int32 →  Option (Int32 × Int32)
  | 0, _, _, _, _ => none
  | n + 1, x1, x2, x3, x4 => if x4 < 0 then some (x2, x3) else b1 (f_X4_over_L37 S FU x1 x2 x3 x4 (0 : Int32) (0 : Int32)) fun y10 => if (2 : Int32) ≤ y10 then (f_X4_over_L26 S n) x1 (x2 + 1) x4 (x4 + (-1)) else (f_X4_over_L26 S n) x1 x2 x3 (x4 + (-1))
def f_X4_over (a1 : Int32) (S : vS) : Option (Int32 × vS) := b1 (f_X4_isIn a1 (0 : Int32) (1 : Int32) S) fun r2 => if r2 = 0 then b2 (f_X4_no (-2 : Int32) S) fun r19 S18 => some (r19, S18) else b2 (f_X4_over_L26 S FU a1 (0 : Int32) (-9 : Int32) (899 : Int32)) fun y13 y14 => if a1 = 0 then some (y13, S) else some (y14, S)
set_option maxHeartbeats 4000000 in
set_option maxRecDepth 20000 in
theorem c_X4_over (l : Launch) (D : va_G) (cI cO : ClassId) (ad : Nat → Nat) (a1 : Int32) (S : vS) (R9 : Int32) (S9 : vS) (hf : f_X4_over a1 S = some (R9, S9)) : CI l yX4_over cX4_over 7 .int ({ frames := 1, cells := 0, slots := 0, locals := 22 }) [.ref (ad 5), .int a1] D cI cO ad S R9 S9 := by
  refine CI.of (by decide +kernel) (Nat.le_of_ble_eq_true rfl) (fun p e s m args below meth c Q ls X hl hw hfin => ?_)
  have hl : lv_has ls 7 [(0, .ref (ad 5)), (1, .int a1)] := hl
  have hx := X.1
  have hb := X.2.1
  have L37 : ∀ (S : vS) (n : Nat) (x1 : Int32) (x2 : Int32) (x3 : Int32) (x4 : Int32) (x5 : Int32) (x6 : Int32) (res : Int32), f_X4_over_L37 S n x1 x2 x3 x4 x5 x6 = some res → (K : ∀ (y5 : Int32), some y5 = some res → ∀ (H : Heap) (locs : List Loc) (ls : Array Slot), WD D cI cO ad s S H locs → lv_has ls 7 [(0, .ref (ad 5)), (1, .int x1), (2, .int x2), (3, .int x3), (4, .int x4), (5, .int y5)] → W p l e ({ frames := 1, cells := 0, slots := 0, locals := 22 }) s m args below meth c H locs 0 0 Q (F0 m 97 ls [])) → ∀ (H : Heap) (locs : List Loc) (ls : Array Slot), WD D cI cO ad s S H locs → lv_has ls 7 [(0, .ref (ad 5)), (1, .int x1), (2, .int x2), (3, .int x3), (4, .int x4), (5, .int x5), (6, .int x6)] → W p l e ({ frames := 1, cells := 0, slots := 0, locals := 22 }) s m args below meth c H locs 0 0 Q (F0 m 37 ls []) := by
    intro S n
    induction n with
    | zero => intro x1 x2 x3 x4 x5 x6 res hf; cases hf
    | succ n ih =>
      intro x1 x2 x3 x4 x5 x6 res hf K H locs ls hw hl
      unfold f_X4_over_L37 at hf
      refine lv_iload hx hb dX4_over_37 (lv_at hl 6 rfl) ?_
      refine lv_aload_n hx hb dX4_over_39 rfl (lv_at hl 0 rfl) ?_
      refine x_get X hw 5 (Nat.le_of_ble_eq_true rfl) ce5 rfl i_X4 15 (by decide) q605 ⟨rfl, rfl, rfl⟩ rfl dX4_over_40 ?_
      refine lv_icmp_ge (tgt := 97) hx hb dX4_over_43 (by decide) (fun c5 => ?_) (fun c5 => ?_)
      · replace hf := if_t c5 hf
        exact K x5 hf _ _ _ hw (lv_sub hl [0, 1, 2, 3, 4, 5] rfl)
      · replace hf := if_f c5 hf
        refine lv_iload hx hb dX4_over_46 (lv_at hl 5 rfl) ?_
        refine lv_aload_n hx hb dX4_over_48 rfl (lv_at hl 0 rfl) ?_
        refine x_get X hw 5 (Nat.le_of_ble_eq_true rfl) ce5 rfl i_X4 8 (by decide) q598 ⟨rfl, rfl, rfl⟩ rfl dX4_over_49 ?_
        refine lv_iload hx hb dX4_over_52 (lv_at hl 6 rfl) ?_
        obtain ⟨h6, hf⟩ := if_s hf
        refine x_iald X hw 9 ⟨Nat.le_of_ble_eq_true rfl, Nat.le_of_ble_eq_true rfl⟩ rfl h6 (x6.toNatClampNeg) rfl dX4_over_54 ?_
        refine lv_iconst (v := 1) hx hb dX4_over_55 (by decide) ?_
        refine lv_icmp_ne (tgt := 87) hx hb dX4_over_56 (by decide) (fun c7 => ?_) (fun c7 => ?_)
        · replace hf := if_f c7 hf
          refine lv_iconst (v := 0) hx hb dX4_over_87 (by decide) ?_
          refine lv_iadd hx hb dX4_over_88 ?_
          refine lv_istore (lv' := [(5, .int (x5 + (0 : Int32))), (0, .ref (ad 5)), (1, .int x1), (2, .int x2), (3, .int x3), (4, .int x4), (6, .int x6)]) hx hb dX4_over_89 hl (by decide) rfl (fun ls hl => ?_)
          refine lv_iinc (v := (x6 + 1)) (lv' := [(6, .int (x6 + 1)), (5, .int (x5 + (0 : Int32))), (0, .ref (ad 5)), (1, .int x1), (2, .int x2), (3, .int x3), (4, .int x4)]) hx hb dX4_over_91 hl (k := 6) rfl rfl (by decide) rfl (fun ls hl => ?_)
          refine lv_goto (tgt := 37) hx hb dX4_over_94 (by decide) ?_
          exact ih x1 x2 x3 x4 (x5 + (0 : Int32)) (x6 + 1) _ hf K _ _ _ hw (lv_sub hl [2, 3, 4, 5, 6, 1, 0] rfl)
        · replace hf := if_t c7 hf
          refine lv_aload_n hx hb dX4_over_59 rfl (lv_at hl 0 rfl) ?_
          refine x_get X hw 5 (Nat.le_of_ble_eq_true rfl) ce5 rfl i_X4 4 (by decide) q594 ⟨rfl, rfl, rfl⟩ rfl dX4_over_60 ?_
          refine lv_iload hx hb dX4_over_63 (lv_at hl 6 rfl) ?_
          refine x_iald X hw 5 ⟨Nat.le_of_ble_eq_true rfl, Nat.le_of_ble_eq_true rfl⟩ rfl h6 (x6.toNatClampNeg) rfl dX4_over_65 ?_
          refine lv_iload hx hb dX4_over_66 (lv_at hl 4 rfl) ?_
          refine lv_icmp_gt (tgt := 87) hx hb dX4_over_68 (by decide) (fun c8 => ?_) (fun c8 => ?_)
          · replace hf := if_t c8 hf
            refine lv_iconst (v := 0) hx hb dX4_over_87 (by decide) ?_
            refine lv_iadd hx hb dX4_over_88 ?_
            refine lv_istore (lv' := [(5, .int (x5 + (0 : Int32))), (0, .ref (ad 5)), (1, .int x1), (2, .int x2), (3, .int x3), (4, .int x4), (6, .int x6)]) hx hb dX4_over_89 hl (by decide) rfl (fun ls hl => ?_)
            refine lv_iinc (v := (x6 + 1)) (lv' := [(6, .int (x6 + 1)), (5, .int (x5 + (0 : Int32))), (0, .ref (ad 5)), (1, .int x1), (2, .int x2), (3, .int x3), (4, .int x4)]) hx hb dX4_over_91 hl (k := 6) rfl rfl (by decide) rfl (fun ls hl => ?_)
            refine lv_goto (tgt := 37) hx hb dX4_over_94 (by decide) ?_
            exact ih x1 x2 x3 x4 (x5 + (0 : Int32)) (x6 + 1) _ hf K _ _ _ hw (lv_sub hl [2, 3, 4, 5, 6, 1, 0] rfl)
          · replace hf := if_f c8 hf
            refine lv_iload hx hb dX4_over_71 (lv_at hl 4 rfl) ?_
            refine lv_aload_n hx hb dX4_over_73 rfl (lv_at hl 0 rfl) ?_
            refine x_get X hw 5 (Nat.le_of_ble_eq_true rfl) ce5 rfl i_X4 5 (by decide) q595 ⟨rfl, rfl, rfl⟩ rfl dX4_over_74 ?_
            refine lv_iload hx hb dX4_over_77 (lv_at hl 6 rfl) ?_
            refine x_iald X hw 6 ⟨Nat.le_of_ble_eq_true rfl, Nat.le_of_ble_eq_true rfl⟩ rfl h6 (x6.toNatClampNeg) rfl dX4_over_79 ?_
            refine lv_icmp_ge (tgt := 87) hx hb dX4_over_80 (by decide) (fun c9 => ?_) (fun c9 => ?_)
            · replace hf := if_t c9 hf
              refine lv_iconst (v := 0) hx hb dX4_over_87 (by decide) ?_
              refine lv_iadd hx hb dX4_over_88 ?_
              refine lv_istore (lv' := [(5, .int (x5 + (0 : Int32))), (0, .ref (ad 5)), (1, .int x1), (2, .int x2), (3, .int x3), (4, .int x4), (6, .int x6)]) hx hb dX4_over_89 hl (by decide) rfl (fun ls hl => ?_)
              refine lv_iinc (v := (x6 + 1)) (lv' := [(6, .int (x6 + 1)), (5, .int (x5 + (0 : Int32))), (0, .ref (ad 5)), (1, .int x1), (2, .int x2), (3, .int x3), (4, .int x4)]) hx hb dX4_over_91 hl (k := 6) rfl rfl (by decide) rfl (fun ls hl => ?_)
              refine lv_goto (tgt := 37) hx hb dX4_over_94 (by decide) ?_
              exact ih x1 x2 x3 x4 (x5 + (0 : Int32)) (x6 + 1) _ hf K _ _ _ hw (lv_sub hl [2, 3, 4, 5, 6, 1, 0] rfl)
            · replace hf := if_f c9 hf
              refine lv_iconst (v := 1) hx hb dX4_over_83 (by decide) ?_
              refine lv_goto (tgt := 88) hx hb dX4_over_84 (by decide) ?_
              refine lv_iadd hx hb dX4_over_88 ?_
              refine lv_istore (lv' := [(5, .int (x5 + (1 : Int32))), (0, .ref (ad 5)), (1, .int x1), (2, .int x2), (3, .int x3), (4, .int x4), (6, .int x6)]) hx hb dX4_over_89 hl (by decide) rfl (fun ls hl => ?_)
              refine lv_iinc (v := (x6 + 1)) (lv' := [(6, .int (x6 + 1)), (5, .int (x5 + (1 : Int32))), (0, .ref (ad 5)), (1, .int x1), (2, .int x2), (3, .int x3), (4, .int x4)]) hx hb dX4_over_91 hl (k := 6) rfl rfl (by decide) rfl (fun ls hl => ?_)
              refine lv_goto (tgt := 37) hx hb dX4_over_94 (by decide) ?_
              exact ih x1 x2 x3 x4 (x5 + (1 : Int32)) (x6 + 1) _ hf K _ _ _ hw (lv_sub hl [2, 3, 4, 5, 6, 1, 0] rfl)
  have L26 : ∀ (S : vS) (n : Nat) (x1 : Int32) (x2 : Int32) (x3 : Int32) (x4 : Int32) (res : (Int32 × Int32)), f_X4_over_L26 S n x1 x2 x3 x4 = some res → (K : ∀ (y2 : Int32) (y3 : Int32), some (y2, y3) = some res → ∀ (H : Heap) (locs : List Loc) (ls : Array Slot), WD D cI cO ad s S H locs → lv_has ls 7 [(1, .int x1), (2, .int y2), (3, .int y3)] → W p l e ({ frames := 1, cells := 0, slots := 0, locals := 22 }) s m args below meth c H locs 0 0 Q (F0 m 118 ls [])) → ∀ (H : Heap) (locs : List Loc) (ls : Array Slot), WD D cI cO ad s S H locs → lv_has ls 7 [(0, .ref (ad 5)), (1, .int x1), (2, .int x2), (3, .int x3), (4, .int x4)] → W p l e ({ frames := 1, cells := 0, slots := 0, locals := 22 }) s m args below meth c H locs 0 0 Q (F0 m 26 ls []) := by
    intro S n
    induction n with
    | zero => intro x1 x2 x3 x4 res hf; cases hf
    | succ n ih =>
      intro x1 x2 x3 x4 res hf K H locs ls hw hl
      unfold f_X4_over_L26 at hf
      refine lv_iload hx hb dX4_over_26 (lv_at hl 4 rfl) ?_
      refine lv_if_lt (tgt := 118) hx hb dX4_over_28 (by decide) (fun c4 => ?_) (fun c4 => ?_)
      · replace hf := if_t c4 hf
        exact K x2 x3 hf _ _ _ hw (lv_sub hl [1, 2, 3] rfl)
      · replace hf := if_f c4 hf
        refine lv_iconst (v := 0) hx hb dX4_over_31 (by decide) ?_
        refine lv_istore (lv' := [(5, .int (0 : Int32)), (0, .ref (ad 5)), (1, .int x1), (2, .int x2), (3, .int x3), (4, .int x4)]) hx hb dX4_over_32 hl (by decide) rfl (fun ls hl => ?_)
        refine lv_iconst (v := 0) hx hb dX4_over_34 (by decide) ?_
        refine lv_istore (lv' := [(6, .int (0 : Int32)), (5, .int (0 : Int32)), (0, .ref (ad 5)), (1, .int x1), (2, .int x2), (3, .int x3), (4, .int x4)]) hx hb dX4_over_35 hl (by decide) rfl (fun ls hl => ?_)
        obtain ⟨y10, h12, hf⟩ := b1_s hf
        refine L37 S FU x1 x2 x3 x4 (0 : Int32) (0 : Int32) _ h12 (fun y10' eK H locs ls hw hl => ?_) _ _ _ hw (lv_sub hl [2, 3, 4, 5, 6, 1, 0] rfl)
        cases eK
        refine lv_iload hx hb dX4_over_97 (lv_at hl 5 rfl) ?_
        refine lv_iconst (v := 2) hx hb dX4_over_99 (by decide) ?_
        refine lv_icmp_ge (tgt := 106) hx hb dX4_over_100 (by decide) (fun c11 => ?_) (fun c11 => ?_)
        · replace hf := if_t c11 hf
          refine lv_iinc (v := (x2 + 1)) (lv' := [(2, .int (x2 + 1)), (0, .ref (ad 5)), (1, .int x1), (3, .int x3), (4, .int x4), (5, .int y10)]) hx hb dX4_over_106 hl (k := 2) rfl rfl (by decide) rfl (fun ls hl => ?_)
          refine lv_iload hx hb dX4_over_109 (lv_at hl 4 rfl) ?_
          refine lv_istore_n (lv' := [(3, .int x4), (2, .int (x2 + 1)), (0, .ref (ad 5)), (1, .int x1), (4, .int x4), (5, .int y10)]) hx hb dX4_over_111 rfl hl (by decide) rfl (fun ls hl => ?_)
          refine lv_iinc (v := (x4 + (-1))) (lv' := [(4, .int (x4 + (-1))), (3, .int x4), (2, .int (x2 + 1)), (0, .ref (ad 5)), (1, .int x1), (5, .int y10)]) hx hb dX4_over_112 hl (k := 4) rfl rfl (by decide) rfl (fun ls hl => ?_)
          refine lv_goto (tgt := 26) hx hb dX4_over_115 (by decide) ?_
          exact ih x1 (x2 + 1) x4 (x4 + (-1)) _ hf K _ _ _ hw (lv_sub hl [3, 4, 2, 1, 0] rfl)
        · replace hf := if_f c11 hf
          refine lv_goto (tgt := 112) hx hb dX4_over_103 (by decide) ?_
          refine lv_iinc (v := (x4 + (-1))) (lv' := [(4, .int (x4 + (-1))), (0, .ref (ad 5)), (1, .int x1), (2, .int x2), (3, .int x3), (5, .int y10)]) hx hb dX4_over_112 hl (k := 4) rfl rfl (by decide) rfl (fun ls hl => ?_)
          refine lv_goto (tgt := 26) hx hb dX4_over_115 (by decide) ?_
          exact ih x1 x2 x3 (x4 + (-1)) _ hf K _ _ _ hw (lv_sub hl [1, 2, 3, 4, 0] rfl)
  unfold f_X4_over at hf
  refine lv_iload_n hx hb dX4_over_0 rfl (lv_at hl 1 rfl) ?_
  refine lv_iconst (v := 0) hx hb dX4_over_1 (by decide) ?_
  refine lv_iconst (v := 1) hx hb dX4_over_2 (by decide) ?_
  obtain ⟨r2, h1, hf⟩ := b1_s hf
  refine kSi X hw (c_X4_isIn l D cI cO ad a1 (0 : Int32) (1 : Int32) S r2 h1) ⟨rfl, rfl⟩ q712 q713 q64 q714 hd_X4_isIn ⟨Nat.le_of_ble_eq_true rfl, Nat.le_of_ble_eq_true rfl⟩ rfl hl.1 rfl (Nat.le_of_ble_eq_true rfl) dX4_over_3 (fun H locs hw => ?_)
  refine lv_if_ne (tgt := 16) hx hb dX4_over_6 (by decide) (fun c3 => ?_) (fun c3 => ?_)
  · replace hf := if_f c3 hf
    refine lv_iconst (v := 0) hx hb dX4_over_16 (by decide) ?_
    refine lv_istore_n (lv' := [(2, .int (0 : Int32)), (0, .ref (ad 5)), (1, .int a1)]) hx hb dX4_over_17 rfl hl (by decide) rfl (fun ls hl => ?_)
    refine lv_bipush (v := -9) hx hb dX4_over_18 (by decide +kernel) ?_
    refine lv_istore_n (lv' := [(3, .int (-9 : Int32)), (2, .int (0 : Int32)), (0, .ref (ad 5)), (1, .int a1)]) hx hb dX4_over_20 rfl hl (by decide) rfl (fun ls hl => ?_)
    refine lv_sipush (v := 899) hx hb dX4_over_21 (by decide +kernel) ?_
    refine lv_istore (lv' := [(4, .int (899 : Int32)), (3, .int (-9 : Int32)), (2, .int (0 : Int32)), (0, .ref (ad 5)), (1, .int a1)]) hx hb dX4_over_24 hl (by decide) rfl (fun ls hl => ?_)
    obtain ⟨y13, y14, h16, hf⟩ := b2_s hf
    refine L26 S FU a1 (0 : Int32) (-9 : Int32) (899 : Int32) _ h16 (fun y13' y14' eK H locs ls hw hl => ?_) _ _ _ hw (lv_sub hl [3, 4, 2, 1, 0] rfl)
    cases eK
    refine lv_iload_n hx hb dX4_over_118 rfl (lv_at hl 0 rfl) ?_
    refine lv_if_ne (tgt := 126) hx hb dX4_over_119 (by decide) (fun c15 => ?_) (fun c15 => ?_)
    · replace hf := if_f c15 hf
      refine lv_iload_n hx hb dX4_over_126 rfl (lv_at hl 2 rfl) ?_
      exact hfin _ _ _ _ _ _ hw (s2a hf) (s2b hf) (narI _) dX4_over_127
    · replace hf := if_t c15 hf
      refine lv_iload_n hx hb dX4_over_122 rfl (lv_at hl 1 rfl) ?_
      refine lv_goto (tgt := 127) hx hb dX4_over_123 (by decide) ?_
      exact hfin _ _ _ _ _ _ hw (s2a hf) (s2b hf) (narI _) dX4_over_127
  · replace hf := if_t c3 hf
    refine lv_aload_n hx hb dX4_over_9 rfl (lv_at hl 0 rfl) ?_
    refine lv_bipush (v := -2) hx hb dX4_over_10 (by decide +kernel) ?_
    obtain ⟨r19, S18, h17, hf⟩ := b2_s hf
    refine kVi X hw (c_X4_no l D cI cO ad (-2 : Int32) S r19 S18 h17) (Nat.le_of_ble_eq_true rfl) ce5 rfl ⟨rfl, rfl⟩ q688 q690 q34 q64 q691 hd_X4_no ⟨Nat.le_of_ble_eq_true rfl, Nat.le_of_ble_eq_true rfl⟩ rfl hl.1 rfl (Nat.le_of_ble_eq_true rfl) dX4_over_12 (fun H locs hw => ?_)
    exact hfin _ _ _ _ _ _ hw (s2a hf) (s2b hf) (narI _) dX4_over_15
/-- NineLandsModel.greater(II)I -/
theorem dX4_greater_0 : decode cX4_greater 0 = .ok (.iload_n 0, 1) := by decide +kernel
theorem dX4_greater_1 : decode cX4_greater 1 = .ok (.iload_n 1, 1) := by decide +kernel
theorem dX4_greater_2 : decode cX4_greater 2 = .ok (.if_icmp .le 7, 3) := by decide +kernel
theorem dX4_greater_5 : decode cX4_greater 5 = .ok (.iload_n 0, 1) := by decide +kernel
theorem dX4_greater_6 : decode cX4_greater 6 = .ok (.goto 4, 3) := by decide +kernel
theorem dX4_greater_9 : decode cX4_greater 9 = .ok (.iload_n 1, 1) := by decide +kernel
theorem dX4_greater_10 : decode cX4_greater 10 = .ok (.ireturn, 1) := by decide +kernel
theorem hd_X4_greater : yX4_greater.cls ≠ "java/lang/invoke/MethodHandle" ∧ yX4_greater.cls ≠ "java/lang/invoke/VarHandle" ∧ (parseMethodDescriptor yX4_greater.desc).map (fun d => d.parameters.length) = some 2 := by decide +kernel
def f_X4_greater (a0 : Int32) (a1 : Int32) (S : vS) : Option Int32 := if a0 ≤ a1 then some a1 else some a0
set_option maxHeartbeats 4000000 in
set_option maxRecDepth 20000 in
theorem c_X4_greater (l : Launch) (D : va_G) (cI cO : ClassId) (ad : Nat → Nat) (a0 : Int32) (a1 : Int32) (S : vS) (R9 : Int32) (hf : f_X4_greater a0 a1 S = some R9) : CI l yX4_greater cX4_greater 2 .int ({ frames := 0, cells := 0, slots := 0, locals := 0 }) [.int a0, .int a1] D cI cO ad S R9 S := by
  refine CI.of (by decide +kernel) (Nat.le_of_ble_eq_true rfl) (fun p e s m args below meth c Q ls X hl hw hfin => ?_)
  have hl : lv_has ls 2 [(0, .int a0), (1, .int a1)] := hl
  have hx := X.1
  have hb := X.2.1
  unfold f_X4_greater at hf
  refine lv_iload_n hx hb dX4_greater_0 rfl (lv_at hl 0 rfl) ?_
  refine lv_iload_n hx hb dX4_greater_1 rfl (lv_at hl 1 rfl) ?_
  refine lv_icmp_le (tgt := 9) hx hb dX4_greater_2 (by decide) (fun c1 => ?_) (fun c1 => ?_)
  · replace hf := if_t c1 hf
    refine lv_iload_n hx hb dX4_greater_9 rfl (lv_at hl 1 rfl) ?_
    exact hfin _ _ _ _ _ _ hw (Option.some.inj hf) rfl (narI _) dX4_greater_10
  · replace hf := if_f c1 hf
    refine lv_iload_n hx hb dX4_greater_5 rfl (lv_at hl 0 rfl) ?_
    refine lv_goto (tgt := 10) hx hb dX4_greater_6 (by decide) ?_
    exact hfin _ _ _ _ _ _ hw (Option.some.inj hf) rfl (narI _) dX4_greater_10
/-- NineLandsModel.isRight(II)Z -/
theorem dX4_isRight_0 : decode cX4_isRight 0 = .ok (.iload_n 2, 1) := by decide +kernel
theorem dX4_isRight_1 : decode cX4_isRight 1 = .ok (.iconst 1, 1) := by decide +kernel
theorem dX4_isRight_2 : decode cX4_isRight 2 = .ok (.if_icmp .lt 17, 3) := by decide +kernel
theorem dX4_isRight_5 : decode cX4_isRight 5 = .ok (.iload_n 2, 1) := by decide +kernel
theorem dX4_isRight_6 : decode cX4_isRight 6 = .ok (.aload_n 0, 1) := by decide +kernel
theorem dX4_isRight_7 : decode cX4_isRight 7 = .ok (.iload_n 1, 1) := by decide +kernel
theorem dX4_isRight_8 : decode cX4_isRight 8 = .ok (.iconst 0, 1) := by decide +kernel
theorem dX4_isRight_9 : decode cX4_isRight 9 = .ok (.invokevirtual 122, 3) := by decide +kernel
theorem dX4_isRight_12 : decode cX4_isRight 12 = .ok (.if_icmp .lt 7, 3) := by decide +kernel
theorem dX4_isRight_15 : decode cX4_isRight 15 = .ok (.iconst 1, 1) := by decide +kernel
theorem dX4_isRight_16 : decode cX4_isRight 16 = .ok (.goto 4, 3) := by decide +kernel
theorem dX4_isRight_19 : decode cX4_isRight 19 = .ok (.iconst 0, 1) := by decide +kernel
theorem dX4_isRight_20 : decode cX4_isRight 20 = .ok (.ireturn, 1) := by decide +kernel
theorem hd_X4_isRight : yX4_isRight.cls ≠ "java/lang/invoke/MethodHandle" ∧ yX4_isRight.cls ≠ "java/lang/invoke/VarHandle" ∧ (parseMethodDescriptor yX4_isRight.desc).map (fun d => d.parameters.length) = some 2 := by decide +kernel
def f_X4_isRight (a1 : Int32) (a2 : Int32) (S : vS) : Option Int32 := if a2 < (1 : Int32) then some (0 : Int32) else b1 (f_X4_lawOf a1 (0 : Int32) S) fun r3 => if a2 < r3 then some (0 : Int32) else some (1 : Int32)
set_option maxHeartbeats 4000000 in
set_option maxRecDepth 20000 in
theorem c_X4_isRight (l : Launch) (D : va_G) (cI cO : ClassId) (ad : Nat → Nat) (a1 : Int32) (a2 : Int32) (S : vS) (R9 : Int32) (hf : f_X4_isRight a1 a2 S = some R9) : CI l yX4_isRight cX4_isRight 3 .boolean ({ frames := 1, cells := 0, slots := 0, locals := 22 }) [.ref (ad 5), .int a1, .int a2] D cI cO ad S R9 S := by
  refine CI.of (by decide +kernel) (Nat.le_of_ble_eq_true rfl) (fun p e s m args below meth c Q ls X hl hw hfin => ?_)
  have hl : lv_has ls 3 [(0, .ref (ad 5)), (1, .int a1), (2, .int a2)] := hl
  have hx := X.1
  have hb := X.2.1
  unfold f_X4_isRight at hf
  refine lv_iload_n hx hb dX4_isRight_0 rfl (lv_at hl 2 rfl) ?_
  refine lv_iconst (v := 1) hx hb dX4_isRight_1 (by decide) ?_
  refine lv_icmp_lt (tgt := 19) hx hb dX4_isRight_2 (by decide) (fun c1 => ?_) (fun c1 => ?_)
  · replace hf := if_t c1 hf
    refine lv_iconst (v := 0) hx hb dX4_isRight_19 (by decide) ?_
    exact hfin _ _ _ _ _ _ hw (Option.some.inj hf) rfl rfl dX4_isRight_20
  · replace hf := if_f c1 hf
    refine lv_iload_n hx hb dX4_isRight_5 rfl (lv_at hl 2 rfl) ?_
    refine lv_aload_n hx hb dX4_isRight_6 rfl (lv_at hl 0 rfl) ?_
    refine lv_iload_n hx hb dX4_isRight_7 rfl (lv_at hl 1 rfl) ?_
    refine lv_iconst (v := 0) hx hb dX4_isRight_8 (by decide) ?_
    obtain ⟨r3, h2, hf⟩ := b1_s hf
    refine kVi X hw (c_X4_lawOf l D cI cO ad a1 (0 : Int32) S r3 h2) (Nat.le_of_ble_eq_true rfl) ce5 rfl ⟨rfl, rfl⟩ q751 q753 q41 q64 q754 hd_X4_lawOf ⟨Nat.le_of_ble_eq_true rfl, Nat.le_of_ble_eq_true rfl⟩ rfl hl.1 rfl (Nat.le_of_ble_eq_true rfl) dX4_isRight_9 (fun H locs hw => ?_)
    refine lv_icmp_lt (tgt := 19) hx hb dX4_isRight_12 (by decide) (fun c4 => ?_) (fun c4 => ?_)
    · replace hf := if_t c4 hf
      refine lv_iconst (v := 0) hx hb dX4_isRight_19 (by decide) ?_
      exact hfin _ _ _ _ _ _ hw (Option.some.inj hf) rfl rfl dX4_isRight_20
    · replace hf := if_f c4 hf
      refine lv_iconst (v := 1) hx hb dX4_isRight_15 (by decide) ?_
      refine lv_goto (tgt := 20) hx hb dX4_isRight_16 (by decide) ?_
      exact hfin _ _ _ _ _ _ hw (Option.some.inj hf) rfl rfl dX4_isRight_20
/-- NineLandsModel.byRate(II)I -/
theorem dX4_byRate_0 : decode cX4_byRate 0 = .ok (.aload_n 0, 1) := by decide +kernel
theorem dX4_byRate_1 : decode cX4_byRate 1 = .ok (.iload_n 1, 1) := by decide +kernel
theorem dX4_byRate_2 : decode cX4_byRate 2 = .ok (.iconst 2, 1) := by decide +kernel
theorem dX4_byRate_3 : decode cX4_byRate 3 = .ok (.invokevirtual 122, 3) := by decide +kernel
theorem dX4_byRate_6 : decode cX4_byRate 6 = .ok (.iload_n 2, 1) := by decide +kernel
theorem dX4_byRate_7 : decode cX4_byRate 7 = .ok (.imul, 1) := by decide +kernel
theorem dX4_byRate_8 : decode cX4_byRate 8 = .ok (.bipush 100, 2) := by decide +kernel
theorem dX4_byRate_10 : decode cX4_byRate 10 = .ok (.idiv, 1) := by decide +kernel
theorem dX4_byRate_11 : decode cX4_byRate 11 = .ok (.istore_n 3, 1) := by decide +kernel
theorem dX4_byRate_12 : decode cX4_byRate 12 = .ok (.iload_n 3, 1) := by decide +kernel
theorem dX4_byRate_13 : decode cX4_byRate 13 = .ok (.aload_n 0, 1) := by decide +kernel
theorem dX4_byRate_14 : decode cX4_byRate 14 = .ok (.iload_n 1, 1) := by decide +kernel
theorem dX4_byRate_15 : decode cX4_byRate 15 = .ok (.iconst 4, 1) := by decide +kernel
theorem dX4_byRate_16 : decode cX4_byRate 16 = .ok (.invokevirtual 122, 3) := by decide +kernel
theorem dX4_byRate_19 : decode cX4_byRate 19 = .ok (.if_icmp .ge 7, 3) := by decide +kernel
theorem dX4_byRate_22 : decode cX4_byRate 22 = .ok (.iload_n 3, 1) := by decide +kernel
theorem dX4_byRate_23 : decode cX4_byRate 23 = .ok (.goto 9, 3) := by decide +kernel
theorem dX4_byRate_26 : decode cX4_byRate 26 = .ok (.aload_n 0, 1) := by decide +kernel
theorem dX4_byRate_27 : decode cX4_byRate 27 = .ok (.iload_n 1, 1) := by decide +kernel
theorem dX4_byRate_28 : decode cX4_byRate 28 = .ok (.iconst 4, 1) := by decide +kernel
theorem dX4_byRate_29 : decode cX4_byRate 29 = .ok (.invokevirtual 122, 3) := by decide +kernel
theorem dX4_byRate_32 : decode cX4_byRate 32 = .ok (.ireturn, 1) := by decide +kernel
theorem hd_X4_byRate : yX4_byRate.cls ≠ "java/lang/invoke/MethodHandle" ∧ yX4_byRate.cls ≠ "java/lang/invoke/VarHandle" ∧ (parseMethodDescriptor yX4_byRate.desc).map (fun d => d.parameters.length) = some 2 := by decide +kernel
def f_X4_byRate (a1 : Int32) (a2 : Int32) (S : vS) : Option Int32 := b1 (f_X4_lawOf a1 (2 : Int32) S) fun r2 => lt (((r2 * a2) / (100 : Int32))) fun v3 => b1 (f_X4_lawOf a1 (4 : Int32) S) fun r5 => if r5 ≤ v3 then b1 (f_X4_lawOf a1 (4 : Int32) S) fun r8 => some r8 else some v3
set_option maxHeartbeats 4000000 in
set_option maxRecDepth 20000 in
theorem c_X4_byRate (l : Launch) (D : va_G) (cI cO : ClassId) (ad : Nat → Nat) (a1 : Int32) (a2 : Int32) (S : vS) (R9 : Int32) (hf : f_X4_byRate a1 a2 S = some R9) : CI l yX4_byRate cX4_byRate 4 .int ({ frames := 1, cells := 0, slots := 0, locals := 22 }) [.ref (ad 5), .int a1, .int a2] D cI cO ad S R9 S := by
  refine CI.of (by decide +kernel) (Nat.le_of_ble_eq_true rfl) (fun p e s m args below meth c Q ls X hl hw hfin => ?_)
  have hl : lv_has ls 4 [(0, .ref (ad 5)), (1, .int a1), (2, .int a2)] := hl
  have hx := X.1
  have hb := X.2.1
  unfold f_X4_byRate at hf
  refine lv_aload_n hx hb dX4_byRate_0 rfl (lv_at hl 0 rfl) ?_
  refine lv_iload_n hx hb dX4_byRate_1 rfl (lv_at hl 1 rfl) ?_
  refine lv_iconst (v := 2) hx hb dX4_byRate_2 (by decide) ?_
  obtain ⟨r2, h1, hf⟩ := b1_s hf
  refine kVi X hw (c_X4_lawOf l D cI cO ad a1 (2 : Int32) S r2 h1) (Nat.le_of_ble_eq_true rfl) ce5 rfl ⟨rfl, rfl⟩ q751 q753 q41 q64 q754 hd_X4_lawOf ⟨Nat.le_of_ble_eq_true rfl, Nat.le_of_ble_eq_true rfl⟩ rfl hl.1 rfl (Nat.le_of_ble_eq_true rfl) dX4_byRate_3 (fun H locs hw => ?_)
  refine lv_iload_n hx hb dX4_byRate_6 rfl (lv_at hl 2 rfl) ?_
  refine lv_imul hx hb dX4_byRate_7 ?_
  refine lv_bipush (v := 100) hx hb dX4_byRate_8 (by decide +kernel) ?_
  refine lv_idiv hx hb dX4_byRate_10 (by decide) ?_
  refine lv_topi (fun v3 ev3 => ?_)
  replace hf := lt_e ev3 hf
  refine lv_istore_n (lv' := [(3, .int v3), (0, .ref (ad 5)), (1, .int a1), (2, .int a2)]) hx hb dX4_byRate_11 rfl hl (by decide) rfl (fun ls hl => ?_)
  refine lv_iload_n hx hb dX4_byRate_12 rfl (lv_at hl 0 rfl) ?_
  refine lv_aload_n hx hb dX4_byRate_13 rfl (lv_at hl 1 rfl) ?_
  refine lv_iload_n hx hb dX4_byRate_14 rfl (lv_at hl 2 rfl) ?_
  refine lv_iconst (v := 4) hx hb dX4_byRate_15 (by decide) ?_
  obtain ⟨r5, h4, hf⟩ := b1_s hf
  refine kVi X hw (c_X4_lawOf l D cI cO ad a1 (4 : Int32) S r5 h4) (Nat.le_of_ble_eq_true rfl) ce5 rfl ⟨rfl, rfl⟩ q751 q753 q41 q64 q754 hd_X4_lawOf ⟨Nat.le_of_ble_eq_true rfl, Nat.le_of_ble_eq_true rfl⟩ rfl hl.1 rfl (Nat.le_of_ble_eq_true rfl) dX4_byRate_16 (fun H locs hw => ?_)
  refine lv_icmp_ge (tgt := 26) hx hb dX4_byRate_19 (by decide) (fun c6 => ?_) (fun c6 => ?_)
  · replace hf := if_t c6 hf
    refine lv_aload_n hx hb dX4_byRate_26 rfl (lv_at hl 1 rfl) ?_
    refine lv_iload_n hx hb dX4_byRate_27 rfl (lv_at hl 2 rfl) ?_
    refine lv_iconst (v := 4) hx hb dX4_byRate_28 (by decide) ?_
    obtain ⟨r8, h7, hf⟩ := b1_s hf
    refine kVi X hw (c_X4_lawOf l D cI cO ad a1 (4 : Int32) S r8 h7) (Nat.le_of_ble_eq_true rfl) ce5 rfl ⟨rfl, rfl⟩ q751 q753 q41 q64 q754 hd_X4_lawOf ⟨Nat.le_of_ble_eq_true rfl, Nat.le_of_ble_eq_true rfl⟩ rfl hl.1 rfl (Nat.le_of_ble_eq_true rfl) dX4_byRate_29 (fun H locs hw => ?_)
    exact hfin _ _ _ _ _ _ hw (Option.some.inj hf) rfl (narI _) dX4_byRate_32
  · replace hf := if_f c6 hf
    refine lv_iload_n hx hb dX4_byRate_22 rfl (lv_at hl 0 rfl) ?_
    refine lv_goto (tgt := 32) hx hb dX4_byRate_23 (by decide) ?_
    exact hfin _ _ _ _ _ _ hw (Option.some.inj hf) rfl (narI _) dX4_byRate_32
/-- NineLandsModel.leastOf(I)I -/
theorem dX4_leastOf_0 : decode cX4_leastOf 0 = .ok (.aload_n 0, 1) := by decide +kernel
theorem dX4_leastOf_1 : decode cX4_leastOf 1 = .ok (.iload_n 1, 1) := by decide +kernel
theorem dX4_leastOf_2 : decode cX4_leastOf 2 = .ok (.aload_n 0, 1) := by decide +kernel
theorem dX4_leastOf_3 : decode cX4_leastOf 3 = .ok (.getfield 56, 3) := by decide +kernel
theorem dX4_leastOf_6 : decode cX4_leastOf 6 = .ok (.iload_n 1, 1) := by decide +kernel
theorem dX4_leastOf_7 : decode cX4_leastOf 7 = .ok (.iaload, 1) := by decide +kernel
theorem dX4_leastOf_8 : decode cX4_leastOf 8 = .ok (.invokevirtual 136, 3) := by decide +kernel
theorem dX4_leastOf_11 : decode cX4_leastOf 11 = .ok (.ifCond .eq 26, 3) := by decide +kernel
theorem dX4_leastOf_14 : decode cX4_leastOf 14 = .ok (.aload_n 0, 1) := by decide +kernel
theorem dX4_leastOf_15 : decode cX4_leastOf 15 = .ok (.iload_n 1, 1) := by decide +kernel
theorem dX4_leastOf_16 : decode cX4_leastOf 16 = .ok (.aload_n 0, 1) := by decide +kernel
theorem dX4_leastOf_17 : decode cX4_leastOf 17 = .ok (.getfield 59, 3) := by decide +kernel
theorem dX4_leastOf_20 : decode cX4_leastOf 20 = .ok (.iload_n 1, 1) := by decide +kernel
theorem dX4_leastOf_21 : decode cX4_leastOf 21 = .ok (.iaload, 1) := by decide +kernel
theorem dX4_leastOf_22 : decode cX4_leastOf 22 = .ok (.invokevirtual 140, 3) := by decide +kernel
theorem dX4_leastOf_25 : decode cX4_leastOf 25 = .ok (.aload_n 0, 1) := by decide +kernel
theorem dX4_leastOf_26 : decode cX4_leastOf 26 = .ok (.iload_n 1, 1) := by decide +kernel
theorem dX4_leastOf_27 : decode cX4_leastOf 27 = .ok (.iconst 3, 1) := by decide +kernel
theorem dX4_leastOf_28 : decode cX4_leastOf 28 = .ok (.invokevirtual 122, 3) := by decide +kernel
theorem dX4_leastOf_31 : decode cX4_leastOf 31 = .ok (.invokestatic 143, 3) := by decide +kernel
theorem dX4_leastOf_34 : decode cX4_leastOf 34 = .ok (.goto 4, 3) := by decide +kernel
theorem dX4_leastOf_37 : decode cX4_leastOf 37 = .ok (.iconst 0, 1) := by decide +kernel
theorem dX4_leastOf_38 : decode cX4_leastOf 38 = .ok (.ireturn, 1) := by decide +kernel
theorem hd_X4_leastOf : yX4_leastOf.cls ≠ "java/lang/invoke/MethodHandle" ∧ yX4_leastOf.cls ≠ "java/lang/invoke/VarHandle" ∧ (parseMethodDescriptor yX4_leastOf.desc).map (fun d => d.parameters.length) = some 1 := by decide +kernel
def f_X4_leastOf (a1 : Int32) (S : vS) : Option Int32 := if inb a1 6 = true then b1 (f_X4_isRight a1 (S 15 (a1.toNatClampNeg)) S) fun r3 => if r3 = 0 then some (0 : Int32) else b1 (f_X4_byRate a1 (S 16 (a1.toNatClampNeg)) S) fun r6 => b1 (f_X4_lawOf a1 (3 : Int32) S) fun r8 => b1 (f_X4_greater r6 r8 S) fun r10 => some r10 else none
set_option maxHeartbeats 4000000 in
set_option maxRecDepth 20000 in
theorem c_X4_leastOf (l : Launch) (D : va_G) (cI cO : ClassId) (ad : Nat → Nat) (a1 : Int32) (S : vS) (R9 : Int32) (hf : f_X4_leastOf a1 S = some R9) : CI l yX4_leastOf cX4_leastOf 2 .int ({ frames := 2, cells := 0, slots := 0, locals := 45 }) [.ref (ad 5), .int a1] D cI cO ad S R9 S := by
  refine CI.of (by decide +kernel) (Nat.le_of_ble_eq_true rfl) (fun p e s m args below meth c Q ls X hl hw hfin => ?_)
  have hl : lv_has ls 2 [(0, .ref (ad 5)), (1, .int a1)] := hl
  have hx := X.1
  have hb := X.2.1
  unfold f_X4_leastOf at hf
  refine lv_aload_n hx hb dX4_leastOf_0 rfl (lv_at hl 0 rfl) ?_
  refine lv_iload_n hx hb dX4_leastOf_1 rfl (lv_at hl 1 rfl) ?_
  refine lv_aload_n hx hb dX4_leastOf_2 rfl (lv_at hl 0 rfl) ?_
  refine x_get X hw 5 (Nat.le_of_ble_eq_true rfl) ce5 rfl i_X4 18 (by decide) q608 ⟨rfl, rfl, rfl⟩ rfl dX4_leastOf_3 ?_
  refine lv_iload_n hx hb dX4_leastOf_6 rfl (lv_at hl 1 rfl) ?_
  obtain ⟨h1, hf⟩ := if_s hf
  refine x_iald X hw 15 ⟨Nat.le_of_ble_eq_true rfl, Nat.le_of_ble_eq_true rfl⟩ rfl h1 (a1.toNatClampNeg) rfl dX4_leastOf_7 ?_
  obtain ⟨r3, h2, hf⟩ := b1_s hf
  refine kVi X hw (c_X4_isRight l D cI cO ad a1 (S 15 (a1.toNatClampNeg)) S r3 h2) (Nat.le_of_ble_eq_true rfl) ce5 rfl ⟨rfl, rfl⟩ q779 q781 q45 q64 q782 hd_X4_isRight ⟨Nat.le_of_ble_eq_true rfl, Nat.le_of_ble_eq_true rfl⟩ rfl hl.1 rfl (Nat.le_of_ble_eq_true rfl) dX4_leastOf_8 (fun H locs hw => ?_)
  refine lv_if_eq (tgt := 37) hx hb dX4_leastOf_11 (by decide) (fun c4 => ?_) (fun c4 => ?_)
  · replace hf := if_t c4 hf
    refine lv_iconst (v := 0) hx hb dX4_leastOf_37 (by decide) ?_
    exact hfin _ _ _ _ _ _ hw (Option.some.inj hf) rfl (narI _) dX4_leastOf_38
  · replace hf := if_f c4 hf
    refine lv_aload_n hx hb dX4_leastOf_14 rfl (lv_at hl 0 rfl) ?_
    refine lv_iload_n hx hb dX4_leastOf_15 rfl (lv_at hl 1 rfl) ?_
    refine lv_aload_n hx hb dX4_leastOf_16 rfl (lv_at hl 0 rfl) ?_
    refine x_get X hw 5 (Nat.le_of_ble_eq_true rfl) ce5 rfl i_X4 19 (by decide) q609 ⟨rfl, rfl, rfl⟩ rfl dX4_leastOf_17 ?_
    refine lv_iload_n hx hb dX4_leastOf_20 rfl (lv_at hl 1 rfl) ?_
    refine x_iald X hw 16 ⟨Nat.le_of_ble_eq_true rfl, Nat.le_of_ble_eq_true rfl⟩ rfl h1 (a1.toNatClampNeg) rfl dX4_leastOf_21 ?_
    obtain ⟨r6, h5, hf⟩ := b1_s hf
    refine kVi X hw (c_X4_byRate l D cI cO ad a1 (S 16 (a1.toNatClampNeg)) S r6 h5) (Nat.le_of_ble_eq_true rfl) ce5 rfl ⟨rfl, rfl⟩ q783 q785 q46 q64 q786 hd_X4_byRate ⟨Nat.le_of_ble_eq_true rfl, Nat.le_of_ble_eq_true rfl⟩ rfl hl.1 rfl (Nat.le_of_ble_eq_true rfl) dX4_leastOf_22 (fun H locs hw => ?_)
    refine lv_aload_n hx hb dX4_leastOf_25 rfl (lv_at hl 0 rfl) ?_
    refine lv_iload_n hx hb dX4_leastOf_26 rfl (lv_at hl 1 rfl) ?_
    refine lv_iconst (v := 3) hx hb dX4_leastOf_27 (by decide) ?_
    obtain ⟨r8, h7, hf⟩ := b1_s hf
    refine kVi X hw (c_X4_lawOf l D cI cO ad a1 (3 : Int32) S r8 h7) (Nat.le_of_ble_eq_true rfl) ce5 rfl ⟨rfl, rfl⟩ q751 q753 q41 q64 q754 hd_X4_lawOf ⟨Nat.le_of_ble_eq_true rfl, Nat.le_of_ble_eq_true rfl⟩ rfl hl.1 rfl (Nat.le_of_ble_eq_true rfl) dX4_leastOf_28 (fun H locs hw => ?_)
    obtain ⟨r10, h9, hf⟩ := b1_s hf
    refine kSi X hw (c_X4_greater l D cI cO ad r6 r8 S r10 h9) ⟨rfl, rfl⟩ q791 q792 q64 q793 hd_X4_greater ⟨Nat.le_of_ble_eq_true rfl, Nat.le_of_ble_eq_true rfl⟩ rfl hl.1 rfl (Nat.le_of_ble_eq_true rfl) dX4_leastOf_31 (fun H locs hw => ?_)
    refine lv_goto (tgt := 38) hx hb dX4_leastOf_34 (by decide) ?_
    exact hfin _ _ _ _ _ _ hw (Option.some.inj hf) rfl (narI _) dX4_leastOf_38
/-- NineLandsModel.putOf(I)I -/
theorem dX4_putOf_0 : decode cX4_putOf 0 = .ok (.aload_n 0, 1) := by decide +kernel
theorem dX4_putOf_1 : decode cX4_putOf 1 = .ok (.iload_n 1, 1) := by decide +kernel
theorem dX4_putOf_2 : decode cX4_putOf 2 = .ok (.aload_n 0, 1) := by decide +kernel
theorem dX4_putOf_3 : decode cX4_putOf 3 = .ok (.getfield 62, 3) := by decide +kernel
theorem dX4_putOf_6 : decode cX4_putOf 6 = .ok (.iload_n 1, 1) := by decide +kernel
theorem dX4_putOf_7 : decode cX4_putOf 7 = .ok (.iaload, 1) := by decide +kernel
theorem dX4_putOf_8 : decode cX4_putOf 8 = .ok (.invokevirtual 136, 3) := by decide +kernel
theorem dX4_putOf_11 : decode cX4_putOf 11 = .ok (.ifCond .ne 5, 3) := by decide +kernel
theorem dX4_putOf_14 : decode cX4_putOf 14 = .ok (.iconst 0, 1) := by decide +kernel
theorem dX4_putOf_15 : decode cX4_putOf 15 = .ok (.ireturn, 1) := by decide +kernel
theorem dX4_putOf_16 : decode cX4_putOf 16 = .ok (.aload_n 0, 1) := by decide +kernel
theorem dX4_putOf_17 : decode cX4_putOf 17 = .ok (.iload_n 1, 1) := by decide +kernel
theorem dX4_putOf_18 : decode cX4_putOf 18 = .ok (.aload_n 0, 1) := by decide +kernel
theorem dX4_putOf_19 : decode cX4_putOf 19 = .ok (.getfield 65, 3) := by decide +kernel
theorem dX4_putOf_22 : decode cX4_putOf 22 = .ok (.iload_n 1, 1) := by decide +kernel
theorem dX4_putOf_23 : decode cX4_putOf 23 = .ok (.iaload, 1) := by decide +kernel
theorem dX4_putOf_24 : decode cX4_putOf 24 = .ok (.invokevirtual 140, 3) := by decide +kernel
theorem dX4_putOf_27 : decode cX4_putOf 27 = .ok (.aload_n 0, 1) := by decide +kernel
theorem dX4_putOf_28 : decode cX4_putOf 28 = .ok (.iload_n 1, 1) := by decide +kernel
theorem dX4_putOf_29 : decode cX4_putOf 29 = .ok (.iconst 3, 1) := by decide +kernel
theorem dX4_putOf_30 : decode cX4_putOf 30 = .ok (.invokevirtual 122, 3) := by decide +kernel
theorem dX4_putOf_33 : decode cX4_putOf 33 = .ok (.invokestatic 143, 3) := by decide +kernel
theorem dX4_putOf_36 : decode cX4_putOf 36 = .ok (.aload_n 0, 1) := by decide +kernel
theorem dX4_putOf_37 : decode cX4_putOf 37 = .ok (.getfield 56, 3) := by decide +kernel
theorem dX4_putOf_40 : decode cX4_putOf 40 = .ok (.iload_n 1, 1) := by decide +kernel
theorem dX4_putOf_41 : decode cX4_putOf 41 = .ok (.iaload, 1) := by decide +kernel
theorem dX4_putOf_42 : decode cX4_putOf 42 = .ok (.imul, 1) := by decide +kernel
theorem dX4_putOf_43 : decode cX4_putOf 43 = .ok (.aload_n 0, 1) := by decide +kernel
theorem dX4_putOf_44 : decode cX4_putOf 44 = .ok (.getfield 62, 3) := by decide +kernel
theorem dX4_putOf_47 : decode cX4_putOf 47 = .ok (.iload_n 1, 1) := by decide +kernel
theorem dX4_putOf_48 : decode cX4_putOf 48 = .ok (.iaload, 1) := by decide +kernel
theorem dX4_putOf_49 : decode cX4_putOf 49 = .ok (.idiv, 1) := by decide +kernel
theorem dX4_putOf_50 : decode cX4_putOf 50 = .ok (.ireturn, 1) := by decide +kernel
theorem hd_X4_putOf : yX4_putOf.cls ≠ "java/lang/invoke/MethodHandle" ∧ yX4_putOf.cls ≠ "java/lang/invoke/VarHandle" ∧ (parseMethodDescriptor yX4_putOf.desc).map (fun d => d.parameters.length) = some 1 := by decide +kernel
def f_X4_putOf (a1 : Int32) (S : vS) : Option Int32 := if inb a1 6 = true then b1 (f_X4_isRight a1 (S 17 (a1.toNatClampNeg)) S) fun r3 => if r3 = 0 then some (0 : Int32) else b1 (f_X4_byRate a1 (S 18 (a1.toNatClampNeg)) S) fun r6 => b1 (f_X4_lawOf a1 (3 : Int32) S) fun r8 => b1 (f_X4_greater r6 r8 S) fun r10 => if ¬ (S 17 (a1.toNatClampNeg)) = 0 then some ((r10 * (S 15 (a1.toNatClampNeg))) / (S 17 (a1.toNatClampNeg))) else none else none
set_option maxHeartbeats 4000000 in
set_option maxRecDepth 20000 in
theorem c_X4_putOf (l : Launch) (D : va_G) (cI cO : ClassId) (ad : Nat → Nat) (a1 : Int32) (S : vS) (R9 : Int32) (hf : f_X4_putOf a1 S = some R9) : CI l yX4_putOf cX4_putOf 2 .int ({ frames := 2, cells := 0, slots := 0, locals := 45 }) [.ref (ad 5), .int a1] D cI cO ad S R9 S := by
  refine CI.of (by decide +kernel) (Nat.le_of_ble_eq_true rfl) (fun p e s m args below meth c Q ls X hl hw hfin => ?_)
  have hl : lv_has ls 2 [(0, .ref (ad 5)), (1, .int a1)] := hl
  have hx := X.1
  have hb := X.2.1
  unfold f_X4_putOf at hf
  refine lv_aload_n hx hb dX4_putOf_0 rfl (lv_at hl 0 rfl) ?_
  refine lv_iload_n hx hb dX4_putOf_1 rfl (lv_at hl 1 rfl) ?_
  refine lv_aload_n hx hb dX4_putOf_2 rfl (lv_at hl 0 rfl) ?_
  refine x_get X hw 5 (Nat.le_of_ble_eq_true rfl) ce5 rfl i_X4 20 (by decide) q610 ⟨rfl, rfl, rfl⟩ rfl dX4_putOf_3 ?_
  refine lv_iload_n hx hb dX4_putOf_6 rfl (lv_at hl 1 rfl) ?_
  obtain ⟨h1, hf⟩ := if_s hf
  refine x_iald X hw 17 ⟨Nat.le_of_ble_eq_true rfl, Nat.le_of_ble_eq_true rfl⟩ rfl h1 (a1.toNatClampNeg) rfl dX4_putOf_7 ?_
  obtain ⟨r3, h2, hf⟩ := b1_s hf
  refine kVi X hw (c_X4_isRight l D cI cO ad a1 (S 17 (a1.toNatClampNeg)) S r3 h2) (Nat.le_of_ble_eq_true rfl) ce5 rfl ⟨rfl, rfl⟩ q779 q781 q45 q64 q782 hd_X4_isRight ⟨Nat.le_of_ble_eq_true rfl, Nat.le_of_ble_eq_true rfl⟩ rfl hl.1 rfl (Nat.le_of_ble_eq_true rfl) dX4_putOf_8 (fun H locs hw => ?_)
  refine lv_if_ne (tgt := 16) hx hb dX4_putOf_11 (by decide) (fun c4 => ?_) (fun c4 => ?_)
  · replace hf := if_f c4 hf
    refine lv_aload_n hx hb dX4_putOf_16 rfl (lv_at hl 0 rfl) ?_
    refine lv_iload_n hx hb dX4_putOf_17 rfl (lv_at hl 1 rfl) ?_
    refine lv_aload_n hx hb dX4_putOf_18 rfl (lv_at hl 0 rfl) ?_
    refine x_get X hw 5 (Nat.le_of_ble_eq_true rfl) ce5 rfl i_X4 21 (by decide) q611 ⟨rfl, rfl, rfl⟩ rfl dX4_putOf_19 ?_
    refine lv_iload_n hx hb dX4_putOf_22 rfl (lv_at hl 1 rfl) ?_
    refine x_iald X hw 18 ⟨Nat.le_of_ble_eq_true rfl, Nat.le_of_ble_eq_true rfl⟩ rfl h1 (a1.toNatClampNeg) rfl dX4_putOf_23 ?_
    obtain ⟨r6, h5, hf⟩ := b1_s hf
    refine kVi X hw (c_X4_byRate l D cI cO ad a1 (S 18 (a1.toNatClampNeg)) S r6 h5) (Nat.le_of_ble_eq_true rfl) ce5 rfl ⟨rfl, rfl⟩ q783 q785 q46 q64 q786 hd_X4_byRate ⟨Nat.le_of_ble_eq_true rfl, Nat.le_of_ble_eq_true rfl⟩ rfl hl.1 rfl (Nat.le_of_ble_eq_true rfl) dX4_putOf_24 (fun H locs hw => ?_)
    refine lv_aload_n hx hb dX4_putOf_27 rfl (lv_at hl 0 rfl) ?_
    refine lv_iload_n hx hb dX4_putOf_28 rfl (lv_at hl 1 rfl) ?_
    refine lv_iconst (v := 3) hx hb dX4_putOf_29 (by decide) ?_
    obtain ⟨r8, h7, hf⟩ := b1_s hf
    refine kVi X hw (c_X4_lawOf l D cI cO ad a1 (3 : Int32) S r8 h7) (Nat.le_of_ble_eq_true rfl) ce5 rfl ⟨rfl, rfl⟩ q751 q753 q41 q64 q754 hd_X4_lawOf ⟨Nat.le_of_ble_eq_true rfl, Nat.le_of_ble_eq_true rfl⟩ rfl hl.1 rfl (Nat.le_of_ble_eq_true rfl) dX4_putOf_30 (fun H locs hw => ?_)
    obtain ⟨r10, h9, hf⟩ := b1_s hf
    refine kSi X hw (c_X4_greater l D cI cO ad r6 r8 S r10 h9) ⟨rfl, rfl⟩ q791 q792 q64 q793 hd_X4_greater ⟨Nat.le_of_ble_eq_true rfl, Nat.le_of_ble_eq_true rfl⟩ rfl hl.1 rfl (Nat.le_of_ble_eq_true rfl) dX4_putOf_33 (fun H locs hw => ?_)
    refine lv_aload_n hx hb dX4_putOf_36 rfl (lv_at hl 0 rfl) ?_
    refine x_get X hw 5 (Nat.le_of_ble_eq_true rfl) ce5 rfl i_X4 18 (by decide) q608 ⟨rfl, rfl, rfl⟩ rfl dX4_putOf_37 ?_
    refine lv_iload_n hx hb dX4_putOf_40 rfl (lv_at hl 1 rfl) ?_
    refine x_iald X hw 15 ⟨Nat.le_of_ble_eq_true rfl, Nat.le_of_ble_eq_true rfl⟩ rfl h1 (a1.toNatClampNeg) rfl dX4_putOf_41 ?_
    refine lv_imul hx hb dX4_putOf_42 ?_
    refine lv_aload_n hx hb dX4_putOf_43 rfl (lv_at hl 0 rfl) ?_
    refine x_get X hw 5 (Nat.le_of_ble_eq_true rfl) ce5 rfl i_X4 20 (by decide) q610 ⟨rfl, rfl, rfl⟩ rfl dX4_putOf_44 ?_
    refine lv_iload_n hx hb dX4_putOf_47 rfl (lv_at hl 1 rfl) ?_
    refine x_iald X hw 17 ⟨Nat.le_of_ble_eq_true rfl, Nat.le_of_ble_eq_true rfl⟩ rfl h1 (a1.toNatClampNeg) rfl dX4_putOf_48 ?_
    obtain ⟨h11, hf⟩ := if_s hf
    refine lv_idiv hx hb dX4_putOf_49 h11 ?_
    exact hfin _ _ _ _ _ _ hw (Option.some.inj hf) rfl (narI _) dX4_putOf_50
  · replace hf := if_t c4 hf
    refine lv_iconst (v := 0) hx hb dX4_putOf_14 (by decide) ?_
    exact hfin _ _ _ _ _ _ hw (Option.some.inj hf) rfl (narI _) dX4_putOf_15
/-- NineLandsModel.says(III)I -/
theorem dX4_says_0 : decode cX4_says 0 = .ok (.aload_n 0, 1) := by decide +kernel
theorem dX4_says_1 : decode cX4_says 1 = .ok (.iload_n 1, 1) := by decide +kernel
theorem dX4_says_2 : decode cX4_says 2 = .ok (.iconst 5, 1) := by decide +kernel
theorem dX4_says_3 : decode cX4_says 3 = .ok (.invokevirtual 122, 3) := by decide +kernel
theorem dX4_says_6 : decode cX4_says 6 = .ok (.iload_n 3, 1) := by decide +kernel
theorem dX4_says_7 : decode cX4_says 7 = .ok (.imul, 1) := by decide +kernel
theorem dX4_says_8 : decode cX4_says 8 = .ok (.bipush 100, 2) := by decide +kernel
theorem dX4_says_10 : decode cX4_says 10 = .ok (.idiv, 1) := by decide +kernel
theorem dX4_says_11 : decode cX4_says 11 = .ok (.istore 4, 2) := by decide +kernel
theorem dX4_says_13 : decode cX4_says 13 = .ok (.iload_n 2, 1) := by decide +kernel
theorem dX4_says_14 : decode cX4_says 14 = .ok (.tableswitch 103 0 4 #[34, 64, 70, 76, 90], 34) := by decide +kernel
theorem dX4_says_48 : decode cX4_says 48 = .ok (.aload_n 0, 1) := by decide +kernel
theorem dX4_says_49 : decode cX4_says 49 = .ok (.iload_n 1, 1) := by decide +kernel
theorem dX4_says_50 : decode cX4_says 50 = .ok (.aload_n 0, 1) := by decide +kernel
theorem dX4_says_51 : decode cX4_says 51 = .ok (.getfield 56, 3) := by decide +kernel
theorem dX4_says_54 : decode cX4_says 54 = .ok (.iload_n 1, 1) := by decide +kernel
theorem dX4_says_55 : decode cX4_says 55 = .ok (.iaload, 1) := by decide +kernel
theorem dX4_says_56 : decode cX4_says 56 = .ok (.invokevirtual 136, 3) := by decide +kernel
theorem dX4_says_59 : decode cX4_says 59 = .ok (.ifCond .eq 17, 3) := by decide +kernel
theorem dX4_says_62 : decode cX4_says 62 = .ok (.aload_n 0, 1) := by decide +kernel
theorem dX4_says_63 : decode cX4_says 63 = .ok (.iload_n 1, 1) := by decide +kernel
theorem dX4_says_64 : decode cX4_says 64 = .ok (.aload_n 0, 1) := by decide +kernel
theorem dX4_says_65 : decode cX4_says 65 = .ok (.getfield 59, 3) := by decide +kernel
theorem dX4_says_68 : decode cX4_says 68 = .ok (.iload_n 1, 1) := by decide +kernel
theorem dX4_says_69 : decode cX4_says 69 = .ok (.iaload, 1) := by decide +kernel
theorem dX4_says_70 : decode cX4_says 70 = .ok (.invokevirtual 140, 3) := by decide +kernel
theorem dX4_says_73 : decode cX4_says 73 = .ok (.goto 4, 3) := by decide +kernel
theorem dX4_says_76 : decode cX4_says 76 = .ok (.iconst 0, 1) := by decide +kernel
theorem dX4_says_77 : decode cX4_says 77 = .ok (.ireturn, 1) := by decide +kernel
theorem dX4_says_78 : decode cX4_says 78 = .ok (.aload_n 0, 1) := by decide +kernel
theorem dX4_says_79 : decode cX4_says 79 = .ok (.iload_n 1, 1) := by decide +kernel
theorem dX4_says_80 : decode cX4_says 80 = .ok (.invokevirtual 146, 3) := by decide +kernel
theorem dX4_says_83 : decode cX4_says 83 = .ok (.ireturn, 1) := by decide +kernel
theorem dX4_says_84 : decode cX4_says 84 = .ok (.aload_n 0, 1) := by decide +kernel
theorem dX4_says_85 : decode cX4_says 85 = .ok (.iload_n 1, 1) := by decide +kernel
theorem dX4_says_86 : decode cX4_says 86 = .ok (.invokevirtual 149, 3) := by decide +kernel
theorem dX4_says_89 : decode cX4_says 89 = .ok (.ireturn, 1) := by decide +kernel
theorem dX4_says_90 : decode cX4_says 90 = .ok (.aload_n 0, 1) := by decide +kernel
theorem dX4_says_91 : decode cX4_says 91 = .ok (.iload_n 1, 1) := by decide +kernel
theorem dX4_says_92 : decode cX4_says 92 = .ok (.invokevirtual 149, 3) := by decide +kernel
theorem dX4_says_95 : decode cX4_says 95 = .ok (.aload_n 0, 1) := by decide +kernel
theorem dX4_says_96 : decode cX4_says 96 = .ok (.iload_n 1, 1) := by decide +kernel
theorem dX4_says_97 : decode cX4_says 97 = .ok (.invokevirtual 146, 3) := by decide +kernel
theorem dX4_says_100 : decode cX4_says 100 = .ok (.invokestatic 143, 3) := by decide +kernel
theorem dX4_says_103 : decode cX4_says 103 = .ok (.ireturn, 1) := by decide +kernel
theorem dX4_says_104 : decode cX4_says 104 = .ok (.aload_n 0, 1) := by decide +kernel
theorem dX4_says_105 : decode cX4_says 105 = .ok (.iload_n 1, 1) := by decide +kernel
theorem dX4_says_106 : decode cX4_says 106 = .ok (.invokevirtual 146, 3) := by decide +kernel
theorem dX4_says_109 : decode cX4_says 109 = .ok (.iload 4, 2) := by decide +kernel
theorem dX4_says_111 : decode cX4_says 111 = .ok (.isub, 1) := by decide +kernel
theorem dX4_says_112 : decode cX4_says 112 = .ok (.iconst 0, 1) := by decide +kernel
theorem dX4_says_113 : decode cX4_says 113 = .ok (.invokestatic 143, 3) := by decide +kernel
theorem dX4_says_116 : decode cX4_says 116 = .ok (.ireturn, 1) := by decide +kernel
theorem dX4_says_117 : decode cX4_says 117 = .ok (.aload_n 0, 1) := by decide +kernel
theorem dX4_says_118 : decode cX4_says 118 = .ok (.iload_n 1, 1) := by decide +kernel
theorem dX4_says_119 : decode cX4_says 119 = .ok (.invokevirtual 149, 3) := by decide +kernel
theorem dX4_says_122 : decode cX4_says 122 = .ok (.aload_n 0, 1) := by decide +kernel
theorem dX4_says_123 : decode cX4_says 123 = .ok (.iload_n 1, 1) := by decide +kernel
theorem dX4_says_124 : decode cX4_says 124 = .ok (.invokevirtual 146, 3) := by decide +kernel
theorem dX4_says_127 : decode cX4_says 127 = .ok (.invokestatic 143, 3) := by decide +kernel
theorem dX4_says_130 : decode cX4_says 130 = .ok (.iload 4, 2) := by decide +kernel
theorem dX4_says_132 : decode cX4_says 132 = .ok (.isub, 1) := by decide +kernel
theorem dX4_says_133 : decode cX4_says 133 = .ok (.iconst 0, 1) := by decide +kernel
theorem dX4_says_134 : decode cX4_says 134 = .ok (.invokestatic 143, 3) := by decide +kernel
theorem dX4_says_137 : decode cX4_says 137 = .ok (.ireturn, 1) := by decide +kernel
theorem hd_X4_says : yX4_says.cls ≠ "java/lang/invoke/MethodHandle" ∧ yX4_says.cls ≠ "java/lang/invoke/VarHandle" ∧ (parseMethodDescriptor yX4_says.desc).map (fun d => d.parameters.length) = some 3 := by decide +kernel
def f_X4_says (a1 : Int32) (a2 : Int32) (a3 : Int32) (S : vS) : Option Int32 := b1 (f_X4_lawOf a1 (5 : Int32) S) fun r2 => lt (((r2 * a3) / (100 : Int32))) fun v3 => if a2 = (0 : Int32) then if inb a1 6 = true then b1 (f_X4_isRight a1 (S 15 (a1.toNatClampNeg)) S) fun r7 => if r7 = 0 then some (0 : Int32) else b1 (f_X4_byRate a1 (S 16 (a1.toNatClampNeg)) S) fun r10 => some r10 else none else if a2 = (1 : Int32) then b1 (f_X4_leastOf a1 S) fun r13 => some r13 else if a2 = (2 : Int32) then b1 (f_X4_putOf a1 S) fun r16 => some r16 else if a2 = (3 : Int32) then b1 (f_X4_putOf a1 S) fun r19 => b1 (f_X4_leastOf a1 S) fun r21 => b1 (f_X4_greater r19 r21 S) fun r23 => some r23 else if a2 = (4 : Int32) then b1 (f_X4_leastOf a1 S) fun r26 => b1 (f_X4_greater (r26 - v3) (0 : Int32) S) fun r28 => some r28 else b1 (f_X4_putOf a1 S) fun r30 => b1 (f_X4_leastOf a1 S) fun r32 => b1 (f_X4_greater r30 r32 S) fun r34 => b1 (f_X4_greater (r34 - v3) (0 : Int32) S) fun r36 => some r36
set_option maxHeartbeats 4000000 in
set_option maxRecDepth 20000 in
theorem c_X4_says (l : Launch) (D : va_G) (cI cO : ClassId) (ad : Nat → Nat) (a1 : Int32) (a2 : Int32) (a3 : Int32) (S : vS) (R9 : Int32) (hf : f_X4_says a1 a2 a3 S = some R9) : CI l yX4_says cX4_says 5 .int ({ frames := 3, cells := 0, slots := 0, locals := 66 }) [.ref (ad 5), .int a1, .int a2, .int a3] D cI cO ad S R9 S := by
  refine CI.of (by decide +kernel) (Nat.le_of_ble_eq_true rfl) (fun p e s m args below meth c Q ls X hl hw hfin => ?_)
  have hl : lv_has ls 5 [(0, .ref (ad 5)), (1, .int a1), (2, .int a2), (3, .int a3)] := hl
  have hx := X.1
  have hb := X.2.1
  unfold f_X4_says at hf
  refine lv_aload_n hx hb dX4_says_0 rfl (lv_at hl 0 rfl) ?_
  refine lv_iload_n hx hb dX4_says_1 rfl (lv_at hl 1 rfl) ?_
  refine lv_iconst (v := 5) hx hb dX4_says_2 (by decide) ?_
  obtain ⟨r2, h1, hf⟩ := b1_s hf
  refine kVi X hw (c_X4_lawOf l D cI cO ad a1 (5 : Int32) S r2 h1) (Nat.le_of_ble_eq_true rfl) ce5 rfl ⟨rfl, rfl⟩ q751 q753 q41 q64 q754 hd_X4_lawOf ⟨Nat.le_of_ble_eq_true rfl, Nat.le_of_ble_eq_true rfl⟩ rfl hl.1 rfl (Nat.le_of_ble_eq_true rfl) dX4_says_3 (fun H locs hw => ?_)
  refine lv_iload_n hx hb dX4_says_6 rfl (lv_at hl 3 rfl) ?_
  refine lv_imul hx hb dX4_says_7 ?_
  refine lv_bipush (v := 100) hx hb dX4_says_8 (by decide +kernel) ?_
  refine lv_idiv hx hb dX4_says_10 (by decide) ?_
  refine lv_topi (fun v3 ev3 => ?_)
  replace hf := lt_e ev3 hf
  refine lv_istore (lv' := [(4, .int v3), (0, .ref (ad 5)), (1, .int a1), (2, .int a2), (3, .int a3)]) hx hb dX4_says_11 hl (by decide) rfl (fun ls hl => ?_)
  refine lv_iload_n hx hb dX4_says_13 rfl (lv_at hl 3 rfl) ?_
  by_cases c4 : a2 = (0 : Int32)
  · replace hf := if_t c4 hf
    refine lv_tableIn (off := 34) (tgt := 48) hx hb dX4_says_14 (by rw [c4]; decide) (by rw [c4]; decide) (by rw [c4]; rfl) (by decide) ?_
    refine lv_aload_n hx hb dX4_says_48 rfl (lv_at hl 1 rfl) ?_
    refine lv_iload_n hx hb dX4_says_49 rfl (lv_at hl 2 rfl) ?_
    refine lv_aload_n hx hb dX4_says_50 rfl (lv_at hl 1 rfl) ?_
    refine x_get X hw 5 (Nat.le_of_ble_eq_true rfl) ce5 rfl i_X4 18 (by decide) q608 ⟨rfl, rfl, rfl⟩ rfl dX4_says_51 ?_
    refine lv_iload_n hx hb dX4_says_54 rfl (lv_at hl 2 rfl) ?_
    obtain ⟨h5, hf⟩ := if_s hf
    refine x_iald X hw 15 ⟨Nat.le_of_ble_eq_true rfl, Nat.le_of_ble_eq_true rfl⟩ rfl h5 (a1.toNatClampNeg) rfl dX4_says_55 ?_
    obtain ⟨r7, h6, hf⟩ := b1_s hf
    refine kVi X hw (c_X4_isRight l D cI cO ad a1 (S 15 (a1.toNatClampNeg)) S r7 h6) (Nat.le_of_ble_eq_true rfl) ce5 rfl ⟨rfl, rfl⟩ q779 q781 q45 q64 q782 hd_X4_isRight ⟨Nat.le_of_ble_eq_true rfl, Nat.le_of_ble_eq_true rfl⟩ rfl hl.1 rfl (Nat.le_of_ble_eq_true rfl) dX4_says_56 (fun H locs hw => ?_)
    refine lv_if_eq (tgt := 76) hx hb dX4_says_59 (by decide) (fun c8 => ?_) (fun c8 => ?_)
    · replace hf := if_t c8 hf
      refine lv_iconst (v := 0) hx hb dX4_says_76 (by decide) ?_
      exact hfin _ _ _ _ _ _ hw (Option.some.inj hf) rfl (narI _) dX4_says_77
    · replace hf := if_f c8 hf
      refine lv_aload_n hx hb dX4_says_62 rfl (lv_at hl 1 rfl) ?_
      refine lv_iload_n hx hb dX4_says_63 rfl (lv_at hl 2 rfl) ?_
      refine lv_aload_n hx hb dX4_says_64 rfl (lv_at hl 1 rfl) ?_
      refine x_get X hw 5 (Nat.le_of_ble_eq_true rfl) ce5 rfl i_X4 19 (by decide) q609 ⟨rfl, rfl, rfl⟩ rfl dX4_says_65 ?_
      refine lv_iload_n hx hb dX4_says_68 rfl (lv_at hl 2 rfl) ?_
      refine x_iald X hw 16 ⟨Nat.le_of_ble_eq_true rfl, Nat.le_of_ble_eq_true rfl⟩ rfl h5 (a1.toNatClampNeg) rfl dX4_says_69 ?_
      obtain ⟨r10, h9, hf⟩ := b1_s hf
      refine kVi X hw (c_X4_byRate l D cI cO ad a1 (S 16 (a1.toNatClampNeg)) S r10 h9) (Nat.le_of_ble_eq_true rfl) ce5 rfl ⟨rfl, rfl⟩ q783 q785 q46 q64 q786 hd_X4_byRate ⟨Nat.le_of_ble_eq_true rfl, Nat.le_of_ble_eq_true rfl⟩ rfl hl.1 rfl (Nat.le_of_ble_eq_true rfl) dX4_says_70 (fun H locs hw => ?_)
      refine lv_goto (tgt := 77) hx hb dX4_says_73 (by decide) ?_
      exact hfin _ _ _ _ _ _ hw (Option.some.inj hf) rfl (narI _) dX4_says_77
  · replace hf := if_f c4 hf
    by_cases c11 : a2 = (1 : Int32)
    · replace hf := if_t c11 hf
      refine lv_tableIn (off := 64) (tgt := 78) hx hb dX4_says_14 (by rw [c11]; decide) (by rw [c11]; decide) (by rw [c11]; rfl) (by decide) ?_
      refine lv_aload_n hx hb dX4_says_78 rfl (lv_at hl 1 rfl) ?_
      refine lv_iload_n hx hb dX4_says_79 rfl (lv_at hl 2 rfl) ?_
      obtain ⟨r13, h12, hf⟩ := b1_s hf
      refine kVi X hw (c_X4_leastOf l D cI cO ad a1 S r13 h12) (Nat.le_of_ble_eq_true rfl) ce5 rfl ⟨rfl, rfl⟩ q787 q789 q47 q64 q790 hd_X4_leastOf ⟨Nat.le_of_ble_eq_true rfl, Nat.le_of_ble_eq_true rfl⟩ rfl hl.1 rfl (Nat.le_of_ble_eq_true rfl) dX4_says_80 (fun H locs hw => ?_)
      exact hfin _ _ _ _ _ _ hw (Option.some.inj hf) rfl (narI _) dX4_says_83
    · replace hf := if_f c11 hf
      by_cases c14 : a2 = (2 : Int32)
      · replace hf := if_t c14 hf
        refine lv_tableIn (off := 70) (tgt := 84) hx hb dX4_says_14 (by rw [c14]; decide) (by rw [c14]; decide) (by rw [c14]; rfl) (by decide) ?_
        refine lv_aload_n hx hb dX4_says_84 rfl (lv_at hl 1 rfl) ?_
        refine lv_iload_n hx hb dX4_says_85 rfl (lv_at hl 2 rfl) ?_
        obtain ⟨r16, h15, hf⟩ := b1_s hf
        refine kVi X hw (c_X4_putOf l D cI cO ad a1 S r16 h15) (Nat.le_of_ble_eq_true rfl) ce5 rfl ⟨rfl, rfl⟩ q794 q796 q48 q64 q797 hd_X4_putOf ⟨Nat.le_of_ble_eq_true rfl, Nat.le_of_ble_eq_true rfl⟩ rfl hl.1 rfl (Nat.le_of_ble_eq_true rfl) dX4_says_86 (fun H locs hw => ?_)
        exact hfin _ _ _ _ _ _ hw (Option.some.inj hf) rfl (narI _) dX4_says_89
      · replace hf := if_f c14 hf
        by_cases c17 : a2 = (3 : Int32)
        · replace hf := if_t c17 hf
          refine lv_tableIn (off := 76) (tgt := 90) hx hb dX4_says_14 (by rw [c17]; decide) (by rw [c17]; decide) (by rw [c17]; rfl) (by decide) ?_
          refine lv_aload_n hx hb dX4_says_90 rfl (lv_at hl 1 rfl) ?_
          refine lv_iload_n hx hb dX4_says_91 rfl (lv_at hl 2 rfl) ?_
          obtain ⟨r19, h18, hf⟩ := b1_s hf
          refine kVi X hw (c_X4_putOf l D cI cO ad a1 S r19 h18) (Nat.le_of_ble_eq_true rfl) ce5 rfl ⟨rfl, rfl⟩ q794 q796 q48 q64 q797 hd_X4_putOf ⟨Nat.le_of_ble_eq_true rfl, Nat.le_of_ble_eq_true rfl⟩ rfl hl.1 rfl (Nat.le_of_ble_eq_true rfl) dX4_says_92 (fun H locs hw => ?_)
          refine lv_aload_n hx hb dX4_says_95 rfl (lv_at hl 1 rfl) ?_
          refine lv_iload_n hx hb dX4_says_96 rfl (lv_at hl 2 rfl) ?_
          obtain ⟨r21, h20, hf⟩ := b1_s hf
          refine kVi X hw (c_X4_leastOf l D cI cO ad a1 S r21 h20) (Nat.le_of_ble_eq_true rfl) ce5 rfl ⟨rfl, rfl⟩ q787 q789 q47 q64 q790 hd_X4_leastOf ⟨Nat.le_of_ble_eq_true rfl, Nat.le_of_ble_eq_true rfl⟩ rfl hl.1 rfl (Nat.le_of_ble_eq_true rfl) dX4_says_97 (fun H locs hw => ?_)
          obtain ⟨r23, h22, hf⟩ := b1_s hf
          refine kSi X hw (c_X4_greater l D cI cO ad r19 r21 S r23 h22) ⟨rfl, rfl⟩ q791 q792 q64 q793 hd_X4_greater ⟨Nat.le_of_ble_eq_true rfl, Nat.le_of_ble_eq_true rfl⟩ rfl hl.1 rfl (Nat.le_of_ble_eq_true rfl) dX4_says_100 (fun H locs hw => ?_)
          exact hfin _ _ _ _ _ _ hw (Option.some.inj hf) rfl (narI _) dX4_says_103
        · replace hf := if_f c17 hf
          by_cases c24 : a2 = (4 : Int32)
          · replace hf := if_t c24 hf
            refine lv_tableIn (off := 90) (tgt := 104) hx hb dX4_says_14 (by rw [c24]; decide) (by rw [c24]; decide) (by rw [c24]; rfl) (by decide) ?_
            refine lv_aload_n hx hb dX4_says_104 rfl (lv_at hl 1 rfl) ?_
            refine lv_iload_n hx hb dX4_says_105 rfl (lv_at hl 2 rfl) ?_
            obtain ⟨r26, h25, hf⟩ := b1_s hf
            refine kVi X hw (c_X4_leastOf l D cI cO ad a1 S r26 h25) (Nat.le_of_ble_eq_true rfl) ce5 rfl ⟨rfl, rfl⟩ q787 q789 q47 q64 q790 hd_X4_leastOf ⟨Nat.le_of_ble_eq_true rfl, Nat.le_of_ble_eq_true rfl⟩ rfl hl.1 rfl (Nat.le_of_ble_eq_true rfl) dX4_says_106 (fun H locs hw => ?_)
            refine lv_iload hx hb dX4_says_109 (lv_at hl 0 rfl) ?_
            refine lv_isub hx hb dX4_says_111 ?_
            refine lv_iconst (v := 0) hx hb dX4_says_112 (by decide) ?_
            obtain ⟨r28, h27, hf⟩ := b1_s hf
            refine kSi X hw (c_X4_greater l D cI cO ad (r26 - v3) (0 : Int32) S r28 h27) ⟨rfl, rfl⟩ q791 q792 q64 q793 hd_X4_greater ⟨Nat.le_of_ble_eq_true rfl, Nat.le_of_ble_eq_true rfl⟩ rfl hl.1 rfl (Nat.le_of_ble_eq_true rfl) dX4_says_113 (fun H locs hw => ?_)
            exact hfin _ _ _ _ _ _ hw (Option.some.inj hf) rfl (narI _) dX4_says_116
          · replace hf := if_f c24 hf
            have nc4 : ¬ (a2).toInt = 0 := lv_neT c4 (by decide)
            have nc11 : ¬ (a2).toInt = 1 := lv_neT c11 (by decide)
            have nc14 : ¬ (a2).toInt = 2 := lv_neT c14 (by decide)
            have nc17 : ¬ (a2).toInt = 3 := lv_neT c17 (by decide)
            have nc24 : ¬ (a2).toInt = 4 := lv_neT c24 (by decide)
            refine lv_tableOut (tgt := 117) hx hb dX4_says_14 (by omega) (by decide) ?_
            refine lv_aload_n hx hb dX4_says_117 rfl (lv_at hl 1 rfl) ?_
            refine lv_iload_n hx hb dX4_says_118 rfl (lv_at hl 2 rfl) ?_
            obtain ⟨r30, h29, hf⟩ := b1_s hf
            refine kVi X hw (c_X4_putOf l D cI cO ad a1 S r30 h29) (Nat.le_of_ble_eq_true rfl) ce5 rfl ⟨rfl, rfl⟩ q794 q796 q48 q64 q797 hd_X4_putOf ⟨Nat.le_of_ble_eq_true rfl, Nat.le_of_ble_eq_true rfl⟩ rfl hl.1 rfl (Nat.le_of_ble_eq_true rfl) dX4_says_119 (fun H locs hw => ?_)
            refine lv_aload_n hx hb dX4_says_122 rfl (lv_at hl 1 rfl) ?_
            refine lv_iload_n hx hb dX4_says_123 rfl (lv_at hl 2 rfl) ?_
            obtain ⟨r32, h31, hf⟩ := b1_s hf
            refine kVi X hw (c_X4_leastOf l D cI cO ad a1 S r32 h31) (Nat.le_of_ble_eq_true rfl) ce5 rfl ⟨rfl, rfl⟩ q787 q789 q47 q64 q790 hd_X4_leastOf ⟨Nat.le_of_ble_eq_true rfl, Nat.le_of_ble_eq_true rfl⟩ rfl hl.1 rfl (Nat.le_of_ble_eq_true rfl) dX4_says_124 (fun H locs hw => ?_)
            obtain ⟨r34, h33, hf⟩ := b1_s hf
            refine kSi X hw (c_X4_greater l D cI cO ad r30 r32 S r34 h33) ⟨rfl, rfl⟩ q791 q792 q64 q793 hd_X4_greater ⟨Nat.le_of_ble_eq_true rfl, Nat.le_of_ble_eq_true rfl⟩ rfl hl.1 rfl (Nat.le_of_ble_eq_true rfl) dX4_says_127 (fun H locs hw => ?_)
            refine lv_iload hx hb dX4_says_130 (lv_at hl 0 rfl) ?_
            refine lv_isub hx hb dX4_says_132 ?_
            refine lv_iconst (v := 0) hx hb dX4_says_133 (by decide) ?_
            obtain ⟨r36, h35, hf⟩ := b1_s hf
            refine kSi X hw (c_X4_greater l D cI cO ad (r34 - v3) (0 : Int32) S r36 h35) ⟨rfl, rfl⟩ q791 q792 q64 q793 hd_X4_greater ⟨Nat.le_of_ble_eq_true rfl, Nat.le_of_ble_eq_true rfl⟩ rfl hl.1 rfl (Nat.le_of_ble_eq_true rfl) dX4_says_134 (fun H locs hw => ?_)
            exact hfin _ _ _ _ _ _ hw (Option.some.inj hf) rfl (narI _) dX4_says_137
/-- NineLandsModel.sumOf([I)I -/
theorem dX4_sumOf_0 : decode cX4_sumOf 0 = .ok (.iconst 0, 1) := by decide +kernel
theorem dX4_sumOf_1 : decode cX4_sumOf 1 = .ok (.istore_n 2, 1) := by decide +kernel
theorem dX4_sumOf_2 : decode cX4_sumOf 2 = .ok (.iconst 0, 1) := by decide +kernel
theorem dX4_sumOf_3 : decode cX4_sumOf 3 = .ok (.istore_n 3, 1) := by decide +kernel
theorem dX4_sumOf_4 : decode cX4_sumOf 4 = .ok (.iload_n 3, 1) := by decide +kernel
theorem dX4_sumOf_5 : decode cX4_sumOf 5 = .ok (.bipush 6, 2) := by decide +kernel
theorem dX4_sumOf_7 : decode cX4_sumOf 7 = .ok (.if_icmp .ge 15, 3) := by decide +kernel
theorem dX4_sumOf_10 : decode cX4_sumOf 10 = .ok (.iload_n 2, 1) := by decide +kernel
theorem dX4_sumOf_11 : decode cX4_sumOf 11 = .ok (.aload_n 1, 1) := by decide +kernel
theorem dX4_sumOf_12 : decode cX4_sumOf 12 = .ok (.iload_n 3, 1) := by decide +kernel
theorem dX4_sumOf_13 : decode cX4_sumOf 13 = .ok (.iaload, 1) := by decide +kernel
theorem dX4_sumOf_14 : decode cX4_sumOf 14 = .ok (.iadd, 1) := by decide +kernel
theorem dX4_sumOf_15 : decode cX4_sumOf 15 = .ok (.istore_n 2, 1) := by decide +kernel
theorem dX4_sumOf_16 : decode cX4_sumOf 16 = .ok (.iinc 3 1, 3) := by decide +kernel
theorem dX4_sumOf_19 : decode cX4_sumOf 19 = .ok (.goto (-15), 3) := by decide +kernel
theorem dX4_sumOf_22 : decode cX4_sumOf 22 = .ok (.iload_n 2, 1) := by decide +kernel
theorem dX4_sumOf_23 : decode cX4_sumOf 23 = .ok (.ireturn, 1) := by decide +kernel
theorem hd_X4_sumOf : yX4_sumOf.cls ≠ "java/lang/invoke/MethodHandle" ∧ yX4_sumOf.cls ≠ "java/lang/invoke/VarHandle" ∧ (parseMethodDescriptor yX4_sumOf.desc).map (fun d => d.parameters.length) = some 1 := by decide +kernel
def f_X4_sumOf_L4 (S : vS) : Nat → Nat → Int32 → Int32 →  Option Int32
  | 0, _, _, _ => none
  | n + 1, x1, x2, x3 => if (6 : Int32) ≤ x3 then some x2 else if 1 ≤ x1 ∧ x1 ≤ 97 then if inb x3 (alen x1) = true then lt ((x2 + (S x1 (x3.toNatClampNeg)))) fun v4 => (f_X4_sumOf_L4 S n) x1 v4 (x3 + 1) else none else none
def f_X4_sumOf (a1 : Nat) (S : vS) : Option Int32 := b1 (f_X4_sumOf_L4 S FU a1 (0 : Int32) (0 : Int32)) fun y5 => some y5
set_option maxHeartbeats 4000000 in
set_option maxRecDepth 20000 in
theorem c_X4_sumOf (l : Launch) (D : va_G) (cI cO : ClassId) (ad : Nat → Nat) (a1 : Nat) (S : vS) (R9 : Int32) (hf : f_X4_sumOf a1 S = some R9) : CI l yX4_sumOf cX4_sumOf 4 .int ({ frames := 0, cells := 0, slots := 0, locals := 0 }) [.ref (ad 5), .ref (ar ad a1)] D cI cO ad S R9 S := by
  refine CI.of (by decide +kernel) (Nat.le_of_ble_eq_true rfl) (fun p e s m args below meth c Q ls X hl hw hfin => ?_)
  have hl : lv_has ls 4 [(0, .ref (ad 5)), (1, .ref (ar ad a1))] := hl
  have hx := X.1
  have hb := X.2.1
  have L4 : ∀ (n : Nat) (x1 : Nat) (x2 : Int32) (x3 : Int32) (res : Int32), f_X4_sumOf_L4 S n x1 x2 x3 = some res → (K : ∀ (y2 : Int32), some y2 = some res → ∀ (H : Heap) (locs : List Loc) (ls : Array Slot), WD D cI cO ad s S H locs → lv_has ls 4 [(2, .int y2)] → W p l e ({ frames := 0, cells := 0, slots := 0, locals := 0 }) s m args below meth c H locs 0 0 Q (F0 m 22 ls [])) → ∀ (H : Heap) (locs : List Loc) (ls : Array Slot), WD D cI cO ad s S H locs → lv_has ls 4 [(1, .ref (ar ad x1)), (2, .int x2), (3, .int x3)] → W p l e ({ frames := 0, cells := 0, slots := 0, locals := 0 }) s m args below meth c H locs 0 0 Q (F0 m 4 ls []) := by
    intro n
    induction n with
    | zero => intro x1 x2 x3 res hf; cases hf
    | succ n ih =>
      intro x1 x2 x3 res hf K H locs ls hw hl
      unfold f_X4_sumOf_L4 at hf
      refine lv_iload_n hx hb dX4_sumOf_4 rfl (lv_at hl 2 rfl) ?_
      refine lv_bipush (v := 6) hx hb dX4_sumOf_5 (by decide +kernel) ?_
      refine lv_icmp_ge (tgt := 22) hx hb dX4_sumOf_7 (by decide) (fun c1 => ?_) (fun c1 => ?_)
      · replace hf := if_t c1 hf
        exact K x2 hf _ _ _ hw (lv_sub hl [1] rfl)
      · replace hf := if_f c1 hf
        refine lv_iload_n hx hb dX4_sumOf_10 rfl (lv_at hl 1 rfl) ?_
        refine lv_aload_n hx hb dX4_sumOf_11 rfl (lv_at hl 0 rfl) ?_
        refine lv_iload_n hx hb dX4_sumOf_12 rfl (lv_at hl 2 rfl) ?_
        obtain ⟨h2, hf⟩ := if_s hf
        obtain ⟨h3, hf⟩ := if_s hf
        refine x_iald X hw x1 h2 rfl h3 (x3.toNatClampNeg) rfl dX4_sumOf_13 ?_
        refine lv_iadd hx hb dX4_sumOf_14 ?_
        refine lv_topi (fun v4 ev4 => ?_)
        replace hf := lt_e ev4 hf
        refine lv_istore_n (lv' := [(2, .int v4), (1, .ref (ar ad x1)), (3, .int x3)]) hx hb dX4_sumOf_15 rfl hl (by decide) rfl (fun ls hl => ?_)
        refine lv_iinc (v := (x3 + 1)) (lv' := [(3, .int (x3 + 1)), (2, .int v4), (1, .ref (ar ad x1))]) hx hb dX4_sumOf_16 hl (k := 2) rfl rfl (by decide) rfl (fun ls hl => ?_)
        refine lv_goto (tgt := 4) hx hb dX4_sumOf_19 (by decide) ?_
        exact ih x1 v4 (x3 + 1) _ hf K _ _ _ hw (lv_sub hl [2, 1, 0] rfl)
  unfold f_X4_sumOf at hf
  refine lv_iconst (v := 0) hx hb dX4_sumOf_0 (by decide) ?_
  refine lv_istore_n (lv' := [(2, .int (0 : Int32)), (0, .ref (ad 5)), (1, .ref (ar ad a1))]) hx hb dX4_sumOf_1 rfl hl (by decide) rfl (fun ls hl => ?_)
  refine lv_iconst (v := 0) hx hb dX4_sumOf_2 (by decide) ?_
  refine lv_istore_n (lv' := [(3, .int (0 : Int32)), (2, .int (0 : Int32)), (0, .ref (ad 5)), (1, .ref (ar ad a1))]) hx hb dX4_sumOf_3 rfl hl (by decide) rfl (fun ls hl => ?_)
  obtain ⟨y5, h6, hf⟩ := b1_s hf
  refine L4 FU a1 (0 : Int32) (0 : Int32) _ h6 (fun y5' eK H locs ls hw hl => ?_) _ _ _ hw (lv_sub hl [3, 1, 0] rfl)
  cases eK
  refine lv_iload_n hx hb dX4_sumOf_22 rfl (lv_at hl 0 rfl) ?_
  exact hfin _ _ _ _ _ _ hw (Option.some.inj hf) rfl (narI _) dX4_sumOf_23
/-- NineLandsModel.finds(I)V -/
theorem dX4_finds_0 : decode cX4_finds 0 = .ok (.aload_n 0, 1) := by decide +kernel
theorem dX4_finds_1 : decode cX4_finds 1 = .ok (.iload_n 1, 1) := by decide +kernel
theorem dX4_finds_2 : decode cX4_finds 2 = .ok (.invokevirtual 133, 3) := by decide +kernel
theorem dX4_finds_5 : decode cX4_finds 5 = .ok (.iconst 0, 1) := by decide +kernel
theorem dX4_finds_6 : decode cX4_finds 6 = .ok (.istore_n 2, 1) := by decide +kernel
theorem dX4_finds_7 : decode cX4_finds 7 = .ok (.iload_n 2, 1) := by decide +kernel
theorem dX4_finds_8 : decode cX4_finds 8 = .ok (.bipush 6, 2) := by decide +kernel
theorem dX4_finds_10 : decode cX4_finds 10 = .ok (.if_icmp .ge 16, 3) := by decide +kernel
theorem dX4_finds_13 : decode cX4_finds 13 = .ok (.aload_n 0, 1) := by decide +kernel
theorem dX4_finds_14 : decode cX4_finds 14 = .ok (.getfield 68, 3) := by decide +kernel
theorem dX4_finds_17 : decode cX4_finds 17 = .ok (.iload_n 2, 1) := by decide +kernel
theorem dX4_finds_18 : decode cX4_finds 18 = .ok (.iconst 0, 1) := by decide +kernel
theorem dX4_finds_19 : decode cX4_finds 19 = .ok (.iastore, 1) := by decide +kernel
theorem dX4_finds_20 : decode cX4_finds 20 = .ok (.iinc 2 1, 3) := by decide +kernel
theorem dX4_finds_23 : decode cX4_finds 23 = .ok (.goto (-16), 3) := by decide +kernel
theorem dX4_finds_26 : decode cX4_finds 26 = .ok (.aload_n 0, 1) := by decide +kernel
theorem dX4_finds_27 : decode cX4_finds 27 = .ok (.iconst 0, 1) := by decide +kernel
theorem dX4_finds_28 : decode cX4_finds 28 = .ok (.putfield 152, 3) := by decide +kernel
theorem dX4_finds_31 : decode cX4_finds 31 = .ok (.iconst 0, 1) := by decide +kernel
theorem dX4_finds_32 : decode cX4_finds 32 = .ok (.istore_n 2, 1) := by decide +kernel
theorem dX4_finds_33 : decode cX4_finds 33 = .ok (.iload_n 2, 1) := by decide +kernel
theorem dX4_finds_34 : decode cX4_finds 34 = .ok (.bipush 20, 2) := by decide +kernel
theorem dX4_finds_36 : decode cX4_finds 36 = .ok (.if_icmp .ge 87, 3) := by decide +kernel
theorem dX4_finds_39 : decode cX4_finds 39 = .ok (.aload_n 0, 1) := by decide +kernel
theorem dX4_finds_40 : decode cX4_finds 40 = .ok (.getfield 152, 3) := by decide +kernel
theorem dX4_finds_43 : decode cX4_finds 43 = .ok (.ifCond .ne 80, 3) := by decide +kernel
theorem dX4_finds_46 : decode cX4_finds 46 = .ok (.aload_n 0, 1) := by decide +kernel
theorem dX4_finds_47 : decode cX4_finds 47 = .ok (.iconst 1, 1) := by decide +kernel
theorem dX4_finds_48 : decode cX4_finds 48 = .ok (.putfield 152, 3) := by decide +kernel
theorem dX4_finds_51 : decode cX4_finds 51 = .ok (.iconst 0, 1) := by decide +kernel
theorem dX4_finds_52 : decode cX4_finds 52 = .ok (.istore_n 3, 1) := by decide +kernel
theorem dX4_finds_53 : decode cX4_finds 53 = .ok (.iload_n 3, 1) := by decide +kernel
theorem dX4_finds_54 : decode cX4_finds 54 = .ok (.bipush 6, 2) := by decide +kernel
theorem dX4_finds_56 : decode cX4_finds 56 = .ok (.if_icmp .ge 61, 3) := by decide +kernel
theorem dX4_finds_59 : decode cX4_finds 59 = .ok (.aload_n 0, 1) := by decide +kernel
theorem dX4_finds_60 : decode cX4_finds 60 = .ok (.iload_n 3, 1) := by decide +kernel
theorem dX4_finds_61 : decode cX4_finds 61 = .ok (.aload_n 0, 1) := by decide +kernel
theorem dX4_finds_62 : decode cX4_finds 62 = .ok (.getfield 40, 3) := by decide +kernel
theorem dX4_finds_65 : decode cX4_finds 65 = .ok (.iload_n 3, 1) := by decide +kernel
theorem dX4_finds_66 : decode cX4_finds 66 = .ok (.iaload, 1) := by decide +kernel
theorem dX4_finds_67 : decode cX4_finds 67 = .ok (.aload_n 0, 1) := by decide +kernel
theorem dX4_finds_68 : decode cX4_finds 68 = .ok (.aload_n 0, 1) := by decide +kernel
theorem dX4_finds_69 : decode cX4_finds 69 = .ok (.getfield 68, 3) := by decide +kernel
theorem dX4_finds_72 : decode cX4_finds 72 = .ok (.invokevirtual 156, 3) := by decide +kernel
theorem dX4_finds_75 : decode cX4_finds 75 = .ok (.aload_n 0, 1) := by decide +kernel
theorem dX4_finds_76 : decode cX4_finds 76 = .ok (.getfield 68, 3) := by decide +kernel
theorem dX4_finds_79 : decode cX4_finds 79 = .ok (.iload_n 3, 1) := by decide +kernel
theorem dX4_finds_80 : decode cX4_finds 80 = .ok (.iaload, 1) := by decide +kernel
theorem dX4_finds_81 : decode cX4_finds 81 = .ok (.isub, 1) := by decide +kernel
theorem dX4_finds_82 : decode cX4_finds 82 = .ok (.invokevirtual 160, 3) := by decide +kernel
theorem dX4_finds_85 : decode cX4_finds 85 = .ok (.istore 4, 2) := by decide +kernel
theorem dX4_finds_87 : decode cX4_finds 87 = .ok (.iload 4, 2) := by decide +kernel
theorem dX4_finds_89 : decode cX4_finds 89 = .ok (.aload_n 0, 1) := by decide +kernel
theorem dX4_finds_90 : decode cX4_finds 90 = .ok (.getfield 68, 3) := by decide +kernel
theorem dX4_finds_93 : decode cX4_finds 93 = .ok (.iload_n 3, 1) := by decide +kernel
theorem dX4_finds_94 : decode cX4_finds 94 = .ok (.iaload, 1) := by decide +kernel
theorem dX4_finds_95 : decode cX4_finds 95 = .ok (.if_icmp .eq 8, 3) := by decide +kernel
theorem dX4_finds_98 : decode cX4_finds 98 = .ok (.aload_n 0, 1) := by decide +kernel
theorem dX4_finds_99 : decode cX4_finds 99 = .ok (.iconst 0, 1) := by decide +kernel
theorem dX4_finds_100 : decode cX4_finds 100 = .ok (.putfield 152, 3) := by decide +kernel
theorem dX4_finds_103 : decode cX4_finds 103 = .ok (.aload_n 0, 1) := by decide +kernel
theorem dX4_finds_104 : decode cX4_finds 104 = .ok (.getfield 68, 3) := by decide +kernel
theorem dX4_finds_107 : decode cX4_finds 107 = .ok (.iload_n 3, 1) := by decide +kernel
theorem dX4_finds_108 : decode cX4_finds 108 = .ok (.iload 4, 2) := by decide +kernel
theorem dX4_finds_110 : decode cX4_finds 110 = .ok (.iastore, 1) := by decide +kernel
theorem dX4_finds_111 : decode cX4_finds 111 = .ok (.iinc 3 1, 3) := by decide +kernel
theorem dX4_finds_114 : decode cX4_finds 114 = .ok (.goto (-61), 3) := by decide +kernel
theorem dX4_finds_117 : decode cX4_finds 117 = .ok (.iinc 2 1, 3) := by decide +kernel
theorem dX4_finds_120 : decode cX4_finds 120 = .ok (.goto (-87), 3) := by decide +kernel
theorem dX4_finds_123 : decode cX4_finds 123 = .ok (.return_, 1) := by decide +kernel
theorem hd_X4_finds : yX4_finds.cls ≠ "java/lang/invoke/MethodHandle" ∧ yX4_finds.cls ≠ "java/lang/invoke/VarHandle" ∧ (parseMethodDescriptor yX4_finds.desc).map (fun d => d.parameters.length) = some 1 := by decide +kernel
def f_X4_finds_L7 : Nat → Int32 → vS → Option vS
  | 0, _, _ => none
  | n + 1, x2, S => if (6 : Int32) ≤ x2 then some S else if inb x2 6 = true then lt (upk S 19 (upd (S 19) (x2.toNatClampNeg) (0 : Int32))) fun S5 => (f_X4_finds_L7 n) (x2 + 1) S5 else none
def f_X4_finds_L53 : Nat → Int32 → Int32 → vS → Option vS
  | 0, _, _, _ => none
  | n + 1, x2, x3, S => if (6 : Int32) ≤ x3 then some S else if inb x3 6 = true then b1 (f_X4_sumOf 19 S) fun r14 => b1 (f_X4_says x3 (S 11 (x3.toNatClampNeg)) (r14 - (S 19 (x3.toNatClampNeg))) S) fun r16 => if r16 = (S 19 (x3.toNatClampNeg)) then lt (upk S 19 (upd (S 19) (x3.toNatClampNeg) r16)) fun S18 => (f_X4_finds_L53 n) x2 (x3 + 1) S18 else lt (upk S 0 (upd (S 0) 4 (0 : Int32))) fun S19 => lt (upk S19 19 (upd (S19 19) (x3.toNatClampNeg) r16)) fun S20 => (f_X4_finds_L53 n) x2 (x3 + 1) S20 else none
def f_X4_finds_L33 : Nat → Int32 → vS → Option vS
  | 0, _, _ => none
  | n + 1, x2, S => if (20 : Int32) ≤ x2 then some S else if (S 0 4) = 0 then lt (upk S 0 (upd (S 0) 4 (1 : Int32))) fun S10 => b1 (f_X4_finds_L53 FU x2 (0 : Int32) S10) fun S21 => (f_X4_finds_L33 n) (x2 + 1) S21 else some S
def f_X4_finds (a1 : Int32) (S : vS) : Option vS := b1 (f_X4_findMonths a1 S) fun S2 => b1 (f_X4_finds_L7 FU (0 : Int32) S2) fun S6 => lt (upk S6 0 (upd (S6 0) 4 (0 : Int32))) fun S7 => b1 (f_X4_finds_L33 FU (0 : Int32) S7) fun S23 => some S23
set_option maxHeartbeats 4000000 in
set_option maxRecDepth 20000 in
theorem c_X4_finds (l : Launch) (D : va_G) (cI cO : ClassId) (ad : Nat → Nat) (a1 : Int32) (S : vS) (S9 : vS) (hf : f_X4_finds a1 S = some S9) : CV l yX4_finds cX4_finds 5 ({ frames := 4, cells := 0, slots := 0, locals := 90 }) [.ref (ad 5), .int a1] D cI cO ad S S9 := by
  refine CV.of (r := 0) (by decide +kernel) (Nat.le_of_ble_eq_true rfl) (fun p e s m args below meth c Q ls X hl hw hfin => ?_)
  have hl : lv_has ls 5 [(0, .ref (ad 5)), (1, .int a1)] := hl
  have hx := X.1
  have hb := X.2.1
  have L7 : ∀ (n : Nat) (x2 : Int32) (S : vS) (res : vS), f_X4_finds_L7 n x2 S = some res → (K : ∀  (S2 : vS), some S2 = some res → ∀ (H : Heap) (locs : List Loc) (ls : Array Slot), WD D cI cO ad s S2 H locs → lv_has ls 5 [(0, .ref (ad 5))] → W p l e ({ frames := 4, cells := 0, slots := 0, locals := 90 }) s m args below meth c H locs 0 0 Q (F0 m 26 ls [])) → ∀ (H : Heap) (locs : List Loc) (ls : Array Slot), WD D cI cO ad s S H locs → lv_has ls 5 [(0, .ref (ad 5)), (2, .int x2)] → W p l e ({ frames := 4, cells := 0, slots := 0, locals := 90 }) s m args below meth c H locs 0 0 Q (F0 m 7 ls []) := by
    intro n
    induction n with
    | zero => intro x2 S res hf; cases hf
    | succ n ih =>
      intro x2 S res hf K H locs ls hw hl
      unfold f_X4_finds_L7 at hf
      refine lv_iload_n hx hb dX4_finds_7 rfl (lv_at hl 1 rfl) ?_
      refine lv_bipush (v := 6) hx hb dX4_finds_8 (by decide +kernel) ?_
      refine lv_icmp_ge (tgt := 26) hx hb dX4_finds_10 (by decide) (fun c3 => ?_) (fun c3 => ?_)
      · replace hf := if_t c3 hf
        exact K S hf _ _ _ hw (lv_sub hl [0] rfl)
      · replace hf := if_f c3 hf
        refine lv_aload_n hx hb dX4_finds_13 rfl (lv_at hl 0 rfl) ?_
        refine x_get X hw 5 (Nat.le_of_ble_eq_true rfl) ce5 rfl i_X4 22 (by decide) q612 ⟨rfl, rfl, rfl⟩ rfl dX4_finds_14 ?_
        refine lv_iload_n hx hb dX4_finds_17 rfl (lv_at hl 1 rfl) ?_
        refine lv_iconst (v := 0) hx hb dX4_finds_18 (by decide) ?_
        obtain ⟨h4, hf⟩ := if_s hf
        refine x_iast X hw 19 ⟨Nat.le_of_ble_eq_true rfl, Nat.le_of_ble_eq_true rfl⟩ rfl h4 (x2.toNatClampNeg) rfl dX4_finds_19 (fun S5 eS5 H locs hw => ?_)
        replace hf := lt_e eS5 hf
        refine lv_iinc (v := (x2 + 1)) (lv' := [(2, .int (x2 + 1)), (0, .ref (ad 5))]) hx hb dX4_finds_20 hl (k := 1) rfl rfl (by decide) rfl (fun ls hl => ?_)
        refine lv_goto (tgt := 7) hx hb dX4_finds_23 (by decide) ?_
        exact ih (x2 + 1) S5 _ hf K _ _ _ hw (lv_sub hl [1, 0] rfl)
  have L53 : ∀ (n : Nat) (x2 : Int32) (x3 : Int32) (S : vS) (res : vS), f_X4_finds_L53 n x2 x3 S = some res → (K : ∀  (S2 : vS), some S2 = some res → ∀ (H : Heap) (locs : List Loc) (ls : Array Slot), WD D cI cO ad s S2 H locs → lv_has ls 5 [(0, .ref (ad 5)), (2, .int x2)] → W p l e ({ frames := 4, cells := 0, slots := 0, locals := 90 }) s m args below meth c H locs 0 0 Q (F0 m 117 ls [])) → ∀ (H : Heap) (locs : List Loc) (ls : Array Slot), WD D cI cO ad s S H locs → lv_has ls 5 [(0, .ref (ad 5)), (2, .int x2), (3, .int x3)] → W p l e ({ frames := 4, cells := 0, slots := 0, locals := 90 }) s m args below meth c H locs 0 0 Q (F0 m 53 ls []) := by
    intro n
    induction n with
    | zero => intro x2 x3 S res hf; cases hf
    | succ n ih =>
      intro x2 x3 S res hf K H locs ls hw hl
      unfold f_X4_finds_L53 at hf
      refine lv_iload_n hx hb dX4_finds_53 rfl (lv_at hl 2 rfl) ?_
      refine lv_bipush (v := 6) hx hb dX4_finds_54 (by decide +kernel) ?_
      refine lv_icmp_ge (tgt := 117) hx hb dX4_finds_56 (by decide) (fun c11 => ?_) (fun c11 => ?_)
      · replace hf := if_t c11 hf
        exact K S hf _ _ _ hw (lv_sub hl [0, 1] rfl)
      · replace hf := if_f c11 hf
        refine lv_aload_n hx hb dX4_finds_59 rfl (lv_at hl 0 rfl) ?_
        refine lv_iload_n hx hb dX4_finds_60 rfl (lv_at hl 2 rfl) ?_
        refine lv_aload_n hx hb dX4_finds_61 rfl (lv_at hl 0 rfl) ?_
        refine x_get X hw 5 (Nat.le_of_ble_eq_true rfl) ce5 rfl i_X4 10 (by decide) q600 ⟨rfl, rfl, rfl⟩ rfl dX4_finds_62 ?_
        refine lv_iload_n hx hb dX4_finds_65 rfl (lv_at hl 2 rfl) ?_
        obtain ⟨h12, hf⟩ := if_s hf
        refine x_iald X hw 11 ⟨Nat.le_of_ble_eq_true rfl, Nat.le_of_ble_eq_true rfl⟩ rfl h12 (x3.toNatClampNeg) rfl dX4_finds_66 ?_
        refine lv_aload_n hx hb dX4_finds_67 rfl (lv_at hl 0 rfl) ?_
        refine lv_aload_n hx hb dX4_finds_68 rfl (lv_at hl 0 rfl) ?_
        refine x_get X hw 5 (Nat.le_of_ble_eq_true rfl) ce5 rfl i_X4 22 (by decide) q612 ⟨rfl, rfl, rfl⟩ rfl dX4_finds_69 ?_
        obtain ⟨r14, h13, hf⟩ := b1_s hf
        refine kVi X hw (c_X4_sumOf l D cI cO ad 19 S r14 h13) (Nat.le_of_ble_eq_true rfl) ce5 rfl ⟨rfl, rfl⟩ q810 q812 q50 q64 q813 hd_X4_sumOf ⟨Nat.le_of_ble_eq_true rfl, Nat.le_of_ble_eq_true rfl⟩ rfl hl.1 rfl (Nat.le_of_ble_eq_true rfl) dX4_finds_72 (fun H locs hw => ?_)
        refine lv_aload_n hx hb dX4_finds_75 rfl (lv_at hl 0 rfl) ?_
        refine x_get X hw 5 (Nat.le_of_ble_eq_true rfl) ce5 rfl i_X4 22 (by decide) q612 ⟨rfl, rfl, rfl⟩ rfl dX4_finds_76 ?_
        refine lv_iload_n hx hb dX4_finds_79 rfl (lv_at hl 2 rfl) ?_
        refine x_iald X hw 19 ⟨Nat.le_of_ble_eq_true rfl, Nat.le_of_ble_eq_true rfl⟩ rfl h12 (x3.toNatClampNeg) rfl dX4_finds_80 ?_
        refine lv_isub hx hb dX4_finds_81 ?_
        obtain ⟨r16, h15, hf⟩ := b1_s hf
        refine kVi X hw (c_X4_says l D cI cO ad x3 (S 11 (x3.toNatClampNeg)) (r14 - (S 19 (x3.toNatClampNeg))) S r16 h15) (Nat.le_of_ble_eq_true rfl) ce5 rfl ⟨rfl, rfl⟩ q775 q777 q44 q64 q778 hd_X4_says ⟨Nat.le_of_ble_eq_true rfl, Nat.le_of_ble_eq_true rfl⟩ rfl hl.1 rfl (Nat.le_of_ble_eq_true rfl) dX4_finds_82 (fun H locs hw => ?_)
        refine lv_istore (lv' := [(4, .int r16), (0, .ref (ad 5)), (2, .int x2), (3, .int x3)]) hx hb dX4_finds_85 hl (by decide) rfl (fun ls hl => ?_)
        refine lv_iload hx hb dX4_finds_87 (lv_at hl 0 rfl) ?_
        refine lv_aload_n hx hb dX4_finds_89 rfl (lv_at hl 1 rfl) ?_
        refine x_get X hw 5 (Nat.le_of_ble_eq_true rfl) ce5 rfl i_X4 22 (by decide) q612 ⟨rfl, rfl, rfl⟩ rfl dX4_finds_90 ?_
        refine lv_iload_n hx hb dX4_finds_93 rfl (lv_at hl 3 rfl) ?_
        refine x_iald X hw 19 ⟨Nat.le_of_ble_eq_true rfl, Nat.le_of_ble_eq_true rfl⟩ rfl h12 (x3.toNatClampNeg) rfl dX4_finds_94 ?_
        refine lv_icmp_eq (tgt := 103) hx hb dX4_finds_95 (by decide) (fun c17 => ?_) (fun c17 => ?_)
        · replace hf := if_t c17 hf
          refine lv_aload_n hx hb dX4_finds_103 rfl (lv_at hl 1 rfl) ?_
          refine x_get X hw 5 (Nat.le_of_ble_eq_true rfl) ce5 rfl i_X4 22 (by decide) q612 ⟨rfl, rfl, rfl⟩ rfl dX4_finds_104 ?_
          refine lv_iload_n hx hb dX4_finds_107 rfl (lv_at hl 3 rfl) ?_
          refine lv_iload hx hb dX4_finds_108 (lv_at hl 0 rfl) ?_
          refine x_iast X hw 19 ⟨Nat.le_of_ble_eq_true rfl, Nat.le_of_ble_eq_true rfl⟩ rfl h12 (x3.toNatClampNeg) rfl dX4_finds_110 (fun S18 eS18 H locs hw => ?_)
          replace hf := lt_e eS18 hf
          refine lv_iinc (v := (x3 + 1)) (lv' := [(3, .int (x3 + 1)), (4, .int r16), (0, .ref (ad 5)), (2, .int x2)]) hx hb dX4_finds_111 hl (k := 3) rfl rfl (by decide) rfl (fun ls hl => ?_)
          refine lv_goto (tgt := 53) hx hb dX4_finds_114 (by decide) ?_
          exact ih x2 (x3 + 1) S18 _ hf K _ _ _ hw (lv_sub hl [2, 3, 0] rfl)
        · replace hf := if_f c17 hf
          refine lv_aload_n hx hb dX4_finds_98 rfl (lv_at hl 1 rfl) ?_
          refine lv_iconst (v := 0) hx hb dX4_finds_99 (by decide) ?_
          refine x_put X hw 5 (Nat.le_of_ble_eq_true rfl) ce5 rfl i_X4 tyX4_ok nmX4 23 (by decide) q613 ⟨rfl, rfl, rfl⟩ rfl pfZ rfl rfl (Nat.le_of_ble_eq_true rfl) 4 (ws_4 _) dX4_finds_100 (fun S19 eS19 H locs hw => ?_)
          replace hf := lt_e eS19 hf
          refine lv_aload_n hx hb dX4_finds_103 rfl (lv_at hl 1 rfl) ?_
          refine x_get X hw 5 (Nat.le_of_ble_eq_true rfl) ce5 rfl i_X4 22 (by decide) q612 ⟨rfl, rfl, rfl⟩ rfl dX4_finds_104 ?_
          refine lv_iload_n hx hb dX4_finds_107 rfl (lv_at hl 3 rfl) ?_
          refine lv_iload hx hb dX4_finds_108 (lv_at hl 0 rfl) ?_
          refine x_iast X hw 19 ⟨Nat.le_of_ble_eq_true rfl, Nat.le_of_ble_eq_true rfl⟩ rfl h12 (x3.toNatClampNeg) rfl dX4_finds_110 (fun S20 eS20 H locs hw => ?_)
          replace hf := lt_e eS20 hf
          refine lv_iinc (v := (x3 + 1)) (lv' := [(3, .int (x3 + 1)), (4, .int r16), (0, .ref (ad 5)), (2, .int x2)]) hx hb dX4_finds_111 hl (k := 3) rfl rfl (by decide) rfl (fun ls hl => ?_)
          refine lv_goto (tgt := 53) hx hb dX4_finds_114 (by decide) ?_
          exact ih x2 (x3 + 1) S20 _ hf K _ _ _ hw (lv_sub hl [2, 3, 0] rfl)
  have L33 : ∀ (n : Nat) (x2 : Int32) (S : vS) (res : vS), f_X4_finds_L33 n x2 S = some res → (K : ∀  (S2 : vS), some S2 = some res → ∀ (H : Heap) (locs : List Loc) (ls : Array Slot), WD D cI cO ad s S2 H locs → lv_has ls 5 [] → W p l e ({ frames := 4, cells := 0, slots := 0, locals := 90 }) s m args below meth c H locs 0 0 Q (F0 m 123 ls [])) → ∀ (H : Heap) (locs : List Loc) (ls : Array Slot), WD D cI cO ad s S H locs → lv_has ls 5 [(0, .ref (ad 5)), (2, .int x2)] → W p l e ({ frames := 4, cells := 0, slots := 0, locals := 90 }) s m args below meth c H locs 0 0 Q (F0 m 33 ls []) := by
    intro n
    induction n with
    | zero => intro x2 S res hf; cases hf
    | succ n ih =>
      intro x2 S res hf K H locs ls hw hl
      unfold f_X4_finds_L33 at hf
      refine lv_iload_n hx hb dX4_finds_33 rfl (lv_at hl 1 rfl) ?_
      refine lv_bipush (v := 20) hx hb dX4_finds_34 (by decide +kernel) ?_
      refine lv_icmp_ge (tgt := 123) hx hb dX4_finds_36 (by decide) (fun c8 => ?_) (fun c8 => ?_)
      · replace hf := if_t c8 hf
        exact K S hf _ _ _ hw (lv_sub hl [] rfl)
      · replace hf := if_f c8 hf
        refine lv_aload_n hx hb dX4_finds_39 rfl (lv_at hl 0 rfl) ?_
        refine x_get X hw 5 (Nat.le_of_ble_eq_true rfl) ce5 rfl i_X4 23 (by decide) q613 ⟨rfl, rfl, rfl⟩ rfl dX4_finds_40 ?_
        refine lv_if_ne (tgt := 123) hx hb dX4_finds_43 (by decide) (fun c9 => ?_) (fun c9 => ?_)
        · replace hf := if_f c9 hf
          exact K S hf _ _ _ hw (lv_sub hl [] rfl)
        · replace hf := if_t c9 hf
          refine lv_aload_n hx hb dX4_finds_46 rfl (lv_at hl 0 rfl) ?_
          refine lv_iconst (v := 1) hx hb dX4_finds_47 (by decide) ?_
          refine x_put X hw 5 (Nat.le_of_ble_eq_true rfl) ce5 rfl i_X4 tyX4_ok nmX4 23 (by decide) q613 ⟨rfl, rfl, rfl⟩ rfl pfZ rfl rfl (Nat.le_of_ble_eq_true rfl) 4 (ws_4 _) dX4_finds_48 (fun S10 eS10 H locs hw => ?_)
          replace hf := lt_e eS10 hf
          refine lv_iconst (v := 0) hx hb dX4_finds_51 (by decide) ?_
          refine lv_istore_n (lv' := [(3, .int (0 : Int32)), (0, .ref (ad 5)), (2, .int x2)]) hx hb dX4_finds_52 rfl hl (by decide) rfl (fun ls hl => ?_)
          obtain ⟨S21, h22, hf⟩ := b1_s hf
          refine L53 FU x2 (0 : Int32) S10 _ h22 (fun S21' eK H locs ls hw hl => ?_) _ _ _ hw (lv_sub hl [1, 2, 0] rfl)
          cases eK
          refine lv_iinc (v := (x2 + 1)) (lv' := [(2, .int (x2 + 1)), (0, .ref (ad 5))]) hx hb dX4_finds_117 hl (k := 1) rfl rfl (by decide) rfl (fun ls hl => ?_)
          refine lv_goto (tgt := 33) hx hb dX4_finds_120 (by decide) ?_
          exact ih (x2 + 1) S21 _ hf K _ _ _ hw (lv_sub hl [1, 0] rfl)
  unfold f_X4_finds at hf
  refine lv_aload_n hx hb dX4_finds_0 rfl (lv_at hl 0 rfl) ?_
  refine lv_iload_n hx hb dX4_finds_1 rfl (lv_at hl 1 rfl) ?_
  obtain ⟨S2, h1, hf⟩ := b1_s hf
  refine kVv X hw (c_X4_findMonths l D cI cO ad a1 S S2 h1) (Nat.le_of_ble_eq_true rfl) ce5 rfl ⟨rfl, rfl⟩ q747 q749 q40 q64 q750 hd_X4_findMonths ⟨Nat.le_of_ble_eq_true rfl, Nat.le_of_ble_eq_true rfl⟩ rfl hl.1 rfl (Nat.le_of_ble_eq_true rfl) dX4_finds_2 (fun H locs hw => ?_)
  refine lv_iconst (v := 0) hx hb dX4_finds_5 (by decide) ?_
  refine lv_istore_n (lv' := [(2, .int (0 : Int32)), (0, .ref (ad 5)), (1, .int a1)]) hx hb dX4_finds_6 rfl hl (by decide) rfl (fun ls hl => ?_)
  obtain ⟨S6, h25, hf⟩ := b1_s hf
  refine L7 FU (0 : Int32) S2 _ h25 (fun S6' eK H locs ls hw hl => ?_) _ _ _ hw (lv_sub hl [1, 0] rfl)
  cases eK
  refine lv_aload_n hx hb dX4_finds_26 rfl (lv_at hl 0 rfl) ?_
  refine lv_iconst (v := 0) hx hb dX4_finds_27 (by decide) ?_
  refine x_put X hw 5 (Nat.le_of_ble_eq_true rfl) ce5 rfl i_X4 tyX4_ok nmX4 23 (by decide) q613 ⟨rfl, rfl, rfl⟩ rfl pfZ rfl rfl (Nat.le_of_ble_eq_true rfl) 4 (ws_4 _) dX4_finds_28 (fun S7 eS7 H locs hw => ?_)
  replace hf := lt_e eS7 hf
  refine lv_iconst (v := 0) hx hb dX4_finds_31 (by decide) ?_
  refine lv_istore_n (lv' := [(2, .int (0 : Int32)), (0, .ref (ad 5))]) hx hb dX4_finds_32 rfl hl (by decide) rfl (fun ls hl => ?_)
  obtain ⟨S23, h24, hf⟩ := b1_s hf
  refine L33 FU (0 : Int32) S7 _ h24 (fun S23' eK H locs ls hw hl => ?_) _ _ _ hw (lv_sub hl [1, 0] rfl)
  cases eK
  exact hfin _ _ 0 _ _ _ hw rfl (Option.some.inj hf) dX4_finds_123
end
section
/-- NineLandsModel.alone(II)I -/
theorem dX4_alone_0 : decode cX4_alone 0 = .ok (.iload_n 1, 1) := by decide +kernel
theorem dX4_alone_1 : decode cX4_alone 1 = .ok (.invokestatic 105, 3) := by decide +kernel
theorem dX4_alone_4 : decode cX4_alone 4 = .ok (.ifCond .ne 9, 3) := by decide +kernel
theorem dX4_alone_7 : decode cX4_alone 7 = .ok (.aload_n 0, 1) := by decide +kernel
theorem dX4_alone_8 : decode cX4_alone 8 = .ok (.iconst (-1), 1) := by decide +kernel
theorem dX4_alone_9 : decode cX4_alone 9 = .ok (.invokevirtual 85, 3) := by decide +kernel
theorem dX4_alone_12 : decode cX4_alone 12 = .ok (.ireturn, 1) := by decide +kernel
theorem dX4_alone_13 : decode cX4_alone 13 = .ok (.iload_n 2, 1) := by decide +kernel
theorem dX4_alone_14 : decode cX4_alone 14 = .ok (.iconst 0, 1) := by decide +kernel
theorem dX4_alone_15 : decode cX4_alone 15 = .ok (.iconst 5, 1) := by decide +kernel
theorem dX4_alone_16 : decode cX4_alone 16 = .ok (.invokestatic 98, 3) := by decide +kernel
theorem dX4_alone_19 : decode cX4_alone 19 = .ok (.ifCond .ne 10, 3) := by decide +kernel
theorem dX4_alone_22 : decode cX4_alone 22 = .ok (.aload_n 0, 1) := by decide +kernel
theorem dX4_alone_23 : decode cX4_alone 23 = .ok (.bipush (-2), 2) := by decide +kernel
theorem dX4_alone_25 : decode cX4_alone 25 = .ok (.invokevirtual 85, 3) := by decide +kernel
theorem dX4_alone_28 : decode cX4_alone 28 = .ok (.ireturn, 1) := by decide +kernel
theorem dX4_alone_29 : decode cX4_alone 29 = .ok (.aload_n 0, 1) := by decide +kernel
theorem dX4_alone_30 : decode cX4_alone 30 = .ok (.aload_n 0, 1) := by decide +kernel
theorem dX4_alone_31 : decode cX4_alone 31 = .ok (.getfield 102, 3) := by decide +kernel
theorem dX4_alone_34 : decode cX4_alone 34 = .ok (.invokevirtual 133, 3) := by decide +kernel
theorem dX4_alone_37 : decode cX4_alone 37 = .ok (.aload_n 0, 1) := by decide +kernel
theorem dX4_alone_38 : decode cX4_alone 38 = .ok (.iload_n 1, 1) := by decide +kernel
theorem dX4_alone_39 : decode cX4_alone 39 = .ok (.iload_n 2, 1) := by decide +kernel
theorem dX4_alone_40 : decode cX4_alone 40 = .ok (.iconst 0, 1) := by decide +kernel
theorem dX4_alone_41 : decode cX4_alone 41 = .ok (.invokevirtual 160, 3) := by decide +kernel
theorem dX4_alone_44 : decode cX4_alone 44 = .ok (.ireturn, 1) := by decide +kernel
theorem hd_X4_alone : yX4_alone.cls ≠ "java/lang/invoke/MethodHandle" ∧ yX4_alone.cls ≠ "java/lang/invoke/VarHandle" ∧ (parseMethodDescriptor yX4_alone.desc).map (fun d => d.parameters.length) = some 2 := by decide +kernel
def f_X4_alone (a1 : Int32) (a2 : Int32) (S : vS) : Option (Int32 × vS) := b1 (f_X4_isLand a1 S) fun r2 => if r2 = 0 then b2 (f_X4_no (-1 : Int32) S) fun r16 S15 => some (r16, S15) else b1 (f_X4_isIn a2 (0 : Int32) (5 : Int32) S) fun r5 => if r5 = 0 then b2 (f_X4_no (-2 : Int32) S) fun r13 S12 => some (r13, S12) else b1 (f_X4_findMonths (S 0 2) S) fun S8 => b1 (f_X4_says a1 a2 (0 : Int32) S8) fun r10 => some (r10, S8)
set_option maxHeartbeats 4000000 in
set_option maxRecDepth 20000 in
theorem c_X4_alone (l : Launch) (D : va_G) (cI cO : ClassId) (ad : Nat → Nat) (a1 : Int32) (a2 : Int32) (S : vS) (R9 : Int32) (S9 : vS) (hf : f_X4_alone a1 a2 S = some (R9, S9)) : CI l yX4_alone cX4_alone 3 .int ({ frames := 4, cells := 0, slots := 0, locals := 90 }) [.ref (ad 5), .int a1, .int a2] D cI cO ad S R9 S9 := by
  refine CI.of (by decide +kernel) (Nat.le_of_ble_eq_true rfl) (fun p e s m args below meth c Q ls X hl hw hfin => ?_)
  have hl : lv_has ls 3 [(0, .ref (ad 5)), (1, .int a1), (2, .int a2)] := hl
  have hx := X.1
  have hb := X.2.1
  unfold f_X4_alone at hf
  refine lv_iload_n hx hb dX4_alone_0 rfl (lv_at hl 1 rfl) ?_
  obtain ⟨r2, h1, hf⟩ := b1_s hf
  refine kSi X hw (c_X4_isLand l D cI cO ad a1 S r2 h1) ⟨rfl, rfl⟩ q705 q706 q64 q707 hd_X4_isLand ⟨Nat.le_of_ble_eq_true rfl, Nat.le_of_ble_eq_true rfl⟩ rfl hl.1 rfl (Nat.le_of_ble_eq_true rfl) dX4_alone_1 (fun H locs hw => ?_)
  refine lv_if_ne (tgt := 13) hx hb dX4_alone_4 (by decide) (fun c3 => ?_) (fun c3 => ?_)
  · replace hf := if_f c3 hf
    refine lv_iload_n hx hb dX4_alone_13 rfl (lv_at hl 2 rfl) ?_
    refine lv_iconst (v := 0) hx hb dX4_alone_14 (by decide) ?_
    refine lv_iconst (v := 5) hx hb dX4_alone_15 (by decide) ?_
    obtain ⟨r5, h4, hf⟩ := b1_s hf
    refine kSi X hw (c_X4_isIn l D cI cO ad a2 (0 : Int32) (5 : Int32) S r5 h4) ⟨rfl, rfl⟩ q712 q713 q64 q714 hd_X4_isIn ⟨Nat.le_of_ble_eq_true rfl, Nat.le_of_ble_eq_true rfl⟩ rfl hl.1 rfl (Nat.le_of_ble_eq_true rfl) dX4_alone_16 (fun H locs hw => ?_)
    refine lv_if_ne (tgt := 29) hx hb dX4_alone_19 (by decide) (fun c6 => ?_) (fun c6 => ?_)
    · replace hf := if_f c6 hf
      refine lv_aload_n hx hb dX4_alone_29 rfl (lv_at hl 0 rfl) ?_
      refine lv_aload_n hx hb dX4_alone_30 rfl (lv_at hl 0 rfl) ?_
      refine x_get X hw 5 (Nat.le_of_ble_eq_true rfl) ce5 rfl i_X4 15 (by decide) q605 ⟨rfl, rfl, rfl⟩ rfl dX4_alone_31 ?_
      obtain ⟨S8, h7, hf⟩ := b1_s hf
      refine kVv X hw (c_X4_findMonths l D cI cO ad (S 0 2) S S8 h7) (Nat.le_of_ble_eq_true rfl) ce5 rfl ⟨rfl, rfl⟩ q747 q749 q40 q64 q750 hd_X4_findMonths ⟨Nat.le_of_ble_eq_true rfl, Nat.le_of_ble_eq_true rfl⟩ rfl hl.1 rfl (Nat.le_of_ble_eq_true rfl) dX4_alone_34 (fun H locs hw => ?_)
      refine lv_aload_n hx hb dX4_alone_37 rfl (lv_at hl 0 rfl) ?_
      refine lv_iload_n hx hb dX4_alone_38 rfl (lv_at hl 1 rfl) ?_
      refine lv_iload_n hx hb dX4_alone_39 rfl (lv_at hl 2 rfl) ?_
      refine lv_iconst (v := 0) hx hb dX4_alone_40 (by decide) ?_
      obtain ⟨r10, h9, hf⟩ := b1_s hf
      refine kVi X hw (c_X4_says l D cI cO ad a1 a2 (0 : Int32) S8 r10 h9) (Nat.le_of_ble_eq_true rfl) ce5 rfl ⟨rfl, rfl⟩ q775 q777 q44 q64 q778 hd_X4_says ⟨Nat.le_of_ble_eq_true rfl, Nat.le_of_ble_eq_true rfl⟩ rfl hl.1 rfl (Nat.le_of_ble_eq_true rfl) dX4_alone_41 (fun H locs hw => ?_)
      exact hfin _ _ _ _ _ _ hw (s2a hf) (s2b hf) (narI _) dX4_alone_44
    · replace hf := if_t c6 hf
      refine lv_aload_n hx hb dX4_alone_22 rfl (lv_at hl 0 rfl) ?_
      refine lv_bipush (v := -2) hx hb dX4_alone_23 (by decide +kernel) ?_
      obtain ⟨r13, S12, h11, hf⟩ := b2_s hf
      refine kVi X hw (c_X4_no l D cI cO ad (-2 : Int32) S r13 S12 h11) (Nat.le_of_ble_eq_true rfl) ce5 rfl ⟨rfl, rfl⟩ q688 q690 q34 q64 q691 hd_X4_no ⟨Nat.le_of_ble_eq_true rfl, Nat.le_of_ble_eq_true rfl⟩ rfl hl.1 rfl (Nat.le_of_ble_eq_true rfl) dX4_alone_25 (fun H locs hw => ?_)
      exact hfin _ _ _ _ _ _ hw (s2a hf) (s2b hf) (narI _) dX4_alone_28
  · replace hf := if_t c3 hf
    refine lv_aload_n hx hb dX4_alone_7 rfl (lv_at hl 0 rfl) ?_
    refine lv_iconst (v := -1) hx hb dX4_alone_8 (by decide) ?_
    obtain ⟨r16, S15, h14, hf⟩ := b2_s hf
    refine kVi X hw (c_X4_no l D cI cO ad (-1 : Int32) S r16 S15 h14) (Nat.le_of_ble_eq_true rfl) ce5 rfl ⟨rfl, rfl⟩ q688 q690 q34 q64 q691 hd_X4_no ⟨Nat.le_of_ble_eq_true rfl, Nat.le_of_ble_eq_true rfl⟩ rfl hl.1 rfl (Nat.le_of_ble_eq_true rfl) dX4_alone_9 (fun H locs hw => ?_)
    exact hfin _ _ _ _ _ _ hw (s2a hf) (s2b hf) (narI _) dX4_alone_12
/-- NineLandsModel.lacks(IZ)I -/
theorem dX4_lacks_0 : decode cX4_lacks 0 = .ok (.iload_n 1, 1) := by decide +kernel
theorem dX4_lacks_1 : decode cX4_lacks 1 = .ok (.invokestatic 105, 3) := by decide +kernel
theorem dX4_lacks_4 : decode cX4_lacks 4 = .ok (.ifCond .ne 9, 3) := by decide +kernel
theorem dX4_lacks_7 : decode cX4_lacks 7 = .ok (.aload_n 0, 1) := by decide +kernel
theorem dX4_lacks_8 : decode cX4_lacks 8 = .ok (.iconst (-1), 1) := by decide +kernel
theorem dX4_lacks_9 : decode cX4_lacks 9 = .ok (.invokevirtual 85, 3) := by decide +kernel
theorem dX4_lacks_12 : decode cX4_lacks 12 = .ok (.ireturn, 1) := by decide +kernel
theorem dX4_lacks_13 : decode cX4_lacks 13 = .ok (.aload_n 0, 1) := by decide +kernel
theorem dX4_lacks_14 : decode cX4_lacks 14 = .ok (.aload_n 0, 1) := by decide +kernel
theorem dX4_lacks_15 : decode cX4_lacks 15 = .ok (.getfield 102, 3) := by decide +kernel
theorem dX4_lacks_18 : decode cX4_lacks 18 = .ok (.invokevirtual 133, 3) := by decide +kernel
theorem dX4_lacks_21 : decode cX4_lacks 21 = .ok (.aload_n 0, 1) := by decide +kernel
theorem dX4_lacks_22 : decode cX4_lacks 22 = .ok (.iload_n 1, 1) := by decide +kernel
theorem dX4_lacks_23 : decode cX4_lacks 23 = .ok (.iconst 0, 1) := by decide +kernel
theorem dX4_lacks_24 : decode cX4_lacks 24 = .ok (.invokevirtual 122, 3) := by decide +kernel
theorem dX4_lacks_27 : decode cX4_lacks 27 = .ok (.iconst 1, 1) := by decide +kernel
theorem dX4_lacks_28 : decode cX4_lacks 28 = .ok (.invokestatic 143, 3) := by decide +kernel
theorem dX4_lacks_31 : decode cX4_lacks 31 = .ok (.iload_n 2, 1) := by decide +kernel
theorem dX4_lacks_32 : decode cX4_lacks 32 = .ok (.ifCond .eq 12, 3) := by decide +kernel
theorem dX4_lacks_35 : decode cX4_lacks 35 = .ok (.aload_n 0, 1) := by decide +kernel
theorem dX4_lacks_36 : decode cX4_lacks 36 = .ok (.getfield 62, 3) := by decide +kernel
theorem dX4_lacks_39 : decode cX4_lacks 39 = .ok (.iload_n 1, 1) := by decide +kernel
theorem dX4_lacks_40 : decode cX4_lacks 40 = .ok (.iaload, 1) := by decide +kernel
theorem dX4_lacks_41 : decode cX4_lacks 41 = .ok (.goto 9, 3) := by decide +kernel
theorem dX4_lacks_44 : decode cX4_lacks 44 = .ok (.aload_n 0, 1) := by decide +kernel
theorem dX4_lacks_45 : decode cX4_lacks 45 = .ok (.getfield 56, 3) := by decide +kernel
theorem dX4_lacks_48 : decode cX4_lacks 48 = .ok (.iload_n 1, 1) := by decide +kernel
theorem dX4_lacks_49 : decode cX4_lacks 49 = .ok (.iaload, 1) := by decide +kernel
theorem dX4_lacks_50 : decode cX4_lacks 50 = .ok (.isub, 1) := by decide +kernel
theorem dX4_lacks_51 : decode cX4_lacks 51 = .ok (.iconst 0, 1) := by decide +kernel
theorem dX4_lacks_52 : decode cX4_lacks 52 = .ok (.invokestatic 143, 3) := by decide +kernel
theorem dX4_lacks_55 : decode cX4_lacks 55 = .ok (.ireturn, 1) := by decide +kernel
theorem hd_X4_lacks : yX4_lacks.cls ≠ "java/lang/invoke/MethodHandle" ∧ yX4_lacks.cls ≠ "java/lang/invoke/VarHandle" ∧ (parseMethodDescriptor yX4_lacks.desc).map (fun d => d.parameters.length) = some 2 := by decide +kernel
def f_X4_lacks (a1 : Int32) (a2 : Int32) (S : vS) : Option (Int32 × vS) := b1 (f_X4_isLand a1 S) fun r2 => if r2 = 0 then b2 (f_X4_no (-1 : Int32) S) fun r19 S18 => some (r19, S18) else b1 (f_X4_findMonths (S 0 2) S) fun S5 => b1 (f_X4_lawOf a1 (0 : Int32) S5) fun r7 => b1 (f_X4_greater r7 (1 : Int32) S5) fun r9 => if a2 = 0 then if inb a1 6 = true then b1 (f_X4_greater (r9 - (S5 15 (a1.toNatClampNeg))) (0 : Int32) S5) fun r13 => some (r13, S5) else none else if inb a1 6 = true then b1 (f_X4_greater (r9 - (S5 17 (a1.toNatClampNeg))) (0 : Int32) S5) fun r16 => some (r16, S5) else none
set_option maxHeartbeats 4000000 in
set_option maxRecDepth 20000 in
theorem c_X4_lacks (l : Launch) (D : va_G) (cI cO : ClassId) (ad : Nat → Nat) (a1 : Int32) (a2 : Int32) (S : vS) (R9 : Int32) (S9 : vS) (hf : f_X4_lacks a1 a2 S = some (R9, S9)) : CI l yX4_lacks cX4_lacks 3 .int ({ frames := 3, cells := 0, slots := 0, locals := 71 }) [.ref (ad 5), .int a1, .int a2] D cI cO ad S R9 S9 := by
  refine CI.of (by decide +kernel) (Nat.le_of_ble_eq_true rfl) (fun p e s m args below meth c Q ls X hl hw hfin => ?_)
  have hl : lv_has ls 3 [(0, .ref (ad 5)), (1, .int a1), (2, .int a2)] := hl
  have hx := X.1
  have hb := X.2.1
  unfold f_X4_lacks at hf
  refine lv_iload_n hx hb dX4_lacks_0 rfl (lv_at hl 1 rfl) ?_
  obtain ⟨r2, h1, hf⟩ := b1_s hf
  refine kSi X hw (c_X4_isLand l D cI cO ad a1 S r2 h1) ⟨rfl, rfl⟩ q705 q706 q64 q707 hd_X4_isLand ⟨Nat.le_of_ble_eq_true rfl, Nat.le_of_ble_eq_true rfl⟩ rfl hl.1 rfl (Nat.le_of_ble_eq_true rfl) dX4_lacks_1 (fun H locs hw => ?_)
  refine lv_if_ne (tgt := 13) hx hb dX4_lacks_4 (by decide) (fun c3 => ?_) (fun c3 => ?_)
  · replace hf := if_f c3 hf
    refine lv_aload_n hx hb dX4_lacks_13 rfl (lv_at hl 0 rfl) ?_
    refine lv_aload_n hx hb dX4_lacks_14 rfl (lv_at hl 0 rfl) ?_
    refine x_get X hw 5 (Nat.le_of_ble_eq_true rfl) ce5 rfl i_X4 15 (by decide) q605 ⟨rfl, rfl, rfl⟩ rfl dX4_lacks_15 ?_
    obtain ⟨S5, h4, hf⟩ := b1_s hf
    refine kVv X hw (c_X4_findMonths l D cI cO ad (S 0 2) S S5 h4) (Nat.le_of_ble_eq_true rfl) ce5 rfl ⟨rfl, rfl⟩ q747 q749 q40 q64 q750 hd_X4_findMonths ⟨Nat.le_of_ble_eq_true rfl, Nat.le_of_ble_eq_true rfl⟩ rfl hl.1 rfl (Nat.le_of_ble_eq_true rfl) dX4_lacks_18 (fun H locs hw => ?_)
    refine lv_aload_n hx hb dX4_lacks_21 rfl (lv_at hl 0 rfl) ?_
    refine lv_iload_n hx hb dX4_lacks_22 rfl (lv_at hl 1 rfl) ?_
    refine lv_iconst (v := 0) hx hb dX4_lacks_23 (by decide) ?_
    obtain ⟨r7, h6, hf⟩ := b1_s hf
    refine kVi X hw (c_X4_lawOf l D cI cO ad a1 (0 : Int32) S5 r7 h6) (Nat.le_of_ble_eq_true rfl) ce5 rfl ⟨rfl, rfl⟩ q751 q753 q41 q64 q754 hd_X4_lawOf ⟨Nat.le_of_ble_eq_true rfl, Nat.le_of_ble_eq_true rfl⟩ rfl hl.1 rfl (Nat.le_of_ble_eq_true rfl) dX4_lacks_24 (fun H locs hw => ?_)
    refine lv_iconst (v := 1) hx hb dX4_lacks_27 (by decide) ?_
    obtain ⟨r9, h8, hf⟩ := b1_s hf
    refine kSi X hw (c_X4_greater l D cI cO ad r7 (1 : Int32) S5 r9 h8) ⟨rfl, rfl⟩ q791 q792 q64 q793 hd_X4_greater ⟨Nat.le_of_ble_eq_true rfl, Nat.le_of_ble_eq_true rfl⟩ rfl hl.1 rfl (Nat.le_of_ble_eq_true rfl) dX4_lacks_28 (fun H locs hw => ?_)
    refine lv_iload_n hx hb dX4_lacks_31 rfl (lv_at hl 2 rfl) ?_
    refine lv_if_eq (tgt := 44) hx hb dX4_lacks_32 (by decide) (fun c10 => ?_) (fun c10 => ?_)
    · replace hf := if_t c10 hf
      refine lv_aload_n hx hb dX4_lacks_44 rfl (lv_at hl 0 rfl) ?_
      refine x_get X hw 5 (Nat.le_of_ble_eq_true rfl) ce5 rfl i_X4 18 (by decide) q608 ⟨rfl, rfl, rfl⟩ rfl dX4_lacks_45 ?_
      refine lv_iload_n hx hb dX4_lacks_48 rfl (lv_at hl 1 rfl) ?_
      obtain ⟨h11, hf⟩ := if_s hf
      refine x_iald X hw 15 ⟨Nat.le_of_ble_eq_true rfl, Nat.le_of_ble_eq_true rfl⟩ rfl h11 (a1.toNatClampNeg) rfl dX4_lacks_49 ?_
      refine lv_isub hx hb dX4_lacks_50 ?_
      refine lv_iconst (v := 0) hx hb dX4_lacks_51 (by decide) ?_
      obtain ⟨r13, h12, hf⟩ := b1_s hf
      refine kSi X hw (c_X4_greater l D cI cO ad (r9 - (S5 15 (a1.toNatClampNeg))) (0 : Int32) S5 r13 h12) ⟨rfl, rfl⟩ q791 q792 q64 q793 hd_X4_greater ⟨Nat.le_of_ble_eq_true rfl, Nat.le_of_ble_eq_true rfl⟩ rfl hl.1 rfl (Nat.le_of_ble_eq_true rfl) dX4_lacks_52 (fun H locs hw => ?_)
      exact hfin _ _ _ _ _ _ hw (s2a hf) (s2b hf) (narI _) dX4_lacks_55
    · replace hf := if_f c10 hf
      refine lv_aload_n hx hb dX4_lacks_35 rfl (lv_at hl 0 rfl) ?_
      refine x_get X hw 5 (Nat.le_of_ble_eq_true rfl) ce5 rfl i_X4 20 (by decide) q610 ⟨rfl, rfl, rfl⟩ rfl dX4_lacks_36 ?_
      refine lv_iload_n hx hb dX4_lacks_39 rfl (lv_at hl 1 rfl) ?_
      obtain ⟨h14, hf⟩ := if_s hf
      refine x_iald X hw 17 ⟨Nat.le_of_ble_eq_true rfl, Nat.le_of_ble_eq_true rfl⟩ rfl h14 (a1.toNatClampNeg) rfl dX4_lacks_40 ?_
      refine lv_goto (tgt := 50) hx hb dX4_lacks_41 (by decide) ?_
      refine lv_isub hx hb dX4_lacks_50 ?_
      refine lv_iconst (v := 0) hx hb dX4_lacks_51 (by decide) ?_
      obtain ⟨r16, h15, hf⟩ := b1_s hf
      refine kSi X hw (c_X4_greater l D cI cO ad (r9 - (S5 17 (a1.toNatClampNeg))) (0 : Int32) S5 r16 h15) ⟨rfl, rfl⟩ q791 q792 q64 q793 hd_X4_greater ⟨Nat.le_of_ble_eq_true rfl, Nat.le_of_ble_eq_true rfl⟩ rfl hl.1 rfl (Nat.le_of_ble_eq_true rfl) dX4_lacks_52 (fun H locs hw => ?_)
      exact hfin _ _ _ _ _ _ hw (s2a hf) (s2b hf) (narI _) dX4_lacks_55
  · replace hf := if_t c3 hf
    refine lv_aload_n hx hb dX4_lacks_7 rfl (lv_at hl 0 rfl) ?_
    refine lv_iconst (v := -1) hx hb dX4_lacks_8 (by decide) ?_
    obtain ⟨r19, S18, h17, hf⟩ := b2_s hf
    refine kVi X hw (c_X4_no l D cI cO ad (-1 : Int32) S r19 S18 h17) (Nat.le_of_ble_eq_true rfl) ce5 rfl ⟨rfl, rfl⟩ q688 q690 q34 q64 q691 hd_X4_no ⟨Nat.le_of_ble_eq_true rfl, Nat.le_of_ble_eq_true rfl⟩ rfl hl.1 rfl (Nat.le_of_ble_eq_true rfl) dX4_lacks_9 (fun H locs hw => ?_)
    exact hfin _ _ _ _ _ _ hw (s2a hf) (s2b hf) (narI _) dX4_lacks_12
/-- NineLandsModel.owed(I)I -/
theorem dX4_owed_0 : decode cX4_owed 0 = .ok (.iload_n 1, 1) := by decide +kernel
theorem dX4_owed_1 : decode cX4_owed 1 = .ok (.invokestatic 105, 3) := by decide +kernel
theorem dX4_owed_4 : decode cX4_owed 4 = .ok (.ifCond .ne 9, 3) := by decide +kernel
theorem dX4_owed_7 : decode cX4_owed 7 = .ok (.aload_n 0, 1) := by decide +kernel
theorem dX4_owed_8 : decode cX4_owed 8 = .ok (.iconst (-1), 1) := by decide +kernel
theorem dX4_owed_9 : decode cX4_owed 9 = .ok (.invokevirtual 85, 3) := by decide +kernel
theorem dX4_owed_12 : decode cX4_owed 12 = .ok (.ireturn, 1) := by decide +kernel
theorem dX4_owed_13 : decode cX4_owed 13 = .ok (.aload_n 0, 1) := by decide +kernel
theorem dX4_owed_14 : decode cX4_owed 14 = .ok (.aload_n 0, 1) := by decide +kernel
theorem dX4_owed_15 : decode cX4_owed 15 = .ok (.getfield 102, 3) := by decide +kernel
theorem dX4_owed_18 : decode cX4_owed 18 = .ok (.invokevirtual 163, 3) := by decide +kernel
theorem dX4_owed_21 : decode cX4_owed 21 = .ok (.aload_n 0, 1) := by decide +kernel
theorem dX4_owed_22 : decode cX4_owed 22 = .ok (.getfield 68, 3) := by decide +kernel
theorem dX4_owed_25 : decode cX4_owed 25 = .ok (.iload_n 1, 1) := by decide +kernel
theorem dX4_owed_26 : decode cX4_owed 26 = .ok (.iaload, 1) := by decide +kernel
theorem dX4_owed_27 : decode cX4_owed 27 = .ok (.ireturn, 1) := by decide +kernel
theorem hd_X4_owed : yX4_owed.cls ≠ "java/lang/invoke/MethodHandle" ∧ yX4_owed.cls ≠ "java/lang/invoke/VarHandle" ∧ (parseMethodDescriptor yX4_owed.desc).map (fun d => d.parameters.length) = some 1 := by decide +kernel
def f_X4_owed (a1 : Int32) (S : vS) : Option (Int32 × vS) := b1 (f_X4_isLand a1 S) fun r2 => if r2 = 0 then b2 (f_X4_no (-1 : Int32) S) fun r9 S8 => some (r9, S8) else b1 (f_X4_finds (S 0 2) S) fun S5 => if inb a1 6 = true then some ((S5 19 (a1.toNatClampNeg)), S5) else none
set_option maxHeartbeats 4000000 in
set_option maxRecDepth 20000 in
theorem c_X4_owed (l : Launch) (D : va_G) (cI cO : ClassId) (ad : Nat → Nat) (a1 : Int32) (S : vS) (R9 : Int32) (S9 : vS) (hf : f_X4_owed a1 S = some (R9, S9)) : CI l yX4_owed cX4_owed 2 .int ({ frames := 5, cells := 0, slots := 0, locals := 114 }) [.ref (ad 5), .int a1] D cI cO ad S R9 S9 := by
  refine CI.of (by decide +kernel) (Nat.le_of_ble_eq_true rfl) (fun p e s m args below meth c Q ls X hl hw hfin => ?_)
  have hl : lv_has ls 2 [(0, .ref (ad 5)), (1, .int a1)] := hl
  have hx := X.1
  have hb := X.2.1
  unfold f_X4_owed at hf
  refine lv_iload_n hx hb dX4_owed_0 rfl (lv_at hl 1 rfl) ?_
  obtain ⟨r2, h1, hf⟩ := b1_s hf
  refine kSi X hw (c_X4_isLand l D cI cO ad a1 S r2 h1) ⟨rfl, rfl⟩ q705 q706 q64 q707 hd_X4_isLand ⟨Nat.le_of_ble_eq_true rfl, Nat.le_of_ble_eq_true rfl⟩ rfl hl.1 rfl (Nat.le_of_ble_eq_true rfl) dX4_owed_1 (fun H locs hw => ?_)
  refine lv_if_ne (tgt := 13) hx hb dX4_owed_4 (by decide) (fun c3 => ?_) (fun c3 => ?_)
  · replace hf := if_f c3 hf
    refine lv_aload_n hx hb dX4_owed_13 rfl (lv_at hl 0 rfl) ?_
    refine lv_aload_n hx hb dX4_owed_14 rfl (lv_at hl 0 rfl) ?_
    refine x_get X hw 5 (Nat.le_of_ble_eq_true rfl) ce5 rfl i_X4 15 (by decide) q605 ⟨rfl, rfl, rfl⟩ rfl dX4_owed_15 ?_
    obtain ⟨S5, h4, hf⟩ := b1_s hf
    refine kVv X hw (c_X4_finds l D cI cO ad (S 0 2) S S5 h4) (Nat.le_of_ble_eq_true rfl) ce5 rfl ⟨rfl, rfl⟩ q806 q808 q49 q64 q809 hd_X4_finds ⟨Nat.le_of_ble_eq_true rfl, Nat.le_of_ble_eq_true rfl⟩ rfl hl.1 rfl (Nat.le_of_ble_eq_true rfl) dX4_owed_18 (fun H locs hw => ?_)
    refine lv_aload_n hx hb dX4_owed_21 rfl (lv_at hl 0 rfl) ?_
    refine x_get X hw 5 (Nat.le_of_ble_eq_true rfl) ce5 rfl i_X4 22 (by decide) q612 ⟨rfl, rfl, rfl⟩ rfl dX4_owed_22 ?_
    refine lv_iload_n hx hb dX4_owed_25 rfl (lv_at hl 1 rfl) ?_
    obtain ⟨h6, hf⟩ := if_s hf
    refine x_iald X hw 19 ⟨Nat.le_of_ble_eq_true rfl, Nat.le_of_ble_eq_true rfl⟩ rfl h6 (a1.toNatClampNeg) rfl dX4_owed_26 ?_
    exact hfin _ _ _ _ _ _ hw (s2a hf) (s2b hf) (narI _) dX4_owed_27
  · replace hf := if_t c3 hf
    refine lv_aload_n hx hb dX4_owed_7 rfl (lv_at hl 0 rfl) ?_
    refine lv_iconst (v := -1) hx hb dX4_owed_8 (by decide) ?_
    obtain ⟨r9, S8, h7, hf⟩ := b2_s hf
    refine kVi X hw (c_X4_no l D cI cO ad (-1 : Int32) S r9 S8 h7) (Nat.le_of_ble_eq_true rfl) ce5 rfl ⟨rfl, rfl⟩ q688 q690 q34 q64 q691 hd_X4_no ⟨Nat.le_of_ble_eq_true rfl, Nat.le_of_ble_eq_true rfl⟩ rfl hl.1 rfl (Nat.le_of_ble_eq_true rfl) dX4_owed_9 (fun H locs hw => ?_)
    exact hfin _ _ _ _ _ _ hw (s2a hf) (s2b hf) (narI _) dX4_owed_12
/-- NineLandsModel.rests()I -/
theorem dX4_rests_0 : decode cX4_rests 0 = .ok (.aload_n 0, 1) := by decide +kernel
theorem dX4_rests_1 : decode cX4_rests 1 = .ok (.aload_n 0, 1) := by decide +kernel
theorem dX4_rests_2 : decode cX4_rests 2 = .ok (.getfield 102, 3) := by decide +kernel
theorem dX4_rests_5 : decode cX4_rests 5 = .ok (.invokevirtual 163, 3) := by decide +kernel
theorem dX4_rests_8 : decode cX4_rests 8 = .ok (.aload_n 0, 1) := by decide +kernel
theorem dX4_rests_9 : decode cX4_rests 9 = .ok (.getfield 152, 3) := by decide +kernel
theorem dX4_rests_12 : decode cX4_rests 12 = .ok (.ifCond .eq 7, 3) := by decide +kernel
theorem dX4_rests_15 : decode cX4_rests 15 = .ok (.iconst 1, 1) := by decide +kernel
theorem dX4_rests_16 : decode cX4_rests 16 = .ok (.goto 4, 3) := by decide +kernel
theorem dX4_rests_19 : decode cX4_rests 19 = .ok (.iconst 0, 1) := by decide +kernel
theorem dX4_rests_20 : decode cX4_rests 20 = .ok (.ireturn, 1) := by decide +kernel
theorem hd_X4_rests : yX4_rests.cls ≠ "java/lang/invoke/MethodHandle" ∧ yX4_rests.cls ≠ "java/lang/invoke/VarHandle" ∧ (parseMethodDescriptor yX4_rests.desc).map (fun d => d.parameters.length) = some 0 := by decide +kernel
def f_X4_rests  (S : vS) : Option (Int32 × vS) := b1 (f_X4_finds (S 0 2) S) fun S2 => if (S2 0 4) = 0 then some ((0 : Int32), S2) else some ((1 : Int32), S2)
set_option maxHeartbeats 4000000 in
set_option maxRecDepth 20000 in
theorem c_X4_rests (l : Launch) (D : va_G) (cI cO : ClassId) (ad : Nat → Nat)  (S : vS) (R9 : Int32) (S9 : vS) (hf : f_X4_rests  S = some (R9, S9)) : CI l yX4_rests cX4_rests 1 .int ({ frames := 5, cells := 0, slots := 0, locals := 114 }) [.ref (ad 5)] D cI cO ad S R9 S9 := by
  refine CI.of (by decide +kernel) (Nat.le_of_ble_eq_true rfl) (fun p e s m args below meth c Q ls X hl hw hfin => ?_)
  have hl : lv_has ls 1 [(0, .ref (ad 5))] := hl
  have hx := X.1
  have hb := X.2.1
  unfold f_X4_rests at hf
  refine lv_aload_n hx hb dX4_rests_0 rfl (lv_at hl 0 rfl) ?_
  refine lv_aload_n hx hb dX4_rests_1 rfl (lv_at hl 0 rfl) ?_
  refine x_get X hw 5 (Nat.le_of_ble_eq_true rfl) ce5 rfl i_X4 15 (by decide) q605 ⟨rfl, rfl, rfl⟩ rfl dX4_rests_2 ?_
  obtain ⟨S2, h1, hf⟩ := b1_s hf
  refine kVv X hw (c_X4_finds l D cI cO ad (S 0 2) S S2 h1) (Nat.le_of_ble_eq_true rfl) ce5 rfl ⟨rfl, rfl⟩ q806 q808 q49 q64 q809 hd_X4_finds ⟨Nat.le_of_ble_eq_true rfl, Nat.le_of_ble_eq_true rfl⟩ rfl hl.1 rfl (Nat.le_of_ble_eq_true rfl) dX4_rests_5 (fun H locs hw => ?_)
  refine lv_aload_n hx hb dX4_rests_8 rfl (lv_at hl 0 rfl) ?_
  refine x_get X hw 5 (Nat.le_of_ble_eq_true rfl) ce5 rfl i_X4 23 (by decide) q613 ⟨rfl, rfl, rfl⟩ rfl dX4_rests_9 ?_
  refine lv_if_eq (tgt := 19) hx hb dX4_rests_12 (by decide) (fun c3 => ?_) (fun c3 => ?_)
  · replace hf := if_t c3 hf
    refine lv_iconst (v := 0) hx hb dX4_rests_19 (by decide) ?_
    exact hfin _ _ _ _ _ _ hw (s2a hf) (s2b hf) (narI _) dX4_rests_20
  · replace hf := if_f c3 hf
    refine lv_iconst (v := 1) hx hb dX4_rests_15 (by decide) ?_
    refine lv_goto (tgt := 20) hx hb dX4_rests_16 (by decide) ?_
    exact hfin _ _ _ _ _ _ hw (s2a hf) (s2b hf) (narI _) dX4_rests_20
/-- NineLandsModel.all()I -/
theorem dX4_all_0 : decode cX4_all 0 = .ok (.aload_n 0, 1) := by decide +kernel
theorem dX4_all_1 : decode cX4_all 1 = .ok (.aload_n 0, 1) := by decide +kernel
theorem dX4_all_2 : decode cX4_all 2 = .ok (.getfield 102, 3) := by decide +kernel
theorem dX4_all_5 : decode cX4_all 5 = .ok (.invokevirtual 163, 3) := by decide +kernel
theorem dX4_all_8 : decode cX4_all 8 = .ok (.aload_n 0, 1) := by decide +kernel
theorem dX4_all_9 : decode cX4_all 9 = .ok (.aload_n 0, 1) := by decide +kernel
theorem dX4_all_10 : decode cX4_all 10 = .ok (.getfield 68, 3) := by decide +kernel
theorem dX4_all_13 : decode cX4_all 13 = .ok (.invokevirtual 156, 3) := by decide +kernel
theorem dX4_all_16 : decode cX4_all 16 = .ok (.ireturn, 1) := by decide +kernel
theorem hd_X4_all : yX4_all.cls ≠ "java/lang/invoke/MethodHandle" ∧ yX4_all.cls ≠ "java/lang/invoke/VarHandle" ∧ (parseMethodDescriptor yX4_all.desc).map (fun d => d.parameters.length) = some 0 := by decide +kernel
def f_X4_all  (S : vS) : Option (Int32 × vS) := b1 (f_X4_finds (S 0 2) S) fun S2 => b1 (f_X4_sumOf 19 S2) fun r4 => some (r4, S2)
set_option maxHeartbeats 4000000 in
set_option maxRecDepth 20000 in
theorem c_X4_all (l : Launch) (D : va_G) (cI cO : ClassId) (ad : Nat → Nat)  (S : vS) (R9 : Int32) (S9 : vS) (hf : f_X4_all  S = some (R9, S9)) : CI l yX4_all cX4_all 1 .int ({ frames := 5, cells := 0, slots := 0, locals := 114 }) [.ref (ad 5)] D cI cO ad S R9 S9 := by
  refine CI.of (by decide +kernel) (Nat.le_of_ble_eq_true rfl) (fun p e s m args below meth c Q ls X hl hw hfin => ?_)
  have hl : lv_has ls 1 [(0, .ref (ad 5))] := hl
  have hx := X.1
  have hb := X.2.1
  unfold f_X4_all at hf
  refine lv_aload_n hx hb dX4_all_0 rfl (lv_at hl 0 rfl) ?_
  refine lv_aload_n hx hb dX4_all_1 rfl (lv_at hl 0 rfl) ?_
  refine x_get X hw 5 (Nat.le_of_ble_eq_true rfl) ce5 rfl i_X4 15 (by decide) q605 ⟨rfl, rfl, rfl⟩ rfl dX4_all_2 ?_
  obtain ⟨S2, h1, hf⟩ := b1_s hf
  refine kVv X hw (c_X4_finds l D cI cO ad (S 0 2) S S2 h1) (Nat.le_of_ble_eq_true rfl) ce5 rfl ⟨rfl, rfl⟩ q806 q808 q49 q64 q809 hd_X4_finds ⟨Nat.le_of_ble_eq_true rfl, Nat.le_of_ble_eq_true rfl⟩ rfl hl.1 rfl (Nat.le_of_ble_eq_true rfl) dX4_all_5 (fun H locs hw => ?_)
  refine lv_aload_n hx hb dX4_all_8 rfl (lv_at hl 0 rfl) ?_
  refine lv_aload_n hx hb dX4_all_9 rfl (lv_at hl 0 rfl) ?_
  refine x_get X hw 5 (Nat.le_of_ble_eq_true rfl) ce5 rfl i_X4 22 (by decide) q612 ⟨rfl, rfl, rfl⟩ rfl dX4_all_10 ?_
  obtain ⟨r4, h3, hf⟩ := b1_s hf
  refine kVi X hw (c_X4_sumOf l D cI cO ad 19 S2 r4 h3) (Nat.le_of_ble_eq_true rfl) ce5 rfl ⟨rfl, rfl⟩ q810 q812 q50 q64 q813 hd_X4_sumOf ⟨Nat.le_of_ble_eq_true rfl, Nat.le_of_ble_eq_true rfl⟩ rfl hl.1 rfl (Nat.le_of_ble_eq_true rfl) dX4_all_13 (fun H locs hw => ?_)
  exact hfin _ _ _ _ _ _ hw (s2a hf) (s2b hf) (narI _) dX4_all_16
/-- NineLandsModel.paid(III)I -/
theorem dX4_paid_0 : decode cX4_paid 0 = .ok (.aload_n 0, 1) := by decide +kernel
theorem dX4_paid_1 : decode cX4_paid 1 = .ok (.getfield 68, 3) := by decide +kernel
theorem dX4_paid_4 : decode cX4_paid 4 = .ok (.iload_n 1, 1) := by decide +kernel
theorem dX4_paid_5 : decode cX4_paid 5 = .ok (.iaload, 1) := by decide +kernel
theorem dX4_paid_6 : decode cX4_paid 6 = .ok (.bipush 100, 2) := by decide +kernel
theorem dX4_paid_8 : decode cX4_paid 8 = .ok (.aload_n 0, 1) := by decide +kernel
theorem dX4_paid_9 : decode cX4_paid 9 = .ok (.iload_n 1, 1) := by decide +kernel
theorem dX4_paid_10 : decode cX4_paid 10 = .ok (.bipush 7, 2) := by decide +kernel
theorem dX4_paid_12 : decode cX4_paid 12 = .ok (.invokevirtual 122, 3) := by decide +kernel
theorem dX4_paid_15 : decode cX4_paid 15 = .ok (.iload_n 2, 1) := by decide +kernel
theorem dX4_paid_16 : decode cX4_paid 16 = .ok (.aload_n 0, 1) := by decide +kernel
theorem dX4_paid_17 : decode cX4_paid 17 = .ok (.iload_n 1, 1) := by decide +kernel
theorem dX4_paid_18 : decode cX4_paid 18 = .ok (.iconst 1, 1) := by decide +kernel
theorem dX4_paid_19 : decode cX4_paid 19 = .ok (.invokevirtual 122, 3) := by decide +kernel
theorem dX4_paid_22 : decode cX4_paid 22 = .ok (.isub, 1) := by decide +kernel
theorem dX4_paid_23 : decode cX4_paid 23 = .ok (.bipush 12, 2) := by decide +kernel
theorem dX4_paid_25 : decode cX4_paid 25 = .ok (.idiv, 1) := by decide +kernel
theorem dX4_paid_26 : decode cX4_paid 26 = .ok (.imul, 1) := by decide +kernel
theorem dX4_paid_27 : decode cX4_paid 27 = .ok (.iadd, 1) := by decide +kernel
theorem dX4_paid_28 : decode cX4_paid 28 = .ok (.imul, 1) := by decide +kernel
theorem dX4_paid_29 : decode cX4_paid 29 = .ok (.bipush 100, 2) := by decide +kernel
theorem dX4_paid_31 : decode cX4_paid 31 = .ok (.idiv, 1) := by decide +kernel
theorem dX4_paid_32 : decode cX4_paid 32 = .ok (.istore 4, 2) := by decide +kernel
theorem dX4_paid_34 : decode cX4_paid 34 = .ok (.iload_n 3, 1) := by decide +kernel
theorem dX4_paid_35 : decode cX4_paid 35 = .ok (.iload_n 2, 1) := by decide +kernel
theorem dX4_paid_36 : decode cX4_paid 36 = .ok (.if_icmp .ge 7, 3) := by decide +kernel
theorem dX4_paid_39 : decode cX4_paid 39 = .ok (.iconst 0, 1) := by decide +kernel
theorem dX4_paid_40 : decode cX4_paid 40 = .ok (.goto 11, 3) := by decide +kernel
theorem dX4_paid_43 : decode cX4_paid 43 = .ok (.iload 4, 2) := by decide +kernel
theorem dX4_paid_45 : decode cX4_paid 45 = .ok (.iload_n 3, 1) := by decide +kernel
theorem dX4_paid_46 : decode cX4_paid 46 = .ok (.iload_n 2, 1) := by decide +kernel
theorem dX4_paid_47 : decode cX4_paid 47 = .ok (.isub, 1) := by decide +kernel
theorem dX4_paid_48 : decode cX4_paid 48 = .ok (.iconst 1, 1) := by decide +kernel
theorem dX4_paid_49 : decode cX4_paid 49 = .ok (.iadd, 1) := by decide +kernel
theorem dX4_paid_50 : decode cX4_paid 50 = .ok (.imul, 1) := by decide +kernel
theorem dX4_paid_51 : decode cX4_paid 51 = .ok (.ireturn, 1) := by decide +kernel
theorem hd_X4_paid : yX4_paid.cls ≠ "java/lang/invoke/MethodHandle" ∧ yX4_paid.cls ≠ "java/lang/invoke/VarHandle" ∧ (parseMethodDescriptor yX4_paid.desc).map (fun d => d.parameters.length) = some 3 := by decide +kernel
def f_X4_paid (a1 : Int32) (a2 : Int32) (a3 : Int32) (S : vS) : Option Int32 := if inb a1 6 = true then b1 (f_X4_lawOf a1 (7 : Int32) S) fun r3 => b1 (f_X4_lawOf a1 (1 : Int32) S) fun r5 => lt ((((S 19 (a1.toNatClampNeg)) * ((100 : Int32) + (r3 * ((a2 - r5) / (12 : Int32))))) / (100 : Int32))) fun v6 => if a2 ≤ a3 then some (v6 * ((a3 - a2) + (1 : Int32))) else some (0 : Int32) else none
set_option maxHeartbeats 4000000 in
set_option maxRecDepth 20000 in
theorem c_X4_paid (l : Launch) (D : va_G) (cI cO : ClassId) (ad : Nat → Nat) (a1 : Int32) (a2 : Int32) (a3 : Int32) (S : vS) (R9 : Int32) (hf : f_X4_paid a1 a2 a3 S = some R9) : CI l yX4_paid cX4_paid 5 .int ({ frames := 1, cells := 0, slots := 0, locals := 22 }) [.ref (ad 5), .int a1, .int a2, .int a3] D cI cO ad S R9 S := by
  refine CI.of (by decide +kernel) (Nat.le_of_ble_eq_true rfl) (fun p e s m args below meth c Q ls X hl hw hfin => ?_)
  have hl : lv_has ls 5 [(0, .ref (ad 5)), (1, .int a1), (2, .int a2), (3, .int a3)] := hl
  have hx := X.1
  have hb := X.2.1
  unfold f_X4_paid at hf
  refine lv_aload_n hx hb dX4_paid_0 rfl (lv_at hl 0 rfl) ?_
  refine x_get X hw 5 (Nat.le_of_ble_eq_true rfl) ce5 rfl i_X4 22 (by decide) q612 ⟨rfl, rfl, rfl⟩ rfl dX4_paid_1 ?_
  refine lv_iload_n hx hb dX4_paid_4 rfl (lv_at hl 1 rfl) ?_
  obtain ⟨h1, hf⟩ := if_s hf
  refine x_iald X hw 19 ⟨Nat.le_of_ble_eq_true rfl, Nat.le_of_ble_eq_true rfl⟩ rfl h1 (a1.toNatClampNeg) rfl dX4_paid_5 ?_
  refine lv_bipush (v := 100) hx hb dX4_paid_6 (by decide +kernel) ?_
  refine lv_aload_n hx hb dX4_paid_8 rfl (lv_at hl 0 rfl) ?_
  refine lv_iload_n hx hb dX4_paid_9 rfl (lv_at hl 1 rfl) ?_
  refine lv_bipush (v := 7) hx hb dX4_paid_10 (by decide +kernel) ?_
  obtain ⟨r3, h2, hf⟩ := b1_s hf
  refine kVi X hw (c_X4_lawOf l D cI cO ad a1 (7 : Int32) S r3 h2) (Nat.le_of_ble_eq_true rfl) ce5 rfl ⟨rfl, rfl⟩ q751 q753 q41 q64 q754 hd_X4_lawOf ⟨Nat.le_of_ble_eq_true rfl, Nat.le_of_ble_eq_true rfl⟩ rfl hl.1 rfl (Nat.le_of_ble_eq_true rfl) dX4_paid_12 (fun H locs hw => ?_)
  refine lv_iload_n hx hb dX4_paid_15 rfl (lv_at hl 2 rfl) ?_
  refine lv_aload_n hx hb dX4_paid_16 rfl (lv_at hl 0 rfl) ?_
  refine lv_iload_n hx hb dX4_paid_17 rfl (lv_at hl 1 rfl) ?_
  refine lv_iconst (v := 1) hx hb dX4_paid_18 (by decide) ?_
  obtain ⟨r5, h4, hf⟩ := b1_s hf
  refine kVi X hw (c_X4_lawOf l D cI cO ad a1 (1 : Int32) S r5 h4) (Nat.le_of_ble_eq_true rfl) ce5 rfl ⟨rfl, rfl⟩ q751 q753 q41 q64 q754 hd_X4_lawOf ⟨Nat.le_of_ble_eq_true rfl, Nat.le_of_ble_eq_true rfl⟩ rfl hl.1 rfl (Nat.le_of_ble_eq_true rfl) dX4_paid_19 (fun H locs hw => ?_)
  refine lv_isub hx hb dX4_paid_22 ?_
  refine lv_bipush (v := 12) hx hb dX4_paid_23 (by decide +kernel) ?_
  refine lv_idiv hx hb dX4_paid_25 (by decide) ?_
  refine lv_imul hx hb dX4_paid_26 ?_
  refine lv_iadd hx hb dX4_paid_27 ?_
  refine lv_imul hx hb dX4_paid_28 ?_
  refine lv_bipush (v := 100) hx hb dX4_paid_29 (by decide +kernel) ?_
  refine lv_idiv hx hb dX4_paid_31 (by decide) ?_
  refine lv_topi (fun v6 ev6 => ?_)
  replace hf := lt_e ev6 hf
  refine lv_istore (lv' := [(4, .int v6), (0, .ref (ad 5)), (1, .int a1), (2, .int a2), (3, .int a3)]) hx hb dX4_paid_32 hl (by decide) rfl (fun ls hl => ?_)
  refine lv_iload_n hx hb dX4_paid_34 rfl (lv_at hl 4 rfl) ?_
  refine lv_iload_n hx hb dX4_paid_35 rfl (lv_at hl 3 rfl) ?_
  refine lv_icmp_ge (tgt := 43) hx hb dX4_paid_36 (by decide) (fun c7 => ?_) (fun c7 => ?_)
  · replace hf := if_t c7 hf
    refine lv_iload hx hb dX4_paid_43 (lv_at hl 0 rfl) ?_
    refine lv_iload_n hx hb dX4_paid_45 rfl (lv_at hl 4 rfl) ?_
    refine lv_iload_n hx hb dX4_paid_46 rfl (lv_at hl 3 rfl) ?_
    refine lv_isub hx hb dX4_paid_47 ?_
    refine lv_iconst (v := 1) hx hb dX4_paid_48 (by decide) ?_
    refine lv_iadd hx hb dX4_paid_49 ?_
    refine lv_imul hx hb dX4_paid_50 ?_
    exact hfin _ _ _ _ _ _ hw (Option.some.inj hf) rfl (narI _) dX4_paid_51
  · replace hf := if_f c7 hf
    refine lv_iconst (v := 0) hx hb dX4_paid_39 (by decide) ?_
    refine lv_goto (tgt := 51) hx hb dX4_paid_40 (by decide) ?_
    exact hfin _ _ _ _ _ _ hw (Option.some.inj hf) rfl (narI _) dX4_paid_51
/-- NineLandsModel.asks(III)I -/
theorem dX4_asks_0 : decode cX4_asks 0 = .ok (.iload_n 1, 1) := by decide +kernel
theorem dX4_asks_1 : decode cX4_asks 1 = .ok (.invokestatic 105, 3) := by decide +kernel
theorem dX4_asks_4 : decode cX4_asks 4 = .ok (.ifCond .ne 9, 3) := by decide +kernel
theorem dX4_asks_7 : decode cX4_asks 7 = .ok (.aload_n 0, 1) := by decide +kernel
theorem dX4_asks_8 : decode cX4_asks 8 = .ok (.iconst (-1), 1) := by decide +kernel
theorem dX4_asks_9 : decode cX4_asks 9 = .ok (.invokevirtual 85, 3) := by decide +kernel
theorem dX4_asks_12 : decode cX4_asks 12 = .ok (.ireturn, 1) := by decide +kernel
theorem dX4_asks_13 : decode cX4_asks 13 = .ok (.iload_n 2, 1) := by decide +kernel
theorem dX4_asks_14 : decode cX4_asks 14 = .ok (.aload_n 0, 1) := by decide +kernel
theorem dX4_asks_15 : decode cX4_asks 15 = .ok (.iload_n 1, 1) := by decide +kernel
theorem dX4_asks_16 : decode cX4_asks 16 = .ok (.iconst 1, 1) := by decide +kernel
theorem dX4_asks_17 : decode cX4_asks 17 = .ok (.invokevirtual 122, 3) := by decide +kernel
theorem dX4_asks_20 : decode cX4_asks 20 = .ok (.if_icmp .lt 7, 3) := by decide +kernel
theorem dX4_asks_23 : decode cX4_asks 23 = .ok (.iload_n 3, 1) := by decide +kernel
theorem dX4_asks_24 : decode cX4_asks 24 = .ok (.ifCond .ge 8, 3) := by decide +kernel
theorem dX4_asks_27 : decode cX4_asks 27 = .ok (.bipush (-4), 2) := by decide +kernel
theorem dX4_asks_29 : decode cX4_asks 29 = .ok (.goto 23, 3) := by decide +kernel
theorem dX4_asks_32 : decode cX4_asks 32 = .ok (.iload_n 2, 1) := by decide +kernel
theorem dX4_asks_33 : decode cX4_asks 33 = .ok (.sipush 900, 3) := by decide +kernel
theorem dX4_asks_36 : decode cX4_asks 36 = .ok (.if_icmp .gt 10, 3) := by decide +kernel
theorem dX4_asks_39 : decode cX4_asks 39 = .ok (.iload_n 3, 1) := by decide +kernel
theorem dX4_asks_40 : decode cX4_asks 40 = .ok (.sipush 1200, 3) := by decide +kernel
theorem dX4_asks_43 : decode cX4_asks 43 = .ok (.if_icmp .le 8, 3) := by decide +kernel
theorem dX4_asks_46 : decode cX4_asks 46 = .ok (.bipush (-6), 2) := by decide +kernel
theorem dX4_asks_48 : decode cX4_asks 48 = .ok (.goto 4, 3) := by decide +kernel
theorem dX4_asks_51 : decode cX4_asks 51 = .ok (.iconst 0, 1) := by decide +kernel
theorem dX4_asks_52 : decode cX4_asks 52 = .ok (.istore 4, 2) := by decide +kernel
theorem dX4_asks_54 : decode cX4_asks 54 = .ok (.iload 4, 2) := by decide +kernel
theorem dX4_asks_56 : decode cX4_asks 56 = .ok (.ifCond .eq 10, 3) := by decide +kernel
theorem dX4_asks_59 : decode cX4_asks 59 = .ok (.aload_n 0, 1) := by decide +kernel
theorem dX4_asks_60 : decode cX4_asks 60 = .ok (.iload 4, 2) := by decide +kernel
theorem dX4_asks_62 : decode cX4_asks 62 = .ok (.invokevirtual 85, 3) := by decide +kernel
theorem dX4_asks_65 : decode cX4_asks 65 = .ok (.ireturn, 1) := by decide +kernel
theorem dX4_asks_66 : decode cX4_asks 66 = .ok (.aload_n 0, 1) := by decide +kernel
theorem dX4_asks_67 : decode cX4_asks 67 = .ok (.aload_n 0, 1) := by decide +kernel
theorem dX4_asks_68 : decode cX4_asks 68 = .ok (.getfield 102, 3) := by decide +kernel
theorem dX4_asks_71 : decode cX4_asks 71 = .ok (.invokevirtual 163, 3) := by decide +kernel
theorem dX4_asks_74 : decode cX4_asks 74 = .ok (.aload_n 0, 1) := by decide +kernel
theorem dX4_asks_75 : decode cX4_asks 75 = .ok (.iload_n 1, 1) := by decide +kernel
theorem dX4_asks_76 : decode cX4_asks 76 = .ok (.iload_n 2, 1) := by decide +kernel
theorem dX4_asks_77 : decode cX4_asks 77 = .ok (.iload_n 3, 1) := by decide +kernel
theorem dX4_asks_78 : decode cX4_asks 78 = .ok (.invokevirtual 166, 3) := by decide +kernel
theorem dX4_asks_81 : decode cX4_asks 81 = .ok (.ireturn, 1) := by decide +kernel
theorem hd_X4_asks : yX4_asks.cls ≠ "java/lang/invoke/MethodHandle" ∧ yX4_asks.cls ≠ "java/lang/invoke/VarHandle" ∧ (parseMethodDescriptor yX4_asks.desc).map (fun d => d.parameters.length) = some 3 := by decide +kernel
def f_X4_asks_J52 (x1 : Int32) (x2 : Int32) (x3 : Int32) (k0 : Int32) (S : vS) : Option (Int32 × vS) := if k0 = 0 then b1 (f_X4_finds (S 0 2) S) fun S9 => b1 (f_X4_paid x1 x2 x3 S9) fun r11 => some (r11, S9) else b2 (f_X4_no k0 S) fun r14 S13 => some (r14, S13)
def f_X4_asks_J27 (x1 : Int32) (x2 : Int32) (x3 : Int32) (S : vS) : Option (Int32 × vS) := f_X4_asks_J52 x1 x2 x3 (-4 : Int32) S
def f_X4_asks_J46 (x1 : Int32) (x2 : Int32) (x3 : Int32) (S : vS) : Option (Int32 × vS) := f_X4_asks_J52 x1 x2 x3 (-6 : Int32) S
def f_X4_asks (a1 : Int32) (a2 : Int32) (a3 : Int32) (S : vS) : Option (Int32 × vS) := b1 (f_X4_isLand a1 S) fun r2 => if r2 = 0 then b2 (f_X4_no (-1 : Int32) S) fun r20 S19 => some (r20, S19) else b1 (f_X4_lawOf a1 (1 : Int32) S) fun r5 => if a2 < r5 then f_X4_asks_J27 a1 a2 a3 S else if 0 ≤ a3 then if (900 : Int32) < a2 then f_X4_asks_J46 a1 a2 a3 S else if a3 ≤ (1200 : Int32) then f_X4_asks_J52 a1 a2 a3 (0 : Int32) S else f_X4_asks_J46 a1 a2 a3 S else f_X4_asks_J27 a1 a2 a3 S
set_option maxHeartbeats 4000000 in
set_option maxRecDepth 20000 in
theorem c_X4_asks (l : Launch) (D : va_G) (cI cO : ClassId) (ad : Nat → Nat) (a1 : Int32) (a2 : Int32) (a3 : Int32) (S : vS) (R9 : Int32) (S9 : vS) (hf : f_X4_asks a1 a2 a3 S = some (R9, S9)) : CI l yX4_asks cX4_asks 5 .int ({ frames := 5, cells := 0, slots := 0, locals := 114 }) [.ref (ad 5), .int a1, .int a2, .int a3] D cI cO ad S R9 S9 := by
  refine CI.of (by decide +kernel) (Nat.le_of_ble_eq_true rfl) (fun p e s m args below meth c Q ls X hl hw hfin => ?_)
  have hl : lv_has ls 5 [(0, .ref (ad 5)), (1, .int a1), (2, .int a2), (3, .int a3)] := hl
  have hx := X.1
  have hb := X.2.1
  have J52 : ∀ (x1 : Int32) (x2 : Int32) (x3 : Int32) (k0 : Int32) (S : vS), f_X4_asks_J52 x1 x2 x3 k0 S = some (R9, S9) → ∀ (H : Heap) (locs : List Loc) (ls : Array Slot), WD D cI cO ad s S H locs → lv_has ls 5 [(0, .ref (ad 5)), (1, .int x1), (2, .int x2), (3, .int x3)] → W p l e ({ frames := 5, cells := 0, slots := 0, locals := 114 }) s m args below meth c H locs 0 0 Q (F0 m 52 ls [.int k0]) := by
    intro x1 x2 x3 k0 S hf H locs ls hw hl
    unfold f_X4_asks_J52 at hf
    refine lv_istore (lv' := [(4, .int k0), (0, .ref (ad 5)), (1, .int x1), (2, .int x2), (3, .int x3)]) hx hb dX4_asks_52 hl (by decide) rfl (fun ls hl => ?_)
    refine lv_iload hx hb dX4_asks_54 (lv_at hl 0 rfl) ?_
    refine lv_if_eq (tgt := 66) hx hb dX4_asks_56 (by decide) (fun c7 => ?_) (fun c7 => ?_)
    · replace hf := if_t c7 hf
      refine lv_aload_n hx hb dX4_asks_66 rfl (lv_at hl 1 rfl) ?_
      refine lv_aload_n hx hb dX4_asks_67 rfl (lv_at hl 1 rfl) ?_
      refine x_get X hw 5 (Nat.le_of_ble_eq_true rfl) ce5 rfl i_X4 15 (by decide) q605 ⟨rfl, rfl, rfl⟩ rfl dX4_asks_68 ?_
      obtain ⟨S9, h8, hf⟩ := b1_s hf
      refine kVv X hw (c_X4_finds l D cI cO ad (S 0 2) S S9 h8) (Nat.le_of_ble_eq_true rfl) ce5 rfl ⟨rfl, rfl⟩ q806 q808 q49 q64 q809 hd_X4_finds ⟨Nat.le_of_ble_eq_true rfl, Nat.le_of_ble_eq_true rfl⟩ rfl hl.1 rfl (Nat.le_of_ble_eq_true rfl) dX4_asks_71 (fun H locs hw => ?_)
      refine lv_aload_n hx hb dX4_asks_74 rfl (lv_at hl 1 rfl) ?_
      refine lv_iload_n hx hb dX4_asks_75 rfl (lv_at hl 2 rfl) ?_
      refine lv_iload_n hx hb dX4_asks_76 rfl (lv_at hl 3 rfl) ?_
      refine lv_iload_n hx hb dX4_asks_77 rfl (lv_at hl 4 rfl) ?_
      obtain ⟨r11, h10, hf⟩ := b1_s hf
      refine kVi X hw (c_X4_paid l D cI cO ad x1 x2 x3 S9 r11 h10) (Nat.le_of_ble_eq_true rfl) ce5 rfl ⟨rfl, rfl⟩ q826 q828 q51 q64 q829 hd_X4_paid ⟨Nat.le_of_ble_eq_true rfl, Nat.le_of_ble_eq_true rfl⟩ rfl hl.1 rfl (Nat.le_of_ble_eq_true rfl) dX4_asks_78 (fun H locs hw => ?_)
      exact hfin _ _ _ _ _ _ hw (s2a hf) (s2b hf) (narI _) dX4_asks_81
    · replace hf := if_f c7 hf
      refine lv_aload_n hx hb dX4_asks_59 rfl (lv_at hl 1 rfl) ?_
      refine lv_iload hx hb dX4_asks_60 (lv_at hl 0 rfl) ?_
      obtain ⟨r14, S13, h12, hf⟩ := b2_s hf
      refine kVi X hw (c_X4_no l D cI cO ad k0 S r14 S13 h12) (Nat.le_of_ble_eq_true rfl) ce5 rfl ⟨rfl, rfl⟩ q688 q690 q34 q64 q691 hd_X4_no ⟨Nat.le_of_ble_eq_true rfl, Nat.le_of_ble_eq_true rfl⟩ rfl hl.1 rfl (Nat.le_of_ble_eq_true rfl) dX4_asks_62 (fun H locs hw => ?_)
      exact hfin _ _ _ _ _ _ hw (s2a hf) (s2b hf) (narI _) dX4_asks_65
  have J46 : ∀ (x1 : Int32) (x2 : Int32) (x3 : Int32) (S : vS), f_X4_asks_J46 x1 x2 x3 S = some (R9, S9) → ∀ (H : Heap) (locs : List Loc) (ls : Array Slot), WD D cI cO ad s S H locs → lv_has ls 5 [(0, .ref (ad 5)), (1, .int x1), (2, .int x2), (3, .int x3)] → W p l e ({ frames := 5, cells := 0, slots := 0, locals := 114 }) s m args below meth c H locs 0 0 Q (F0 m 46 ls []) := by
    intro x1 x2 x3 S hf H locs ls hw hl
    unfold f_X4_asks_J46 at hf
    refine lv_bipush (v := -6) hx hb dX4_asks_46 (by decide +kernel) ?_
    refine lv_goto (tgt := 52) hx hb dX4_asks_48 (by decide) ?_
    exact J52 x1 x2 x3 (-6 : Int32) S hf _ _ _ hw hl
  have J27 : ∀ (x1 : Int32) (x2 : Int32) (x3 : Int32) (S : vS), f_X4_asks_J27 x1 x2 x3 S = some (R9, S9) → ∀ (H : Heap) (locs : List Loc) (ls : Array Slot), WD D cI cO ad s S H locs → lv_has ls 5 [(0, .ref (ad 5)), (1, .int x1), (2, .int x2), (3, .int x3)] → W p l e ({ frames := 5, cells := 0, slots := 0, locals := 114 }) s m args below meth c H locs 0 0 Q (F0 m 27 ls []) := by
    intro x1 x2 x3 S hf H locs ls hw hl
    unfold f_X4_asks_J27 at hf
    refine lv_bipush (v := -4) hx hb dX4_asks_27 (by decide +kernel) ?_
    refine lv_goto (tgt := 52) hx hb dX4_asks_29 (by decide) ?_
    exact J52 x1 x2 x3 (-4 : Int32) S hf _ _ _ hw hl
  unfold f_X4_asks at hf
  refine lv_iload_n hx hb dX4_asks_0 rfl (lv_at hl 1 rfl) ?_
  obtain ⟨r2, h1, hf⟩ := b1_s hf
  refine kSi X hw (c_X4_isLand l D cI cO ad a1 S r2 h1) ⟨rfl, rfl⟩ q705 q706 q64 q707 hd_X4_isLand ⟨Nat.le_of_ble_eq_true rfl, Nat.le_of_ble_eq_true rfl⟩ rfl hl.1 rfl (Nat.le_of_ble_eq_true rfl) dX4_asks_1 (fun H locs hw => ?_)
  refine lv_if_ne (tgt := 13) hx hb dX4_asks_4 (by decide) (fun c3 => ?_) (fun c3 => ?_)
  · replace hf := if_f c3 hf
    refine lv_iload_n hx hb dX4_asks_13 rfl (lv_at hl 2 rfl) ?_
    refine lv_aload_n hx hb dX4_asks_14 rfl (lv_at hl 0 rfl) ?_
    refine lv_iload_n hx hb dX4_asks_15 rfl (lv_at hl 1 rfl) ?_
    refine lv_iconst (v := 1) hx hb dX4_asks_16 (by decide) ?_
    obtain ⟨r5, h4, hf⟩ := b1_s hf
    refine kVi X hw (c_X4_lawOf l D cI cO ad a1 (1 : Int32) S r5 h4) (Nat.le_of_ble_eq_true rfl) ce5 rfl ⟨rfl, rfl⟩ q751 q753 q41 q64 q754 hd_X4_lawOf ⟨Nat.le_of_ble_eq_true rfl, Nat.le_of_ble_eq_true rfl⟩ rfl hl.1 rfl (Nat.le_of_ble_eq_true rfl) dX4_asks_17 (fun H locs hw => ?_)
    refine lv_icmp_lt (tgt := 27) hx hb dX4_asks_20 (by decide) (fun c6 => ?_) (fun c6 => ?_)
    · replace hf := if_t c6 hf
      exact J27 a1 a2 a3 S hf _ _ _ hw hl
    · replace hf := if_f c6 hf
      refine lv_iload_n hx hb dX4_asks_23 rfl (lv_at hl 3 rfl) ?_
      refine lv_if_ge (tgt := 32) hx hb dX4_asks_24 (by decide) (fun c15 => ?_) (fun c15 => ?_)
      · replace hf := if_t c15 hf
        refine lv_iload_n hx hb dX4_asks_32 rfl (lv_at hl 2 rfl) ?_
        refine lv_sipush (v := 900) hx hb dX4_asks_33 (by decide +kernel) ?_
        refine lv_icmp_gt (tgt := 46) hx hb dX4_asks_36 (by decide) (fun c16 => ?_) (fun c16 => ?_)
        · replace hf := if_t c16 hf
          exact J46 a1 a2 a3 S hf _ _ _ hw hl
        · replace hf := if_f c16 hf
          refine lv_iload_n hx hb dX4_asks_39 rfl (lv_at hl 3 rfl) ?_
          refine lv_sipush (v := 1200) hx hb dX4_asks_40 (by decide +kernel) ?_
          refine lv_icmp_le (tgt := 51) hx hb dX4_asks_43 (by decide) (fun c17 => ?_) (fun c17 => ?_)
          · replace hf := if_t c17 hf
            refine lv_iconst (v := 0) hx hb dX4_asks_51 (by decide) ?_
            exact J52 a1 a2 a3 (0 : Int32) S hf _ _ _ hw hl
          · replace hf := if_f c17 hf
            exact J46 a1 a2 a3 S hf _ _ _ hw hl
      · replace hf := if_f c15 hf
        exact J27 a1 a2 a3 S hf _ _ _ hw hl
  · replace hf := if_t c3 hf
    refine lv_aload_n hx hb dX4_asks_7 rfl (lv_at hl 0 rfl) ?_
    refine lv_iconst (v := -1) hx hb dX4_asks_8 (by decide) ?_
    obtain ⟨r20, S19, h18, hf⟩ := b2_s hf
    refine kVi X hw (c_X4_no l D cI cO ad (-1 : Int32) S r20 S19 h18) (Nat.le_of_ble_eq_true rfl) ce5 rfl ⟨rfl, rfl⟩ q688 q690 q34 q64 q691 hd_X4_no ⟨Nat.le_of_ble_eq_true rfl, Nat.le_of_ble_eq_true rfl⟩ rfl hl.1 rfl (Nat.le_of_ble_eq_true rfl) dX4_asks_9 (fun H locs hw => ?_)
    exact hfin _ _ _ _ _ _ hw (s2a hf) (s2b hf) (narI _) dX4_asks_12
/-- NineLandsModel.when(II)I -/
theorem dX4_when_0 : decode cX4_when 0 = .ok (.iload_n 1, 1) := by decide +kernel
theorem dX4_when_1 : decode cX4_when 1 = .ok (.invokestatic 105, 3) := by decide +kernel
theorem dX4_when_4 : decode cX4_when 4 = .ok (.ifCond .ne 9, 3) := by decide +kernel
theorem dX4_when_7 : decode cX4_when 7 = .ok (.aload_n 0, 1) := by decide +kernel
theorem dX4_when_8 : decode cX4_when 8 = .ok (.iconst (-1), 1) := by decide +kernel
theorem dX4_when_9 : decode cX4_when 9 = .ok (.invokevirtual 85, 3) := by decide +kernel
theorem dX4_when_12 : decode cX4_when 12 = .ok (.ireturn, 1) := by decide +kernel
theorem dX4_when_13 : decode cX4_when 13 = .ok (.iload_n 2, 1) := by decide +kernel
theorem dX4_when_14 : decode cX4_when 14 = .ok (.iconst 0, 1) := by decide +kernel
theorem dX4_when_15 : decode cX4_when 15 = .ok (.sipush 1200, 3) := by decide +kernel
theorem dX4_when_18 : decode cX4_when 18 = .ok (.invokestatic 78, 3) := by decide +kernel
theorem dX4_when_21 : decode cX4_when 21 = .ok (.istore_n 3, 1) := by decide +kernel
theorem dX4_when_22 : decode cX4_when 22 = .ok (.iload_n 3, 1) := by decide +kernel
theorem dX4_when_23 : decode cX4_when 23 = .ok (.ifCond .eq 9, 3) := by decide +kernel
theorem dX4_when_26 : decode cX4_when 26 = .ok (.aload_n 0, 1) := by decide +kernel
theorem dX4_when_27 : decode cX4_when 27 = .ok (.iload_n 3, 1) := by decide +kernel
theorem dX4_when_28 : decode cX4_when 28 = .ok (.invokevirtual 85, 3) := by decide +kernel
theorem dX4_when_31 : decode cX4_when 31 = .ok (.ireturn, 1) := by decide +kernel
theorem dX4_when_32 : decode cX4_when 32 = .ok (.aload_n 0, 1) := by decide +kernel
theorem dX4_when_33 : decode cX4_when 33 = .ok (.aload_n 0, 1) := by decide +kernel
theorem dX4_when_34 : decode cX4_when 34 = .ok (.getfield 102, 3) := by decide +kernel
theorem dX4_when_37 : decode cX4_when 37 = .ok (.invokevirtual 163, 3) := by decide +kernel
theorem dX4_when_40 : decode cX4_when 40 = .ok (.bipush (-9), 2) := by decide +kernel
theorem dX4_when_42 : decode cX4_when 42 = .ok (.istore 4, 2) := by decide +kernel
theorem dX4_when_44 : decode cX4_when 44 = .ok (.iconst 0, 1) := by decide +kernel
theorem dX4_when_45 : decode cX4_when 45 = .ok (.istore 5, 2) := by decide +kernel
theorem dX4_when_47 : decode cX4_when 47 = .ok (.aload_n 0, 1) := by decide +kernel
theorem dX4_when_48 : decode cX4_when 48 = .ok (.iload_n 1, 1) := by decide +kernel
theorem dX4_when_49 : decode cX4_when 49 = .ok (.iconst 1, 1) := by decide +kernel
theorem dX4_when_50 : decode cX4_when 50 = .ok (.invokevirtual 122, 3) := by decide +kernel
theorem dX4_when_53 : decode cX4_when 53 = .ok (.istore 6, 2) := by decide +kernel
theorem dX4_when_55 : decode cX4_when 55 = .ok (.iload 6, 2) := by decide +kernel
theorem dX4_when_57 : decode cX4_when 57 = .ok (.istore 7, 2) := by decide +kernel
theorem dX4_when_59 : decode cX4_when 59 = .ok (.iload 7, 2) := by decide +kernel
theorem dX4_when_61 : decode cX4_when 61 = .ok (.iload 6, 2) := by decide +kernel
theorem dX4_when_63 : decode cX4_when 63 = .ok (.bipush 120, 2) := by decide +kernel
theorem dX4_when_65 : decode cX4_when 65 = .ok (.iadd, 1) := by decide +kernel
theorem dX4_when_66 : decode cX4_when 66 = .ok (.if_icmp .gt 45, 3) := by decide +kernel
theorem dX4_when_69 : decode cX4_when 69 = .ok (.iload 7, 2) := by decide +kernel
theorem dX4_when_71 : decode cX4_when 71 = .ok (.sipush 900, 3) := by decide +kernel
theorem dX4_when_74 : decode cX4_when 74 = .ok (.if_icmp .gt 37, 3) := by decide +kernel
theorem dX4_when_77 : decode cX4_when 77 = .ok (.aload_n 0, 1) := by decide +kernel
theorem dX4_when_78 : decode cX4_when 78 = .ok (.iload_n 1, 1) := by decide +kernel
theorem dX4_when_79 : decode cX4_when 79 = .ok (.iload 7, 2) := by decide +kernel
theorem dX4_when_81 : decode cX4_when 81 = .ok (.iload_n 2, 1) := by decide +kernel
theorem dX4_when_82 : decode cX4_when 82 = .ok (.invokevirtual 166, 3) := by decide +kernel
theorem dX4_when_85 : decode cX4_when 85 = .ok (.istore 8, 2) := by decide +kernel
theorem dX4_when_87 : decode cX4_when 87 = .ok (.iload 8, 2) := by decide +kernel
theorem dX4_when_89 : decode cX4_when 89 = .ok (.iload 5, 2) := by decide +kernel
theorem dX4_when_91 : decode cX4_when 91 = .ok (.if_icmp .gt 6, 3) := by decide +kernel
theorem dX4_when_94 : decode cX4_when 94 = .ok (.goto 11, 3) := by decide +kernel
theorem dX4_when_97 : decode cX4_when 97 = .ok (.iload 8, 2) := by decide +kernel
theorem dX4_when_99 : decode cX4_when 99 = .ok (.istore 5, 2) := by decide +kernel
theorem dX4_when_101 : decode cX4_when 101 = .ok (.iload 7, 2) := by decide +kernel
theorem dX4_when_103 : decode cX4_when 103 = .ok (.istore 4, 2) := by decide +kernel
theorem dX4_when_105 : decode cX4_when 105 = .ok (.iinc 7 12, 3) := by decide +kernel
theorem dX4_when_108 : decode cX4_when 108 = .ok (.goto (-49), 3) := by decide +kernel
theorem dX4_when_111 : decode cX4_when 111 = .ok (.iload 4, 2) := by decide +kernel
theorem dX4_when_113 : decode cX4_when 113 = .ok (.ireturn, 1) := by decide +kernel
theorem hd_X4_when : yX4_when.cls ≠ "java/lang/invoke/MethodHandle" ∧ yX4_when.cls ≠ "java/lang/invoke/VarHandle" ∧ (parseMethodDescriptor yX4_when.desc).map (fun d => d.parameters.length) = some 2 := by decide +kernel
def f_X4_when_L59 (S : vS) : Nat → Int32 → Int32 → Int32 → Int32 → Int32 → Int32 →  Option Int32
  | 0, _, _, _, _, _, _ => none
  | n + 1, x1, x2, x4, x5, x6, x7 => if (x6 + (120 : Int32)) < x7 then some x4 else if (900 : Int32) < x7 then some x4 else b1 (f_X4_paid x1 x7 x2 S) fun r14 => if x5 < r14 then (f_X4_when_L59 S n) x1 x2 x7 r14 x6 (x7 + 12) else (f_X4_when_L59 S n) x1 x2 x4 x5 x6 (x7 + 12)
def f_X4_when (a1 : Int32) (a2 : Int32) (S : vS) : Option (Int32 × vS) := b1 (f_X4_isLand a1 S) fun r2 => if r2 = 0 then b2 (f_X4_no (-1 : Int32) S) fun r23 S22 => some (r23, S22) else b1 (f_X4_out a2 (0 : Int32) (1200 : Int32) S) fun r5 => if r5 = 0 then b1 (f_X4_finds (S 0 2) S) fun S8 => b1 (f_X4_lawOf a1 (1 : Int32) S8) fun r10 => b1 (f_X4_when_L59 S8 FU a1 a2 (-9 : Int32) (0 : Int32) r10 r10) fun y16 => some (y16, S8) else b2 (f_X4_no r5 S) fun r20 S19 => some (r20, S19)
set_option maxHeartbeats 4000000 in
set_option maxRecDepth 20000 in
theorem c_X4_when (l : Launch) (D : va_G) (cI cO : ClassId) (ad : Nat → Nat) (a1 : Int32) (a2 : Int32) (S : vS) (R9 : Int32) (S9 : vS) (hf : f_X4_when a1 a2 S = some (R9, S9)) : CI l yX4_when cX4_when 9 .int ({ frames := 5, cells := 0, slots := 0, locals := 114 }) [.ref (ad 5), .int a1, .int a2] D cI cO ad S R9 S9 := by
  refine CI.of (by decide +kernel) (Nat.le_of_ble_eq_true rfl) (fun p e s m args below meth c Q ls X hl hw hfin => ?_)
  have hl : lv_has ls 9 [(0, .ref (ad 5)), (1, .int a1), (2, .int a2)] := hl
  have hx := X.1
  have hb := X.2.1
  have L59 : ∀ (S : vS) (n : Nat) (x1 : Int32) (x2 : Int32) (x4 : Int32) (x5 : Int32) (x6 : Int32) (x7 : Int32) (res : Int32), f_X4_when_L59 S n x1 x2 x4 x5 x6 x7 = some res → (K : ∀ (y4 : Int32), some y4 = some res → ∀ (H : Heap) (locs : List Loc) (ls : Array Slot), WD D cI cO ad s S H locs → lv_has ls 9 [(4, .int y4)] → W p l e ({ frames := 5, cells := 0, slots := 0, locals := 114 }) s m args below meth c H locs 0 0 Q (F0 m 111 ls [])) → ∀ (H : Heap) (locs : List Loc) (ls : Array Slot), WD D cI cO ad s S H locs → lv_has ls 9 [(0, .ref (ad 5)), (1, .int x1), (2, .int x2), (4, .int x4), (5, .int x5), (6, .int x6), (7, .int x7)] → W p l e ({ frames := 5, cells := 0, slots := 0, locals := 114 }) s m args below meth c H locs 0 0 Q (F0 m 59 ls []) := by
    intro S n
    induction n with
    | zero => intro x1 x2 x4 x5 x6 x7 res hf; cases hf
    | succ n ih =>
      intro x1 x2 x4 x5 x6 x7 res hf K H locs ls hw hl
      unfold f_X4_when_L59 at hf
      refine lv_iload hx hb dX4_when_59 (lv_at hl 6 rfl) ?_
      refine lv_iload hx hb dX4_when_61 (lv_at hl 5 rfl) ?_
      refine lv_bipush (v := 120) hx hb dX4_when_63 (by decide +kernel) ?_
      refine lv_iadd hx hb dX4_when_65 ?_
      refine lv_icmp_gt (tgt := 111) hx hb dX4_when_66 (by decide) (fun c11 => ?_) (fun c11 => ?_)
      · replace hf := if_t c11 hf
        exact K x4 hf _ _ _ hw (lv_sub hl [3] rfl)
      · replace hf := if_f c11 hf
        refine lv_iload hx hb dX4_when_69 (lv_at hl 6 rfl) ?_
        refine lv_sipush (v := 900) hx hb dX4_when_71 (by decide +kernel) ?_
        refine lv_icmp_gt (tgt := 111) hx hb dX4_when_74 (by decide) (fun c12 => ?_) (fun c12 => ?_)
        · replace hf := if_t c12 hf
          exact K x4 hf _ _ _ hw (lv_sub hl [3] rfl)
        · replace hf := if_f c12 hf
          refine lv_aload_n hx hb dX4_when_77 rfl (lv_at hl 0 rfl) ?_
          refine lv_iload_n hx hb dX4_when_78 rfl (lv_at hl 1 rfl) ?_
          refine lv_iload hx hb dX4_when_79 (lv_at hl 6 rfl) ?_
          refine lv_iload_n hx hb dX4_when_81 rfl (lv_at hl 2 rfl) ?_
          obtain ⟨r14, h13, hf⟩ := b1_s hf
          refine kVi X hw (c_X4_paid l D cI cO ad x1 x7 x2 S r14 h13) (Nat.le_of_ble_eq_true rfl) ce5 rfl ⟨rfl, rfl⟩ q826 q828 q51 q64 q829 hd_X4_paid ⟨Nat.le_of_ble_eq_true rfl, Nat.le_of_ble_eq_true rfl⟩ rfl hl.1 rfl (Nat.le_of_ble_eq_true rfl) dX4_when_82 (fun H locs hw => ?_)
          refine lv_istore (lv' := [(8, .int r14), (0, .ref (ad 5)), (1, .int x1), (2, .int x2), (4, .int x4), (5, .int x5), (6, .int x6), (7, .int x7)]) hx hb dX4_when_85 hl (by decide) rfl (fun ls hl => ?_)
          refine lv_iload hx hb dX4_when_87 (lv_at hl 0 rfl) ?_
          refine lv_iload hx hb dX4_when_89 (lv_at hl 5 rfl) ?_
          refine lv_icmp_gt (tgt := 97) hx hb dX4_when_91 (by decide) (fun c15 => ?_) (fun c15 => ?_)
          · replace hf := if_t c15 hf
            refine lv_iload hx hb dX4_when_97 (lv_at hl 0 rfl) ?_
            refine lv_istore (lv' := [(5, .int r14), (8, .int r14), (0, .ref (ad 5)), (1, .int x1), (2, .int x2), (4, .int x4), (6, .int x6), (7, .int x7)]) hx hb dX4_when_99 hl (by decide) rfl (fun ls hl => ?_)
            refine lv_iload hx hb dX4_when_101 (lv_at hl 7 rfl) ?_
            refine lv_istore (lv' := [(4, .int x7), (5, .int r14), (8, .int r14), (0, .ref (ad 5)), (1, .int x1), (2, .int x2), (6, .int x6), (7, .int x7)]) hx hb dX4_when_103 hl (by decide) rfl (fun ls hl => ?_)
            refine lv_iinc (v := (x7 + 12)) (lv' := [(7, .int (x7 + 12)), (4, .int x7), (5, .int r14), (8, .int r14), (0, .ref (ad 5)), (1, .int x1), (2, .int x2), (6, .int x6)]) hx hb dX4_when_105 hl (k := 7) rfl rfl (by decide) rfl (fun ls hl => ?_)
            refine lv_goto (tgt := 59) hx hb dX4_when_108 (by decide) ?_
            exact ih x1 x2 x7 r14 x6 (x7 + 12) _ hf K _ _ _ hw (lv_sub hl [4, 5, 6, 1, 2, 7, 0] rfl)
          · replace hf := if_f c15 hf
            refine lv_goto (tgt := 105) hx hb dX4_when_94 (by decide) ?_
            refine lv_iinc (v := (x7 + 12)) (lv' := [(7, .int (x7 + 12)), (8, .int r14), (0, .ref (ad 5)), (1, .int x1), (2, .int x2), (4, .int x4), (5, .int x5), (6, .int x6)]) hx hb dX4_when_105 hl (k := 7) rfl rfl (by decide) rfl (fun ls hl => ?_)
            refine lv_goto (tgt := 59) hx hb dX4_when_108 (by decide) ?_
            exact ih x1 x2 x4 x5 x6 (x7 + 12) _ hf K _ _ _ hw (lv_sub hl [2, 3, 4, 5, 6, 7, 0] rfl)
  unfold f_X4_when at hf
  refine lv_iload_n hx hb dX4_when_0 rfl (lv_at hl 1 rfl) ?_
  obtain ⟨r2, h1, hf⟩ := b1_s hf
  refine kSi X hw (c_X4_isLand l D cI cO ad a1 S r2 h1) ⟨rfl, rfl⟩ q705 q706 q64 q707 hd_X4_isLand ⟨Nat.le_of_ble_eq_true rfl, Nat.le_of_ble_eq_true rfl⟩ rfl hl.1 rfl (Nat.le_of_ble_eq_true rfl) dX4_when_1 (fun H locs hw => ?_)
  refine lv_if_ne (tgt := 13) hx hb dX4_when_4 (by decide) (fun c3 => ?_) (fun c3 => ?_)
  · replace hf := if_f c3 hf
    refine lv_iload_n hx hb dX4_when_13 rfl (lv_at hl 2 rfl) ?_
    refine lv_iconst (v := 0) hx hb dX4_when_14 (by decide) ?_
    refine lv_sipush (v := 1200) hx hb dX4_when_15 (by decide +kernel) ?_
    obtain ⟨r5, h4, hf⟩ := b1_s hf
    refine kSi X hw (c_X4_out l D cI cO ad a2 (0 : Int32) (1200 : Int32) S r5 h4) ⟨rfl, rfl⟩ q685 q686 q64 q687 hd_X4_out ⟨Nat.le_of_ble_eq_true rfl, Nat.le_of_ble_eq_true rfl⟩ rfl hl.1 rfl (Nat.le_of_ble_eq_true rfl) dX4_when_18 (fun H locs hw => ?_)
    refine lv_istore_n (lv' := [(3, .int r5), (0, .ref (ad 5)), (1, .int a1), (2, .int a2)]) hx hb dX4_when_21 rfl hl (by decide) rfl (fun ls hl => ?_)
    refine lv_iload_n hx hb dX4_when_22 rfl (lv_at hl 0 rfl) ?_
    refine lv_if_eq (tgt := 32) hx hb dX4_when_23 (by decide) (fun c6 => ?_) (fun c6 => ?_)
    · replace hf := if_t c6 hf
      refine lv_aload_n hx hb dX4_when_32 rfl (lv_at hl 1 rfl) ?_
      refine lv_aload_n hx hb dX4_when_33 rfl (lv_at hl 1 rfl) ?_
      refine x_get X hw 5 (Nat.le_of_ble_eq_true rfl) ce5 rfl i_X4 15 (by decide) q605 ⟨rfl, rfl, rfl⟩ rfl dX4_when_34 ?_
      obtain ⟨S8, h7, hf⟩ := b1_s hf
      refine kVv X hw (c_X4_finds l D cI cO ad (S 0 2) S S8 h7) (Nat.le_of_ble_eq_true rfl) ce5 rfl ⟨rfl, rfl⟩ q806 q808 q49 q64 q809 hd_X4_finds ⟨Nat.le_of_ble_eq_true rfl, Nat.le_of_ble_eq_true rfl⟩ rfl hl.1 rfl (Nat.le_of_ble_eq_true rfl) dX4_when_37 (fun H locs hw => ?_)
      refine lv_bipush (v := -9) hx hb dX4_when_40 (by decide +kernel) ?_
      refine lv_istore (lv' := [(4, .int (-9 : Int32)), (3, .int r5), (0, .ref (ad 5)), (1, .int a1), (2, .int a2)]) hx hb dX4_when_42 hl (by decide) rfl (fun ls hl => ?_)
      refine lv_iconst (v := 0) hx hb dX4_when_44 (by decide) ?_
      refine lv_istore (lv' := [(5, .int (0 : Int32)), (4, .int (-9 : Int32)), (3, .int r5), (0, .ref (ad 5)), (1, .int a1), (2, .int a2)]) hx hb dX4_when_45 hl (by decide) rfl (fun ls hl => ?_)
      refine lv_aload_n hx hb dX4_when_47 rfl (lv_at hl 3 rfl) ?_
      refine lv_iload_n hx hb dX4_when_48 rfl (lv_at hl 4 rfl) ?_
      refine lv_iconst (v := 1) hx hb dX4_when_49 (by decide) ?_
      obtain ⟨r10, h9, hf⟩ := b1_s hf
      refine kVi X hw (c_X4_lawOf l D cI cO ad a1 (1 : Int32) S8 r10 h9) (Nat.le_of_ble_eq_true rfl) ce5 rfl ⟨rfl, rfl⟩ q751 q753 q41 q64 q754 hd_X4_lawOf ⟨Nat.le_of_ble_eq_true rfl, Nat.le_of_ble_eq_true rfl⟩ rfl hl.1 rfl (Nat.le_of_ble_eq_true rfl) dX4_when_50 (fun H locs hw => ?_)
      refine lv_istore (lv' := [(6, .int r10), (5, .int (0 : Int32)), (4, .int (-9 : Int32)), (3, .int r5), (0, .ref (ad 5)), (1, .int a1), (2, .int a2)]) hx hb dX4_when_53 hl (by decide) rfl (fun ls hl => ?_)
      refine lv_iload hx hb dX4_when_55 (lv_at hl 0 rfl) ?_
      refine lv_istore (lv' := [(7, .int r10), (6, .int r10), (5, .int (0 : Int32)), (4, .int (-9 : Int32)), (3, .int r5), (0, .ref (ad 5)), (1, .int a1), (2, .int a2)]) hx hb dX4_when_57 hl (by decide) rfl (fun ls hl => ?_)
      obtain ⟨y16, h17, hf⟩ := b1_s hf
      refine L59 S8 FU a1 a2 (-9 : Int32) (0 : Int32) r10 r10 _ h17 (fun y16' eK H locs ls hw hl => ?_) _ _ _ hw (lv_sub hl [5, 6, 7, 3, 2, 1, 0] rfl)
      cases eK
      refine lv_iload hx hb dX4_when_111 (lv_at hl 0 rfl) ?_
      exact hfin _ _ _ _ _ _ hw (s2a hf) (s2b hf) (narI _) dX4_when_113
    · replace hf := if_f c6 hf
      refine lv_aload_n hx hb dX4_when_26 rfl (lv_at hl 1 rfl) ?_
      refine lv_iload_n hx hb dX4_when_27 rfl (lv_at hl 0 rfl) ?_
      obtain ⟨r20, S19, h18, hf⟩ := b2_s hf
      refine kVi X hw (c_X4_no l D cI cO ad r5 S r20 S19 h18) (Nat.le_of_ble_eq_true rfl) ce5 rfl ⟨rfl, rfl⟩ q688 q690 q34 q64 q691 hd_X4_no ⟨Nat.le_of_ble_eq_true rfl, Nat.le_of_ble_eq_true rfl⟩ rfl hl.1 rfl (Nat.le_of_ble_eq_true rfl) dX4_when_28 (fun H locs hw => ?_)
      exact hfin _ _ _ _ _ _ hw (s2a hf) (s2b hf) (narI _) dX4_when_31
  · replace hf := if_t c3 hf
    refine lv_aload_n hx hb dX4_when_7 rfl (lv_at hl 0 rfl) ?_
    refine lv_iconst (v := -1) hx hb dX4_when_8 (by decide) ?_
    obtain ⟨r23, S22, h21, hf⟩ := b2_s hf
    refine kVi X hw (c_X4_no l D cI cO ad (-1 : Int32) S r23 S22 h21) (Nat.le_of_ble_eq_true rfl) ce5 rfl ⟨rfl, rfl⟩ q688 q690 q34 q64 q691 hd_X4_no ⟨Nat.le_of_ble_eq_true rfl, Nat.le_of_ble_eq_true rfl⟩ rfl hl.1 rfl (Nat.le_of_ble_eq_true rfl) dX4_when_9 (fun H locs hw => ?_)
    exact hfin _ _ _ _ _ _ hw (s2a hf) (s2b hf) (narI _) dX4_when_12
/-- NineLandsModel.livingIn(I)I -/
theorem dX4_livingIn_0 : decode cX4_livingIn 0 = .ok (.aload_n 0, 1) := by decide +kernel
theorem dX4_livingIn_1 : decode cX4_livingIn 1 = .ok (.getfield 68, 3) := by decide +kernel
theorem dX4_livingIn_4 : decode cX4_livingIn 4 = .ok (.iload_n 1, 1) := by decide +kernel
theorem dX4_livingIn_5 : decode cX4_livingIn 5 = .ok (.iaload, 1) := by decide +kernel
theorem dX4_livingIn_6 : decode cX4_livingIn 6 = .ok (.istore_n 2, 1) := by decide +kernel
theorem dX4_livingIn_7 : decode cX4_livingIn 7 = .ok (.iconst 0, 1) := by decide +kernel
theorem dX4_livingIn_8 : decode cX4_livingIn 8 = .ok (.istore_n 3, 1) := by decide +kernel
theorem dX4_livingIn_9 : decode cX4_livingIn 9 = .ok (.iload_n 3, 1) := by decide +kernel
theorem dX4_livingIn_10 : decode cX4_livingIn 10 = .ok (.bipush 6, 2) := by decide +kernel
theorem dX4_livingIn_12 : decode cX4_livingIn 12 = .ok (.if_icmp .ge 45, 3) := by decide +kernel
theorem dX4_livingIn_15 : decode cX4_livingIn 15 = .ok (.iload_n 2, 1) := by decide +kernel
theorem dX4_livingIn_16 : decode cX4_livingIn 16 = .ok (.iload_n 3, 1) := by decide +kernel
theorem dX4_livingIn_17 : decode cX4_livingIn 17 = .ok (.iload_n 1, 1) := by decide +kernel
theorem dX4_livingIn_18 : decode cX4_livingIn 18 = .ok (.if_icmp .ne 7, 3) := by decide +kernel
theorem dX4_livingIn_21 : decode cX4_livingIn 21 = .ok (.iconst 0, 1) := by decide +kernel
theorem dX4_livingIn_22 : decode cX4_livingIn 22 = .ok (.goto 27, 3) := by decide +kernel
theorem dX4_livingIn_25 : decode cX4_livingIn 25 = .ok (.aload_n 0, 1) := by decide +kernel
theorem dX4_livingIn_26 : decode cX4_livingIn 26 = .ok (.getfield 68, 3) := by decide +kernel
theorem dX4_livingIn_29 : decode cX4_livingIn 29 = .ok (.iload_n 3, 1) := by decide +kernel
theorem dX4_livingIn_30 : decode cX4_livingIn 30 = .ok (.iaload, 1) := by decide +kernel
theorem dX4_livingIn_31 : decode cX4_livingIn 31 = .ok (.aload_n 0, 1) := by decide +kernel
theorem dX4_livingIn_32 : decode cX4_livingIn 32 = .ok (.getfield 68, 3) := by decide +kernel
theorem dX4_livingIn_35 : decode cX4_livingIn 35 = .ok (.iload_n 3, 1) := by decide +kernel
theorem dX4_livingIn_36 : decode cX4_livingIn 36 = .ok (.iaload, 1) := by decide +kernel
theorem dX4_livingIn_37 : decode cX4_livingIn 37 = .ok (.aload_n 0, 1) := by decide +kernel
theorem dX4_livingIn_38 : decode cX4_livingIn 38 = .ok (.iload_n 3, 1) := by decide +kernel
theorem dX4_livingIn_39 : decode cX4_livingIn 39 = .ok (.bipush 6, 2) := by decide +kernel
theorem dX4_livingIn_41 : decode cX4_livingIn 41 = .ok (.invokevirtual 122, 3) := by decide +kernel
theorem dX4_livingIn_44 : decode cX4_livingIn 44 = .ok (.imul, 1) := by decide +kernel
theorem dX4_livingIn_45 : decode cX4_livingIn 45 = .ok (.bipush 100, 2) := by decide +kernel
theorem dX4_livingIn_47 : decode cX4_livingIn 47 = .ok (.idiv, 1) := by decide +kernel
theorem dX4_livingIn_48 : decode cX4_livingIn 48 = .ok (.isub, 1) := by decide +kernel
theorem dX4_livingIn_49 : decode cX4_livingIn 49 = .ok (.iadd, 1) := by decide +kernel
theorem dX4_livingIn_50 : decode cX4_livingIn 50 = .ok (.istore_n 2, 1) := by decide +kernel
theorem dX4_livingIn_51 : decode cX4_livingIn 51 = .ok (.iinc 3 1, 3) := by decide +kernel
theorem dX4_livingIn_54 : decode cX4_livingIn 54 = .ok (.goto (-45), 3) := by decide +kernel
theorem dX4_livingIn_57 : decode cX4_livingIn 57 = .ok (.iload_n 2, 1) := by decide +kernel
theorem dX4_livingIn_58 : decode cX4_livingIn 58 = .ok (.ireturn, 1) := by decide +kernel
theorem hd_X4_livingIn : yX4_livingIn.cls ≠ "java/lang/invoke/MethodHandle" ∧ yX4_livingIn.cls ≠ "java/lang/invoke/VarHandle" ∧ (parseMethodDescriptor yX4_livingIn.desc).map (fun d => d.parameters.length) = some 1 := by decide +kernel
def f_X4_livingIn_L9 (S : vS) : Nat → Int32 → Int32 → Int32 →  Option Int32
  | 0, _, _, _ => none
  | n + 1, x1, x2, x3 => if (6 : Int32) ≤ x3 then some x2 else if x3 = x1 then (f_X4_livingIn_L9 S n) x1 (x2 + (0 : Int32)) (x3 + 1) else if inb x3 6 = true then b1 (f_X4_lawOf x3 (6 : Int32) S) fun r7 => lt ((x2 + ((S 19 (x3.toNatClampNeg)) - (((S 19 (x3.toNatClampNeg)) * r7) / (100 : Int32))))) fun v8 => (f_X4_livingIn_L9 S n) x1 v8 (x3 + 1) else none
def f_X4_livingIn (a1 : Int32) (S : vS) : Option Int32 := if inb a1 6 = true then lt ((S 19 (a1.toNatClampNeg))) fun v2 => b1 (f_X4_livingIn_L9 S FU a1 v2 (0 : Int32)) fun y9 => some y9 else none
set_option maxHeartbeats 4000000 in
set_option maxRecDepth 20000 in
theorem c_X4_livingIn (l : Launch) (D : va_G) (cI cO : ClassId) (ad : Nat → Nat) (a1 : Int32) (S : vS) (R9 : Int32) (hf : f_X4_livingIn a1 S = some R9) : CI l yX4_livingIn cX4_livingIn 4 .int ({ frames := 1, cells := 0, slots := 0, locals := 22 }) [.ref (ad 5), .int a1] D cI cO ad S R9 S := by
  refine CI.of (by decide +kernel) (Nat.le_of_ble_eq_true rfl) (fun p e s m args below meth c Q ls X hl hw hfin => ?_)
  have hl : lv_has ls 4 [(0, .ref (ad 5)), (1, .int a1)] := hl
  have hx := X.1
  have hb := X.2.1
  have L9 : ∀ (n : Nat) (x1 : Int32) (x2 : Int32) (x3 : Int32) (res : Int32), f_X4_livingIn_L9 S n x1 x2 x3 = some res → (K : ∀ (y2 : Int32), some y2 = some res → ∀ (H : Heap) (locs : List Loc) (ls : Array Slot), WD D cI cO ad s S H locs → lv_has ls 4 [(2, .int y2)] → W p l e ({ frames := 1, cells := 0, slots := 0, locals := 22 }) s m args below meth c H locs 0 0 Q (F0 m 57 ls [])) → ∀ (H : Heap) (locs : List Loc) (ls : Array Slot), WD D cI cO ad s S H locs → lv_has ls 4 [(0, .ref (ad 5)), (1, .int x1), (2, .int x2), (3, .int x3)] → W p l e ({ frames := 1, cells := 0, slots := 0, locals := 22 }) s m args below meth c H locs 0 0 Q (F0 m 9 ls []) := by
    intro n
    induction n with
    | zero => intro x1 x2 x3 res hf; cases hf
    | succ n ih =>
      intro x1 x2 x3 res hf K H locs ls hw hl
      unfold f_X4_livingIn_L9 at hf
      refine lv_iload_n hx hb dX4_livingIn_9 rfl (lv_at hl 3 rfl) ?_
      refine lv_bipush (v := 6) hx hb dX4_livingIn_10 (by decide +kernel) ?_
      refine lv_icmp_ge (tgt := 57) hx hb dX4_livingIn_12 (by decide) (fun c3 => ?_) (fun c3 => ?_)
      · replace hf := if_t c3 hf
        exact K x2 hf _ _ _ hw (lv_sub hl [2] rfl)
      · replace hf := if_f c3 hf
        refine lv_iload_n hx hb dX4_livingIn_15 rfl (lv_at hl 2 rfl) ?_
        refine lv_iload_n hx hb dX4_livingIn_16 rfl (lv_at hl 3 rfl) ?_
        refine lv_iload_n hx hb dX4_livingIn_17 rfl (lv_at hl 1 rfl) ?_
        refine lv_icmp_ne (tgt := 25) hx hb dX4_livingIn_18 (by decide) (fun c4 => ?_) (fun c4 => ?_)
        · replace hf := if_f c4 hf
          refine lv_aload_n hx hb dX4_livingIn_25 rfl (lv_at hl 0 rfl) ?_
          refine x_get X hw 5 (Nat.le_of_ble_eq_true rfl) ce5 rfl i_X4 22 (by decide) q612 ⟨rfl, rfl, rfl⟩ rfl dX4_livingIn_26 ?_
          refine lv_iload_n hx hb dX4_livingIn_29 rfl (lv_at hl 3 rfl) ?_
          obtain ⟨h5, hf⟩ := if_s hf
          refine x_iald X hw 19 ⟨Nat.le_of_ble_eq_true rfl, Nat.le_of_ble_eq_true rfl⟩ rfl h5 (x3.toNatClampNeg) rfl dX4_livingIn_30 ?_
          refine lv_aload_n hx hb dX4_livingIn_31 rfl (lv_at hl 0 rfl) ?_
          refine x_get X hw 5 (Nat.le_of_ble_eq_true rfl) ce5 rfl i_X4 22 (by decide) q612 ⟨rfl, rfl, rfl⟩ rfl dX4_livingIn_32 ?_
          refine lv_iload_n hx hb dX4_livingIn_35 rfl (lv_at hl 3 rfl) ?_
          refine x_iald X hw 19 ⟨Nat.le_of_ble_eq_true rfl, Nat.le_of_ble_eq_true rfl⟩ rfl h5 (x3.toNatClampNeg) rfl dX4_livingIn_36 ?_
          refine lv_aload_n hx hb dX4_livingIn_37 rfl (lv_at hl 0 rfl) ?_
          refine lv_iload_n hx hb dX4_livingIn_38 rfl (lv_at hl 3 rfl) ?_
          refine lv_bipush (v := 6) hx hb dX4_livingIn_39 (by decide +kernel) ?_
          obtain ⟨r7, h6, hf⟩ := b1_s hf
          refine kVi X hw (c_X4_lawOf l D cI cO ad x3 (6 : Int32) S r7 h6) (Nat.le_of_ble_eq_true rfl) ce5 rfl ⟨rfl, rfl⟩ q751 q753 q41 q64 q754 hd_X4_lawOf ⟨Nat.le_of_ble_eq_true rfl, Nat.le_of_ble_eq_true rfl⟩ rfl hl.1 rfl (Nat.le_of_ble_eq_true rfl) dX4_livingIn_41 (fun H locs hw => ?_)
          refine lv_imul hx hb dX4_livingIn_44 ?_
          refine lv_bipush (v := 100) hx hb dX4_livingIn_45 (by decide +kernel) ?_
          refine lv_idiv hx hb dX4_livingIn_47 (by decide) ?_
          refine lv_isub hx hb dX4_livingIn_48 ?_
          refine lv_iadd hx hb dX4_livingIn_49 ?_
          refine lv_topi (fun v8 ev8 => ?_)
          replace hf := lt_e ev8 hf
          refine lv_istore_n (lv' := [(2, .int v8), (0, .ref (ad 5)), (1, .int x1), (3, .int x3)]) hx hb dX4_livingIn_50 rfl hl (by decide) rfl (fun ls hl => ?_)
          refine lv_iinc (v := (x3 + 1)) (lv' := [(3, .int (x3 + 1)), (2, .int v8), (0, .ref (ad 5)), (1, .int x1)]) hx hb dX4_livingIn_51 hl (k := 3) rfl rfl (by decide) rfl (fun ls hl => ?_)
          refine lv_goto (tgt := 9) hx hb dX4_livingIn_54 (by decide) ?_
          exact ih x1 v8 (x3 + 1) _ hf K _ _ _ hw (lv_sub hl [2, 3, 1, 0] rfl)
        · replace hf := if_t c4 hf
          refine lv_iconst (v := 0) hx hb dX4_livingIn_21 (by decide) ?_
          refine lv_goto (tgt := 49) hx hb dX4_livingIn_22 (by decide) ?_
          refine lv_iadd hx hb dX4_livingIn_49 ?_
          refine lv_istore_n (lv' := [(2, .int (x2 + (0 : Int32))), (0, .ref (ad 5)), (1, .int x1), (3, .int x3)]) hx hb dX4_livingIn_50 rfl hl (by decide) rfl (fun ls hl => ?_)
          refine lv_iinc (v := (x3 + 1)) (lv' := [(3, .int (x3 + 1)), (2, .int (x2 + (0 : Int32))), (0, .ref (ad 5)), (1, .int x1)]) hx hb dX4_livingIn_51 hl (k := 3) rfl rfl (by decide) rfl (fun ls hl => ?_)
          refine lv_goto (tgt := 9) hx hb dX4_livingIn_54 (by decide) ?_
          exact ih x1 (x2 + (0 : Int32)) (x3 + 1) _ hf K _ _ _ hw (lv_sub hl [2, 3, 1, 0] rfl)
  unfold f_X4_livingIn at hf
  refine lv_aload_n hx hb dX4_livingIn_0 rfl (lv_at hl 0 rfl) ?_
  refine x_get X hw 5 (Nat.le_of_ble_eq_true rfl) ce5 rfl i_X4 22 (by decide) q612 ⟨rfl, rfl, rfl⟩ rfl dX4_livingIn_1 ?_
  refine lv_iload_n hx hb dX4_livingIn_4 rfl (lv_at hl 1 rfl) ?_
  obtain ⟨h1, hf⟩ := if_s hf
  refine x_iald X hw 19 ⟨Nat.le_of_ble_eq_true rfl, Nat.le_of_ble_eq_true rfl⟩ rfl h1 (a1.toNatClampNeg) rfl dX4_livingIn_5 ?_
  refine lv_topi (fun v2 ev2 => ?_)
  replace hf := lt_e ev2 hf
  refine lv_istore_n (lv' := [(2, .int v2), (0, .ref (ad 5)), (1, .int a1)]) hx hb dX4_livingIn_6 rfl hl (by decide) rfl (fun ls hl => ?_)
  refine lv_iconst (v := 0) hx hb dX4_livingIn_7 (by decide) ?_
  refine lv_istore_n (lv' := [(3, .int (0 : Int32)), (2, .int v2), (0, .ref (ad 5)), (1, .int a1)]) hx hb dX4_livingIn_8 rfl hl (by decide) rfl (fun ls hl => ?_)
  obtain ⟨y9, h10, hf⟩ := b1_s hf
  refine L9 FU a1 v2 (0 : Int32) _ h10 (fun y9' eK H locs ls hw hl => ?_) _ _ _ hw (lv_sub hl [2, 3, 1, 0] rfl)
  cases eK
  refine lv_iload_n hx hb dX4_livingIn_57 rfl (lv_at hl 0 rfl) ?_
  exact hfin _ _ _ _ _ _ hw (Option.some.inj hf) rfl (narI _) dX4_livingIn_58
/-- NineLandsModel.lives(I)I -/
theorem dX4_lives_0 : decode cX4_lives 0 = .ok (.iload_n 1, 1) := by decide +kernel
theorem dX4_lives_1 : decode cX4_lives 1 = .ok (.invokestatic 105, 3) := by decide +kernel
theorem dX4_lives_4 : decode cX4_lives 4 = .ok (.ifCond .ne 9, 3) := by decide +kernel
theorem dX4_lives_7 : decode cX4_lives 7 = .ok (.aload_n 0, 1) := by decide +kernel
theorem dX4_lives_8 : decode cX4_lives 8 = .ok (.iconst (-1), 1) := by decide +kernel
theorem dX4_lives_9 : decode cX4_lives 9 = .ok (.invokevirtual 85, 3) := by decide +kernel
theorem dX4_lives_12 : decode cX4_lives 12 = .ok (.ireturn, 1) := by decide +kernel
theorem dX4_lives_13 : decode cX4_lives 13 = .ok (.aload_n 0, 1) := by decide +kernel
theorem dX4_lives_14 : decode cX4_lives 14 = .ok (.aload_n 0, 1) := by decide +kernel
theorem dX4_lives_15 : decode cX4_lives 15 = .ok (.getfield 102, 3) := by decide +kernel
theorem dX4_lives_18 : decode cX4_lives 18 = .ok (.invokevirtual 163, 3) := by decide +kernel
theorem dX4_lives_21 : decode cX4_lives 21 = .ok (.aload_n 0, 1) := by decide +kernel
theorem dX4_lives_22 : decode cX4_lives 22 = .ok (.iload_n 1, 1) := by decide +kernel
theorem dX4_lives_23 : decode cX4_lives 23 = .ok (.invokevirtual 169, 3) := by decide +kernel
theorem dX4_lives_26 : decode cX4_lives 26 = .ok (.ireturn, 1) := by decide +kernel
theorem hd_X4_lives : yX4_lives.cls ≠ "java/lang/invoke/MethodHandle" ∧ yX4_lives.cls ≠ "java/lang/invoke/VarHandle" ∧ (parseMethodDescriptor yX4_lives.desc).map (fun d => d.parameters.length) = some 1 := by decide +kernel
def f_X4_lives (a1 : Int32) (S : vS) : Option (Int32 × vS) := b1 (f_X4_isLand a1 S) fun r2 => if r2 = 0 then b2 (f_X4_no (-1 : Int32) S) fun r10 S9 => some (r10, S9) else b1 (f_X4_finds (S 0 2) S) fun S5 => b1 (f_X4_livingIn a1 S5) fun r7 => some (r7, S5)
set_option maxHeartbeats 4000000 in
set_option maxRecDepth 20000 in
theorem c_X4_lives (l : Launch) (D : va_G) (cI cO : ClassId) (ad : Nat → Nat) (a1 : Int32) (S : vS) (R9 : Int32) (S9 : vS) (hf : f_X4_lives a1 S = some (R9, S9)) : CI l yX4_lives cX4_lives 2 .int ({ frames := 5, cells := 0, slots := 0, locals := 114 }) [.ref (ad 5), .int a1] D cI cO ad S R9 S9 := by
  refine CI.of (by decide +kernel) (Nat.le_of_ble_eq_true rfl) (fun p e s m args below meth c Q ls X hl hw hfin => ?_)
  have hl : lv_has ls 2 [(0, .ref (ad 5)), (1, .int a1)] := hl
  have hx := X.1
  have hb := X.2.1
  unfold f_X4_lives at hf
  refine lv_iload_n hx hb dX4_lives_0 rfl (lv_at hl 1 rfl) ?_
  obtain ⟨r2, h1, hf⟩ := b1_s hf
  refine kSi X hw (c_X4_isLand l D cI cO ad a1 S r2 h1) ⟨rfl, rfl⟩ q705 q706 q64 q707 hd_X4_isLand ⟨Nat.le_of_ble_eq_true rfl, Nat.le_of_ble_eq_true rfl⟩ rfl hl.1 rfl (Nat.le_of_ble_eq_true rfl) dX4_lives_1 (fun H locs hw => ?_)
  refine lv_if_ne (tgt := 13) hx hb dX4_lives_4 (by decide) (fun c3 => ?_) (fun c3 => ?_)
  · replace hf := if_f c3 hf
    refine lv_aload_n hx hb dX4_lives_13 rfl (lv_at hl 0 rfl) ?_
    refine lv_aload_n hx hb dX4_lives_14 rfl (lv_at hl 0 rfl) ?_
    refine x_get X hw 5 (Nat.le_of_ble_eq_true rfl) ce5 rfl i_X4 15 (by decide) q605 ⟨rfl, rfl, rfl⟩ rfl dX4_lives_15 ?_
    obtain ⟨S5, h4, hf⟩ := b1_s hf
    refine kVv X hw (c_X4_finds l D cI cO ad (S 0 2) S S5 h4) (Nat.le_of_ble_eq_true rfl) ce5 rfl ⟨rfl, rfl⟩ q806 q808 q49 q64 q809 hd_X4_finds ⟨Nat.le_of_ble_eq_true rfl, Nat.le_of_ble_eq_true rfl⟩ rfl hl.1 rfl (Nat.le_of_ble_eq_true rfl) dX4_lives_18 (fun H locs hw => ?_)
    refine lv_aload_n hx hb dX4_lives_21 rfl (lv_at hl 0 rfl) ?_
    refine lv_iload_n hx hb dX4_lives_22 rfl (lv_at hl 1 rfl) ?_
    obtain ⟨r7, h6, hf⟩ := b1_s hf
    refine kVi X hw (c_X4_livingIn l D cI cO ad a1 S5 r7 h6) (Nat.le_of_ble_eq_true rfl) ce5 rfl ⟨rfl, rfl⟩ q838 q840 q52 q64 q841 hd_X4_livingIn ⟨Nat.le_of_ble_eq_true rfl, Nat.le_of_ble_eq_true rfl⟩ rfl hl.1 rfl (Nat.le_of_ble_eq_true rfl) dX4_lives_23 (fun H locs hw => ?_)
    exact hfin _ _ _ _ _ _ hw (s2a hf) (s2b hf) (narI _) dX4_lives_26
  · replace hf := if_t c3 hf
    refine lv_aload_n hx hb dX4_lives_7 rfl (lv_at hl 0 rfl) ?_
    refine lv_iconst (v := -1) hx hb dX4_lives_8 (by decide) ?_
    obtain ⟨r10, S9, h8, hf⟩ := b2_s hf
    refine kVi X hw (c_X4_no l D cI cO ad (-1 : Int32) S r10 S9 h8) (Nat.le_of_ble_eq_true rfl) ce5 rfl ⟨rfl, rfl⟩ q688 q690 q34 q64 q691 hd_X4_no ⟨Nat.le_of_ble_eq_true rfl, Nat.le_of_ble_eq_true rfl⟩ rfl hl.1 rfl (Nat.le_of_ble_eq_true rfl) dX4_lives_9 (fun H locs hw => ?_)
    exact hfin _ _ _ _ _ _ hw (s2a hf) (s2b hf) (narI _) dX4_lives_12
/-- NineLandsModel.where()I -/
theorem dX4_where_0 : decode cX4_where 0 = .ok (.aload_n 0, 1) := by decide +kernel
theorem dX4_where_1 : decode cX4_where 1 = .ok (.aload_n 0, 1) := by decide +kernel
theorem dX4_where_2 : decode cX4_where 2 = .ok (.getfield 102, 3) := by decide +kernel
theorem dX4_where_5 : decode cX4_where 5 = .ok (.invokevirtual 163, 3) := by decide +kernel
theorem dX4_where_8 : decode cX4_where 8 = .ok (.iconst 0, 1) := by decide +kernel
theorem dX4_where_9 : decode cX4_where 9 = .ok (.istore_n 1, 1) := by decide +kernel
theorem dX4_where_10 : decode cX4_where 10 = .ok (.iconst 1, 1) := by decide +kernel
theorem dX4_where_11 : decode cX4_where 11 = .ok (.istore_n 2, 1) := by decide +kernel
theorem dX4_where_12 : decode cX4_where 12 = .ok (.iload_n 2, 1) := by decide +kernel
theorem dX4_where_13 : decode cX4_where 13 = .ok (.bipush 6, 2) := by decide +kernel
theorem dX4_where_15 : decode cX4_where 15 = .ok (.if_icmp .ge 28, 3) := by decide +kernel
theorem dX4_where_18 : decode cX4_where 18 = .ok (.aload_n 0, 1) := by decide +kernel
theorem dX4_where_19 : decode cX4_where 19 = .ok (.iload_n 2, 1) := by decide +kernel
theorem dX4_where_20 : decode cX4_where 20 = .ok (.invokevirtual 169, 3) := by decide +kernel
theorem dX4_where_23 : decode cX4_where 23 = .ok (.aload_n 0, 1) := by decide +kernel
theorem dX4_where_24 : decode cX4_where 24 = .ok (.iload_n 1, 1) := by decide +kernel
theorem dX4_where_25 : decode cX4_where 25 = .ok (.invokevirtual 169, 3) := by decide +kernel
theorem dX4_where_28 : decode cX4_where 28 = .ok (.if_icmp .le 7, 3) := by decide +kernel
theorem dX4_where_31 : decode cX4_where 31 = .ok (.iload_n 2, 1) := by decide +kernel
theorem dX4_where_32 : decode cX4_where 32 = .ok (.goto 4, 3) := by decide +kernel
theorem dX4_where_35 : decode cX4_where 35 = .ok (.iload_n 1, 1) := by decide +kernel
theorem dX4_where_36 : decode cX4_where 36 = .ok (.istore_n 1, 1) := by decide +kernel
theorem dX4_where_37 : decode cX4_where 37 = .ok (.iinc 2 1, 3) := by decide +kernel
theorem dX4_where_40 : decode cX4_where 40 = .ok (.goto (-28), 3) := by decide +kernel
theorem dX4_where_43 : decode cX4_where 43 = .ok (.iload_n 1, 1) := by decide +kernel
theorem dX4_where_44 : decode cX4_where 44 = .ok (.ireturn, 1) := by decide +kernel
theorem hd_X4_where : yX4_where.cls ≠ "java/lang/invoke/MethodHandle" ∧ yX4_where.cls ≠ "java/lang/invoke/VarHandle" ∧ (parseMethodDescriptor yX4_where.desc).map (fun d => d.parameters.length) = some 0 := by decide +kernel
def f_X4_where_L12 (S : vS) : Nat → Int32 → Int32 →  Option Int32
  | 0, _, _ => none
  | n + 1, x1, x2 => if (6 : Int32) ≤ x2 then some x1 else b1 (f_X4_livingIn x2 S) fun r5 => b1 (f_X4_livingIn x1 S) fun r7 => if r5 ≤ r7 then (f_X4_where_L12 S n) x1 (x2 + 1) else (f_X4_where_L12 S n) x2 (x2 + 1)
def f_X4_where  (S : vS) : Option (Int32 × vS) := b1 (f_X4_finds (S 0 2) S) fun S2 => b1 (f_X4_where_L12 S2 FU (0 : Int32) (1 : Int32)) fun y9 => some (y9, S2)
set_option maxHeartbeats 4000000 in
set_option maxRecDepth 20000 in
theorem c_X4_where (l : Launch) (D : va_G) (cI cO : ClassId) (ad : Nat → Nat)  (S : vS) (R9 : Int32) (S9 : vS) (hf : f_X4_where  S = some (R9, S9)) : CI l yX4_where cX4_where 3 .int ({ frames := 5, cells := 0, slots := 0, locals := 114 }) [.ref (ad 5)] D cI cO ad S R9 S9 := by
  refine CI.of (by decide +kernel) (Nat.le_of_ble_eq_true rfl) (fun p e s m args below meth c Q ls X hl hw hfin => ?_)
  have hl : lv_has ls 3 [(0, .ref (ad 5))] := hl
  have hx := X.1
  have hb := X.2.1
  have L12 : ∀ (S : vS) (n : Nat) (x1 : Int32) (x2 : Int32) (res : Int32), f_X4_where_L12 S n x1 x2 = some res → (K : ∀ (y1 : Int32), some y1 = some res → ∀ (H : Heap) (locs : List Loc) (ls : Array Slot), WD D cI cO ad s S H locs → lv_has ls 3 [(1, .int y1)] → W p l e ({ frames := 5, cells := 0, slots := 0, locals := 114 }) s m args below meth c H locs 0 0 Q (F0 m 43 ls [])) → ∀ (H : Heap) (locs : List Loc) (ls : Array Slot), WD D cI cO ad s S H locs → lv_has ls 3 [(0, .ref (ad 5)), (1, .int x1), (2, .int x2)] → W p l e ({ frames := 5, cells := 0, slots := 0, locals := 114 }) s m args below meth c H locs 0 0 Q (F0 m 12 ls []) := by
    intro S n
    induction n with
    | zero => intro x1 x2 res hf; cases hf
    | succ n ih =>
      intro x1 x2 res hf K H locs ls hw hl
      unfold f_X4_where_L12 at hf
      refine lv_iload_n hx hb dX4_where_12 rfl (lv_at hl 2 rfl) ?_
      refine lv_bipush (v := 6) hx hb dX4_where_13 (by decide +kernel) ?_
      refine lv_icmp_ge (tgt := 43) hx hb dX4_where_15 (by decide) (fun c3 => ?_) (fun c3 => ?_)
      · replace hf := if_t c3 hf
        exact K x1 hf _ _ _ hw (lv_sub hl [1] rfl)
      · replace hf := if_f c3 hf
        refine lv_aload_n hx hb dX4_where_18 rfl (lv_at hl 0 rfl) ?_
        refine lv_iload_n hx hb dX4_where_19 rfl (lv_at hl 2 rfl) ?_
        obtain ⟨r5, h4, hf⟩ := b1_s hf
        refine kVi X hw (c_X4_livingIn l D cI cO ad x2 S r5 h4) (Nat.le_of_ble_eq_true rfl) ce5 rfl ⟨rfl, rfl⟩ q838 q840 q52 q64 q841 hd_X4_livingIn ⟨Nat.le_of_ble_eq_true rfl, Nat.le_of_ble_eq_true rfl⟩ rfl hl.1 rfl (Nat.le_of_ble_eq_true rfl) dX4_where_20 (fun H locs hw => ?_)
        refine lv_aload_n hx hb dX4_where_23 rfl (lv_at hl 0 rfl) ?_
        refine lv_iload_n hx hb dX4_where_24 rfl (lv_at hl 1 rfl) ?_
        obtain ⟨r7, h6, hf⟩ := b1_s hf
        refine kVi X hw (c_X4_livingIn l D cI cO ad x1 S r7 h6) (Nat.le_of_ble_eq_true rfl) ce5 rfl ⟨rfl, rfl⟩ q838 q840 q52 q64 q841 hd_X4_livingIn ⟨Nat.le_of_ble_eq_true rfl, Nat.le_of_ble_eq_true rfl⟩ rfl hl.1 rfl (Nat.le_of_ble_eq_true rfl) dX4_where_25 (fun H locs hw => ?_)
        refine lv_icmp_le (tgt := 35) hx hb dX4_where_28 (by decide) (fun c8 => ?_) (fun c8 => ?_)
        · replace hf := if_t c8 hf
          refine lv_iload_n hx hb dX4_where_35 rfl (lv_at hl 1 rfl) ?_
          refine lv_istore_n (lv' := [(1, .int x1), (0, .ref (ad 5)), (2, .int x2)]) hx hb dX4_where_36 rfl hl (by decide) rfl (fun ls hl => ?_)
          refine lv_iinc (v := (x2 + 1)) (lv' := [(2, .int (x2 + 1)), (1, .int x1), (0, .ref (ad 5))]) hx hb dX4_where_37 hl (k := 2) rfl rfl (by decide) rfl (fun ls hl => ?_)
          refine lv_goto (tgt := 12) hx hb dX4_where_40 (by decide) ?_
          exact ih x1 (x2 + 1) _ hf K _ _ _ hw (lv_sub hl [2, 1, 0] rfl)
        · replace hf := if_f c8 hf
          refine lv_iload_n hx hb dX4_where_31 rfl (lv_at hl 2 rfl) ?_
          refine lv_goto (tgt := 36) hx hb dX4_where_32 (by decide) ?_
          refine lv_istore_n (lv' := [(1, .int x2), (0, .ref (ad 5)), (2, .int x2)]) hx hb dX4_where_36 rfl hl (by decide) rfl (fun ls hl => ?_)
          refine lv_iinc (v := (x2 + 1)) (lv' := [(2, .int (x2 + 1)), (1, .int x2), (0, .ref (ad 5))]) hx hb dX4_where_37 hl (k := 2) rfl rfl (by decide) rfl (fun ls hl => ?_)
          refine lv_goto (tgt := 12) hx hb dX4_where_40 (by decide) ?_
          exact ih x2 (x2 + 1) _ hf K _ _ _ hw (lv_sub hl [2, 1, 0] rfl)
  unfold f_X4_where at hf
  refine lv_aload_n hx hb dX4_where_0 rfl (lv_at hl 0 rfl) ?_
  refine lv_aload_n hx hb dX4_where_1 rfl (lv_at hl 0 rfl) ?_
  refine x_get X hw 5 (Nat.le_of_ble_eq_true rfl) ce5 rfl i_X4 15 (by decide) q605 ⟨rfl, rfl, rfl⟩ rfl dX4_where_2 ?_
  obtain ⟨S2, h1, hf⟩ := b1_s hf
  refine kVv X hw (c_X4_finds l D cI cO ad (S 0 2) S S2 h1) (Nat.le_of_ble_eq_true rfl) ce5 rfl ⟨rfl, rfl⟩ q806 q808 q49 q64 q809 hd_X4_finds ⟨Nat.le_of_ble_eq_true rfl, Nat.le_of_ble_eq_true rfl⟩ rfl hl.1 rfl (Nat.le_of_ble_eq_true rfl) dX4_where_5 (fun H locs hw => ?_)
  refine lv_iconst (v := 0) hx hb dX4_where_8 (by decide) ?_
  refine lv_istore_n (lv' := [(1, .int (0 : Int32)), (0, .ref (ad 5))]) hx hb dX4_where_9 rfl hl (by decide) rfl (fun ls hl => ?_)
  refine lv_iconst (v := 1) hx hb dX4_where_10 (by decide) ?_
  refine lv_istore_n (lv' := [(2, .int (1 : Int32)), (1, .int (0 : Int32)), (0, .ref (ad 5))]) hx hb dX4_where_11 rfl hl (by decide) rfl (fun ls hl => ?_)
  obtain ⟨y9, h10, hf⟩ := b1_s hf
  refine L12 S2 FU (0 : Int32) (1 : Int32) _ h10 (fun y9' eK H locs ls hw hl => ?_) _ _ _ hw (lv_sub hl [2, 1, 0] rfl)
  cases eK
  refine lv_iload_n hx hb dX4_where_43 rfl (lv_at hl 0 rfl) ?_
  exact hfin _ _ _ _ _ _ hw (s2a hf) (s2b hf) (narI _) dX4_where_44
/-- NineLandsModel.behind()I -/
theorem dX4_behind_0 : decode cX4_behind 0 = .ok (.iconst 0, 1) := by decide +kernel
theorem dX4_behind_1 : decode cX4_behind 1 = .ok (.istore_n 1, 1) := by decide +kernel
theorem dX4_behind_2 : decode cX4_behind 2 = .ok (.iconst 0, 1) := by decide +kernel
theorem dX4_behind_3 : decode cX4_behind 3 = .ok (.istore_n 2, 1) := by decide +kernel
theorem dX4_behind_4 : decode cX4_behind 4 = .ok (.iload_n 2, 1) := by decide +kernel
theorem dX4_behind_5 : decode cX4_behind 5 = .ok (.aload_n 0, 1) := by decide +kernel
theorem dX4_behind_6 : decode cX4_behind 6 = .ok (.getfield 102, 3) := by decide +kernel
theorem dX4_behind_9 : decode cX4_behind 9 = .ok (.if_icmp .ge 20, 3) := by decide +kernel
theorem dX4_behind_12 : decode cX4_behind 12 = .ok (.iload_n 1, 1) := by decide +kernel
theorem dX4_behind_13 : decode cX4_behind 13 = .ok (.aload_n 0, 1) := by decide +kernel
theorem dX4_behind_14 : decode cX4_behind 14 = .ok (.getfield 25, 3) := by decide +kernel
theorem dX4_behind_17 : decode cX4_behind 17 = .ok (.iload_n 2, 1) := by decide +kernel
theorem dX4_behind_18 : decode cX4_behind 18 = .ok (.iaload, 1) := by decide +kernel
theorem dX4_behind_19 : decode cX4_behind 19 = .ok (.invokestatic 143, 3) := by decide +kernel
theorem dX4_behind_22 : decode cX4_behind 22 = .ok (.istore_n 1, 1) := by decide +kernel
theorem dX4_behind_23 : decode cX4_behind 23 = .ok (.iinc 2 1, 3) := by decide +kernel
theorem dX4_behind_26 : decode cX4_behind 26 = .ok (.goto (-22), 3) := by decide +kernel
theorem dX4_behind_29 : decode cX4_behind 29 = .ok (.iload_n 1, 1) := by decide +kernel
theorem dX4_behind_30 : decode cX4_behind 30 = .ok (.ireturn, 1) := by decide +kernel
theorem hd_X4_behind : yX4_behind.cls ≠ "java/lang/invoke/MethodHandle" ∧ yX4_behind.cls ≠ "java/lang/invoke/VarHandle" ∧ (parseMethodDescriptor yX4_behind.desc).map (fun d => d.parameters.length) = some 0 := by decide +kernel
def f_X4_behind_L4 (S : vS) : Nat → Int32 → Int32 →  Option Int32
  | 0, _, _ => none
  | n + 1, x1, x2 => if (S 0 2) ≤ x2 then some x1 else if inb x2 21 = true then b1 (f_X4_greater x1 (S 6 (x2.toNatClampNeg)) S) fun r4 => (f_X4_behind_L4 S n) r4 (x2 + 1) else none
def f_X4_behind  (S : vS) : Option Int32 := b1 (f_X4_behind_L4 S FU (0 : Int32) (0 : Int32)) fun y5 => some y5
set_option maxHeartbeats 4000000 in
set_option maxRecDepth 20000 in
theorem c_X4_behind (l : Launch) (D : va_G) (cI cO : ClassId) (ad : Nat → Nat)  (S : vS) (R9 : Int32) (hf : f_X4_behind  S = some R9) : CI l yX4_behind cX4_behind 3 .int ({ frames := 1, cells := 0, slots := 0, locals := 21 }) [.ref (ad 5)] D cI cO ad S R9 S := by
  refine CI.of (by decide +kernel) (Nat.le_of_ble_eq_true rfl) (fun p e s m args below meth c Q ls X hl hw hfin => ?_)
  have hl : lv_has ls 3 [(0, .ref (ad 5))] := hl
  have hx := X.1
  have hb := X.2.1
  have L4 : ∀ (n : Nat) (x1 : Int32) (x2 : Int32) (res : Int32), f_X4_behind_L4 S n x1 x2 = some res → (K : ∀ (y1 : Int32), some y1 = some res → ∀ (H : Heap) (locs : List Loc) (ls : Array Slot), WD D cI cO ad s S H locs → lv_has ls 3 [(1, .int y1)] → W p l e ({ frames := 1, cells := 0, slots := 0, locals := 21 }) s m args below meth c H locs 0 0 Q (F0 m 29 ls [])) → ∀ (H : Heap) (locs : List Loc) (ls : Array Slot), WD D cI cO ad s S H locs → lv_has ls 3 [(0, .ref (ad 5)), (1, .int x1), (2, .int x2)] → W p l e ({ frames := 1, cells := 0, slots := 0, locals := 21 }) s m args below meth c H locs 0 0 Q (F0 m 4 ls []) := by
    intro n
    induction n with
    | zero => intro x1 x2 res hf; cases hf
    | succ n ih =>
      intro x1 x2 res hf K H locs ls hw hl
      unfold f_X4_behind_L4 at hf
      refine lv_iload_n hx hb dX4_behind_4 rfl (lv_at hl 2 rfl) ?_
      refine lv_aload_n hx hb dX4_behind_5 rfl (lv_at hl 0 rfl) ?_
      refine x_get X hw 5 (Nat.le_of_ble_eq_true rfl) ce5 rfl i_X4 15 (by decide) q605 ⟨rfl, rfl, rfl⟩ rfl dX4_behind_6 ?_
      refine lv_icmp_ge (tgt := 29) hx hb dX4_behind_9 (by decide) (fun c1 => ?_) (fun c1 => ?_)
      · replace hf := if_t c1 hf
        exact K x1 hf _ _ _ hw (lv_sub hl [1] rfl)
      · replace hf := if_f c1 hf
        refine lv_iload_n hx hb dX4_behind_12 rfl (lv_at hl 1 rfl) ?_
        refine lv_aload_n hx hb dX4_behind_13 rfl (lv_at hl 0 rfl) ?_
        refine x_get X hw 5 (Nat.le_of_ble_eq_true rfl) ce5 rfl i_X4 5 (by decide) q595 ⟨rfl, rfl, rfl⟩ rfl dX4_behind_14 ?_
        refine lv_iload_n hx hb dX4_behind_17 rfl (lv_at hl 2 rfl) ?_
        obtain ⟨h2, hf⟩ := if_s hf
        refine x_iald X hw 6 ⟨Nat.le_of_ble_eq_true rfl, Nat.le_of_ble_eq_true rfl⟩ rfl h2 (x2.toNatClampNeg) rfl dX4_behind_18 ?_
        obtain ⟨r4, h3, hf⟩ := b1_s hf
        refine kSi X hw (c_X4_greater l D cI cO ad x1 (S 6 (x2.toNatClampNeg)) S r4 h3) ⟨rfl, rfl⟩ q791 q792 q64 q793 hd_X4_greater ⟨Nat.le_of_ble_eq_true rfl, Nat.le_of_ble_eq_true rfl⟩ rfl hl.1 rfl (Nat.le_of_ble_eq_true rfl) dX4_behind_19 (fun H locs hw => ?_)
        refine lv_istore_n (lv' := [(1, .int r4), (0, .ref (ad 5)), (2, .int x2)]) hx hb dX4_behind_22 rfl hl (by decide) rfl (fun ls hl => ?_)
        refine lv_iinc (v := (x2 + 1)) (lv' := [(2, .int (x2 + 1)), (1, .int r4), (0, .ref (ad 5))]) hx hb dX4_behind_23 hl (k := 2) rfl rfl (by decide) rfl (fun ls hl => ?_)
        refine lv_goto (tgt := 4) hx hb dX4_behind_26 (by decide) ?_
        exact ih r4 (x2 + 1) _ hf K _ _ _ hw (lv_sub hl [2, 1, 0] rfl)
  unfold f_X4_behind at hf
  refine lv_iconst (v := 0) hx hb dX4_behind_0 (by decide) ?_
  refine lv_istore_n (lv' := [(1, .int (0 : Int32)), (0, .ref (ad 5))]) hx hb dX4_behind_1 rfl hl (by decide) rfl (fun ls hl => ?_)
  refine lv_iconst (v := 0) hx hb dX4_behind_2 (by decide) ?_
  refine lv_istore_n (lv' := [(2, .int (0 : Int32)), (1, .int (0 : Int32)), (0, .ref (ad 5))]) hx hb dX4_behind_3 rfl hl (by decide) rfl (fun ls hl => ?_)
  obtain ⟨y5, h6, hf⟩ := b1_s hf
  refine L4 FU (0 : Int32) (0 : Int32) _ h6 (fun y5' eK H locs ls hw hl => ?_) _ _ _ hw (lv_sub hl [2, 1, 0] rfl)
  cases eK
  refine lv_iload_n hx hb dX4_behind_29 rfl (lv_at hl 0 rfl) ?_
  exact hfin _ _ _ _ _ _ hw (Option.some.inj hf) rfl (narI _) dX4_behind_30
/-- NineLandsModel.findsWith(IIII)V -/
theorem dX4_findsWith_0 : decode cX4_findsWith 0 = .ok (.aload_n 0, 1) := by decide +kernel
theorem dX4_findsWith_1 : decode cX4_findsWith 1 = .ok (.getfield 16, 3) := by decide +kernel
theorem dX4_findsWith_4 : decode cX4_findsWith 4 = .ok (.aload_n 0, 1) := by decide +kernel
theorem dX4_findsWith_5 : decode cX4_findsWith 5 = .ok (.getfield 102, 3) := by decide +kernel
theorem dX4_findsWith_8 : decode cX4_findsWith 8 = .ok (.iload_n 1, 1) := by decide +kernel
theorem dX4_findsWith_9 : decode cX4_findsWith 9 = .ok (.iastore, 1) := by decide +kernel
theorem dX4_findsWith_10 : decode cX4_findsWith 10 = .ok (.aload_n 0, 1) := by decide +kernel
theorem dX4_findsWith_11 : decode cX4_findsWith 11 = .ok (.getfield 19, 3) := by decide +kernel
theorem dX4_findsWith_14 : decode cX4_findsWith 14 = .ok (.aload_n 0, 1) := by decide +kernel
theorem dX4_findsWith_15 : decode cX4_findsWith 15 = .ok (.getfield 102, 3) := by decide +kernel
theorem dX4_findsWith_18 : decode cX4_findsWith 18 = .ok (.iconst 3, 1) := by decide +kernel
theorem dX4_findsWith_19 : decode cX4_findsWith 19 = .ok (.iastore, 1) := by decide +kernel
theorem dX4_findsWith_20 : decode cX4_findsWith 20 = .ok (.aload_n 0, 1) := by decide +kernel
theorem dX4_findsWith_21 : decode cX4_findsWith 21 = .ok (.getfield 22, 3) := by decide +kernel
theorem dX4_findsWith_24 : decode cX4_findsWith 24 = .ok (.aload_n 0, 1) := by decide +kernel
theorem dX4_findsWith_25 : decode cX4_findsWith 25 = .ok (.getfield 102, 3) := by decide +kernel
theorem dX4_findsWith_28 : decode cX4_findsWith 28 = .ok (.iload_n 2, 1) := by decide +kernel
theorem dX4_findsWith_29 : decode cX4_findsWith 29 = .ok (.iastore, 1) := by decide +kernel
theorem dX4_findsWith_30 : decode cX4_findsWith 30 = .ok (.aload_n 0, 1) := by decide +kernel
theorem dX4_findsWith_31 : decode cX4_findsWith 31 = .ok (.getfield 25, 3) := by decide +kernel
theorem dX4_findsWith_34 : decode cX4_findsWith 34 = .ok (.aload_n 0, 1) := by decide +kernel
theorem dX4_findsWith_35 : decode cX4_findsWith 35 = .ok (.getfield 102, 3) := by decide +kernel
theorem dX4_findsWith_38 : decode cX4_findsWith 38 = .ok (.iload_n 2, 1) := by decide +kernel
theorem dX4_findsWith_39 : decode cX4_findsWith 39 = .ok (.iload_n 3, 1) := by decide +kernel
theorem dX4_findsWith_40 : decode cX4_findsWith 40 = .ok (.iadd, 1) := by decide +kernel
theorem dX4_findsWith_41 : decode cX4_findsWith 41 = .ok (.sipush 900, 3) := by decide +kernel
theorem dX4_findsWith_44 : decode cX4_findsWith 44 = .ok (.if_icmp .ge 9, 3) := by decide +kernel
theorem dX4_findsWith_47 : decode cX4_findsWith 47 = .ok (.iload_n 2, 1) := by decide +kernel
theorem dX4_findsWith_48 : decode cX4_findsWith 48 = .ok (.iload_n 3, 1) := by decide +kernel
theorem dX4_findsWith_49 : decode cX4_findsWith 49 = .ok (.iadd, 1) := by decide +kernel
theorem dX4_findsWith_50 : decode cX4_findsWith 50 = .ok (.goto 6, 3) := by decide +kernel
theorem dX4_findsWith_53 : decode cX4_findsWith 53 = .ok (.sipush 900, 3) := by decide +kernel
theorem dX4_findsWith_56 : decode cX4_findsWith 56 = .ok (.iastore, 1) := by decide +kernel
theorem dX4_findsWith_57 : decode cX4_findsWith 57 = .ok (.aload_n 0, 1) := by decide +kernel
theorem dX4_findsWith_58 : decode cX4_findsWith 58 = .ok (.getfield 28, 3) := by decide +kernel
theorem dX4_findsWith_61 : decode cX4_findsWith 61 = .ok (.aload_n 0, 1) := by decide +kernel
theorem dX4_findsWith_62 : decode cX4_findsWith 62 = .ok (.getfield 102, 3) := by decide +kernel
theorem dX4_findsWith_65 : decode cX4_findsWith 65 = .ok (.iload 4, 2) := by decide +kernel
theorem dX4_findsWith_67 : decode cX4_findsWith 67 = .ok (.iastore, 1) := by decide +kernel
theorem dX4_findsWith_68 : decode cX4_findsWith 68 = .ok (.aload_n 0, 1) := by decide +kernel
theorem dX4_findsWith_69 : decode cX4_findsWith 69 = .ok (.getfield 31, 3) := by decide +kernel
theorem dX4_findsWith_72 : decode cX4_findsWith 72 = .ok (.aload_n 0, 1) := by decide +kernel
theorem dX4_findsWith_73 : decode cX4_findsWith 73 = .ok (.getfield 102, 3) := by decide +kernel
theorem dX4_findsWith_76 : decode cX4_findsWith 76 = .ok (.iconst 1, 1) := by decide +kernel
theorem dX4_findsWith_77 : decode cX4_findsWith 77 = .ok (.iastore, 1) := by decide +kernel
theorem dX4_findsWith_78 : decode cX4_findsWith 78 = .ok (.aload_n 0, 1) := by decide +kernel
theorem dX4_findsWith_79 : decode cX4_findsWith 79 = .ok (.getfield 34, 3) := by decide +kernel
theorem dX4_findsWith_82 : decode cX4_findsWith 82 = .ok (.aload_n 0, 1) := by decide +kernel
theorem dX4_findsWith_83 : decode cX4_findsWith 83 = .ok (.getfield 102, 3) := by decide +kernel
theorem dX4_findsWith_86 : decode cX4_findsWith 86 = .ok (.iconst 1, 1) := by decide +kernel
theorem dX4_findsWith_87 : decode cX4_findsWith 87 = .ok (.iastore, 1) := by decide +kernel
theorem dX4_findsWith_88 : decode cX4_findsWith 88 = .ok (.aload_n 0, 1) := by decide +kernel
theorem dX4_findsWith_89 : decode cX4_findsWith 89 = .ok (.aload_n 0, 1) := by decide +kernel
theorem dX4_findsWith_90 : decode cX4_findsWith 90 = .ok (.getfield 102, 3) := by decide +kernel
theorem dX4_findsWith_93 : decode cX4_findsWith 93 = .ok (.iconst 1, 1) := by decide +kernel
theorem dX4_findsWith_94 : decode cX4_findsWith 94 = .ok (.iadd, 1) := by decide +kernel
theorem dX4_findsWith_95 : decode cX4_findsWith 95 = .ok (.invokevirtual 163, 3) := by decide +kernel
theorem dX4_findsWith_98 : decode cX4_findsWith 98 = .ok (.return_, 1) := by decide +kernel
theorem hd_X4_findsWith : yX4_findsWith.cls ≠ "java/lang/invoke/MethodHandle" ∧ yX4_findsWith.cls ≠ "java/lang/invoke/VarHandle" ∧ (parseMethodDescriptor yX4_findsWith.desc).map (fun d => d.parameters.length) = some 4 := by decide +kernel
def f_X4_findsWith_J56 (x4 : Int32) (k1 : Int32) (k2 : Int32) (S : vS) : Option vS := if inb k1 21 = true then lt (upk S 6 (upd (S 6) (k1.toNatClampNeg) k2)) fun S9 => if inb (S9 0 2) 21 = true then lt (upk S9 7 (upd (S9 7) ((S9 0 2).toNatClampNeg) x4)) fun S11 => if inb (S11 0 2) 21 = true then lt (upk S11 8 (upd (S11 8) ((S11 0 2).toNatClampNeg) (1 : Int32))) fun S13 => if inb (S13 0 2) 21 = true then lt (upk S13 9 (upd (S13 9) ((S13 0 2).toNatClampNeg) (1 : Int32))) fun S15 => b1 (f_X4_finds ((S15 0 2) + (1 : Int32)) S15) fun S17 => some S17 else none else none else none else none
def f_X4_findsWith (a1 : Int32) (a2 : Int32) (a3 : Int32) (a4 : Int32) (S : vS) : Option vS := if inb (S 0 2) 21 = true then lt (upk S 3 (upd (S 3) ((S 0 2).toNatClampNeg) a1)) fun S2 => if inb (S2 0 2) 21 = true then lt (upk S2 4 (upd (S2 4) ((S2 0 2).toNatClampNeg) (3 : Int32))) fun S4 => if inb (S4 0 2) 21 = true then lt (upk S4 5 (upd (S4 5) ((S4 0 2).toNatClampNeg) a2)) fun S6 => if (900 : Int32) ≤ (a2 + a3) then f_X4_findsWith_J56 a4 (S6 0 2) (900 : Int32) S6 else f_X4_findsWith_J56 a4 (S6 0 2) (a2 + a3) S6 else none else none else none
set_option maxHeartbeats 4000000 in
set_option maxRecDepth 20000 in
theorem c_X4_findsWith (l : Launch) (D : va_G) (cI cO : ClassId) (ad : Nat → Nat) (a1 : Int32) (a2 : Int32) (a3 : Int32) (a4 : Int32) (S : vS) (S9 : vS) (hf : f_X4_findsWith a1 a2 a3 a4 S = some S9) : CV l yX4_findsWith cX4_findsWith 5 ({ frames := 5, cells := 0, slots := 0, locals := 114 }) [.ref (ad 5), .int a1, .int a2, .int a3, .int a4] D cI cO ad S S9 := by
  refine CV.of (r := 0) (by decide +kernel) (Nat.le_of_ble_eq_true rfl) (fun p e s m args below meth c Q ls X hl hw hfin => ?_)
  have hl : lv_has ls 5 [(0, .ref (ad 5)), (1, .int a1), (2, .int a2), (3, .int a3), (4, .int a4)] := hl
  have hx := X.1
  have hb := X.2.1
  have J56 : ∀ (x4 : Int32) (k1 : Int32) (k2 : Int32) (S : vS), f_X4_findsWith_J56 x4 k1 k2 S = some S9 → ∀ (H : Heap) (locs : List Loc) (ls : Array Slot), WD D cI cO ad s S H locs → lv_has ls 5 [(0, .ref (ad 5)), (4, .int x4)] → W p l e ({ frames := 5, cells := 0, slots := 0, locals := 114 }) s m args below meth c H locs 0 0 Q (F0 m 56 ls [.int k2, .int k1, .ref (ar ad 6)]) := by
    intro x4 k1 k2 S hf H locs ls hw hl
    unfold f_X4_findsWith_J56 at hf
    obtain ⟨h8, hf⟩ := if_s hf
    refine x_iast X hw 6 ⟨Nat.le_of_ble_eq_true rfl, Nat.le_of_ble_eq_true rfl⟩ rfl h8 (k1.toNatClampNeg) rfl dX4_findsWith_56 (fun S9 eS9 H locs hw => ?_)
    replace hf := lt_e eS9 hf
    refine lv_aload_n hx hb dX4_findsWith_57 rfl (lv_at hl 0 rfl) ?_
    refine x_get X hw 5 (Nat.le_of_ble_eq_true rfl) ce5 rfl i_X4 6 (by decide) q596 ⟨rfl, rfl, rfl⟩ rfl dX4_findsWith_58 ?_
    refine lv_aload_n hx hb dX4_findsWith_61 rfl (lv_at hl 0 rfl) ?_
    refine x_get X hw 5 (Nat.le_of_ble_eq_true rfl) ce5 rfl i_X4 15 (by decide) q605 ⟨rfl, rfl, rfl⟩ rfl dX4_findsWith_62 ?_
    refine lv_iload hx hb dX4_findsWith_65 (lv_at hl 1 rfl) ?_
    obtain ⟨h10, hf⟩ := if_s hf
    refine x_iast X hw 7 ⟨Nat.le_of_ble_eq_true rfl, Nat.le_of_ble_eq_true rfl⟩ rfl h10 ((S9 0 2).toNatClampNeg) rfl dX4_findsWith_67 (fun S11 eS11 H locs hw => ?_)
    replace hf := lt_e eS11 hf
    refine lv_aload_n hx hb dX4_findsWith_68 rfl (lv_at hl 0 rfl) ?_
    refine x_get X hw 5 (Nat.le_of_ble_eq_true rfl) ce5 rfl i_X4 7 (by decide) q597 ⟨rfl, rfl, rfl⟩ rfl dX4_findsWith_69 ?_
    refine lv_aload_n hx hb dX4_findsWith_72 rfl (lv_at hl 0 rfl) ?_
    refine x_get X hw 5 (Nat.le_of_ble_eq_true rfl) ce5 rfl i_X4 15 (by decide) q605 ⟨rfl, rfl, rfl⟩ rfl dX4_findsWith_73 ?_
    refine lv_iconst (v := 1) hx hb dX4_findsWith_76 (by decide) ?_
    obtain ⟨h12, hf⟩ := if_s hf
    refine x_iast X hw 8 ⟨Nat.le_of_ble_eq_true rfl, Nat.le_of_ble_eq_true rfl⟩ rfl h12 ((S11 0 2).toNatClampNeg) rfl dX4_findsWith_77 (fun S13 eS13 H locs hw => ?_)
    replace hf := lt_e eS13 hf
    refine lv_aload_n hx hb dX4_findsWith_78 rfl (lv_at hl 0 rfl) ?_
    refine x_get X hw 5 (Nat.le_of_ble_eq_true rfl) ce5 rfl i_X4 8 (by decide) q598 ⟨rfl, rfl, rfl⟩ rfl dX4_findsWith_79 ?_
    refine lv_aload_n hx hb dX4_findsWith_82 rfl (lv_at hl 0 rfl) ?_
    refine x_get X hw 5 (Nat.le_of_ble_eq_true rfl) ce5 rfl i_X4 15 (by decide) q605 ⟨rfl, rfl, rfl⟩ rfl dX4_findsWith_83 ?_
    refine lv_iconst (v := 1) hx hb dX4_findsWith_86 (by decide) ?_
    obtain ⟨h14, hf⟩ := if_s hf
    refine x_iast X hw 9 ⟨Nat.le_of_ble_eq_true rfl, Nat.le_of_ble_eq_true rfl⟩ rfl h14 ((S13 0 2).toNatClampNeg) rfl dX4_findsWith_87 (fun S15 eS15 H locs hw => ?_)
    replace hf := lt_e eS15 hf
    refine lv_aload_n hx hb dX4_findsWith_88 rfl (lv_at hl 0 rfl) ?_
    refine lv_aload_n hx hb dX4_findsWith_89 rfl (lv_at hl 0 rfl) ?_
    refine x_get X hw 5 (Nat.le_of_ble_eq_true rfl) ce5 rfl i_X4 15 (by decide) q605 ⟨rfl, rfl, rfl⟩ rfl dX4_findsWith_90 ?_
    refine lv_iconst (v := 1) hx hb dX4_findsWith_93 (by decide) ?_
    refine lv_iadd hx hb dX4_findsWith_94 ?_
    obtain ⟨S17, h16, hf⟩ := b1_s hf
    refine kVv X hw (c_X4_finds l D cI cO ad ((S15 0 2) + (1 : Int32)) S15 S17 h16) (Nat.le_of_ble_eq_true rfl) ce5 rfl ⟨rfl, rfl⟩ q806 q808 q49 q64 q809 hd_X4_finds ⟨Nat.le_of_ble_eq_true rfl, Nat.le_of_ble_eq_true rfl⟩ rfl hl.1 rfl (Nat.le_of_ble_eq_true rfl) dX4_findsWith_95 (fun H locs hw => ?_)
    exact hfin _ _ 0 _ _ _ hw rfl (Option.some.inj hf) dX4_findsWith_98
  unfold f_X4_findsWith at hf
  refine lv_aload_n hx hb dX4_findsWith_0 rfl (lv_at hl 0 rfl) ?_
  refine x_get X hw 5 (Nat.le_of_ble_eq_true rfl) ce5 rfl i_X4 2 (by decide) q592 ⟨rfl, rfl, rfl⟩ rfl dX4_findsWith_1 ?_
  refine lv_aload_n hx hb dX4_findsWith_4 rfl (lv_at hl 0 rfl) ?_
  refine x_get X hw 5 (Nat.le_of_ble_eq_true rfl) ce5 rfl i_X4 15 (by decide) q605 ⟨rfl, rfl, rfl⟩ rfl dX4_findsWith_5 ?_
  refine lv_iload_n hx hb dX4_findsWith_8 rfl (lv_at hl 1 rfl) ?_
  obtain ⟨h1, hf⟩ := if_s hf
  refine x_iast X hw 3 ⟨Nat.le_of_ble_eq_true rfl, Nat.le_of_ble_eq_true rfl⟩ rfl h1 ((S 0 2).toNatClampNeg) rfl dX4_findsWith_9 (fun S2 eS2 H locs hw => ?_)
  replace hf := lt_e eS2 hf
  refine lv_aload_n hx hb dX4_findsWith_10 rfl (lv_at hl 0 rfl) ?_
  refine x_get X hw 5 (Nat.le_of_ble_eq_true rfl) ce5 rfl i_X4 3 (by decide) q593 ⟨rfl, rfl, rfl⟩ rfl dX4_findsWith_11 ?_
  refine lv_aload_n hx hb dX4_findsWith_14 rfl (lv_at hl 0 rfl) ?_
  refine x_get X hw 5 (Nat.le_of_ble_eq_true rfl) ce5 rfl i_X4 15 (by decide) q605 ⟨rfl, rfl, rfl⟩ rfl dX4_findsWith_15 ?_
  refine lv_iconst (v := 3) hx hb dX4_findsWith_18 (by decide) ?_
  obtain ⟨h3, hf⟩ := if_s hf
  refine x_iast X hw 4 ⟨Nat.le_of_ble_eq_true rfl, Nat.le_of_ble_eq_true rfl⟩ rfl h3 ((S2 0 2).toNatClampNeg) rfl dX4_findsWith_19 (fun S4 eS4 H locs hw => ?_)
  replace hf := lt_e eS4 hf
  refine lv_aload_n hx hb dX4_findsWith_20 rfl (lv_at hl 0 rfl) ?_
  refine x_get X hw 5 (Nat.le_of_ble_eq_true rfl) ce5 rfl i_X4 4 (by decide) q594 ⟨rfl, rfl, rfl⟩ rfl dX4_findsWith_21 ?_
  refine lv_aload_n hx hb dX4_findsWith_24 rfl (lv_at hl 0 rfl) ?_
  refine x_get X hw 5 (Nat.le_of_ble_eq_true rfl) ce5 rfl i_X4 15 (by decide) q605 ⟨rfl, rfl, rfl⟩ rfl dX4_findsWith_25 ?_
  refine lv_iload_n hx hb dX4_findsWith_28 rfl (lv_at hl 2 rfl) ?_
  obtain ⟨h5, hf⟩ := if_s hf
  refine x_iast X hw 5 ⟨Nat.le_of_ble_eq_true rfl, Nat.le_of_ble_eq_true rfl⟩ rfl h5 ((S4 0 2).toNatClampNeg) rfl dX4_findsWith_29 (fun S6 eS6 H locs hw => ?_)
  replace hf := lt_e eS6 hf
  refine lv_aload_n hx hb dX4_findsWith_30 rfl (lv_at hl 0 rfl) ?_
  refine x_get X hw 5 (Nat.le_of_ble_eq_true rfl) ce5 rfl i_X4 5 (by decide) q595 ⟨rfl, rfl, rfl⟩ rfl dX4_findsWith_31 ?_
  refine lv_aload_n hx hb dX4_findsWith_34 rfl (lv_at hl 0 rfl) ?_
  refine x_get X hw 5 (Nat.le_of_ble_eq_true rfl) ce5 rfl i_X4 15 (by decide) q605 ⟨rfl, rfl, rfl⟩ rfl dX4_findsWith_35 ?_
  refine lv_iload_n hx hb dX4_findsWith_38 rfl (lv_at hl 2 rfl) ?_
  refine lv_iload_n hx hb dX4_findsWith_39 rfl (lv_at hl 3 rfl) ?_
  refine lv_iadd hx hb dX4_findsWith_40 ?_
  refine lv_sipush (v := 900) hx hb dX4_findsWith_41 (by decide +kernel) ?_
  refine lv_icmp_ge (tgt := 53) hx hb dX4_findsWith_44 (by decide) (fun c7 => ?_) (fun c7 => ?_)
  · replace hf := if_t c7 hf
    refine lv_sipush (v := 900) hx hb dX4_findsWith_53 (by decide +kernel) ?_
    exact J56 a4 (S6 0 2) (900 : Int32) S6 hf _ _ _ hw (lv_sub hl [0, 4] rfl)
  · replace hf := if_f c7 hf
    refine lv_iload_n hx hb dX4_findsWith_47 rfl (lv_at hl 2 rfl) ?_
    refine lv_iload_n hx hb dX4_findsWith_48 rfl (lv_at hl 3 rfl) ?_
    refine lv_iadd hx hb dX4_findsWith_49 ?_
    refine lv_goto (tgt := 56) hx hb dX4_findsWith_50 (by decide) ?_
    exact J56 a4 (S6 0 2) (a2 + a3) S6 hf _ _ _ hw (lv_sub hl [0, 4] rfl)
/-- NineLandsModel.edge(II)I -/
theorem dX4_edge_0 : decode cX4_edge 0 = .ok (.iload_n 1, 1) := by decide +kernel
theorem dX4_edge_1 : decode cX4_edge 1 = .ok (.invokestatic 105, 3) := by decide +kernel
theorem dX4_edge_4 : decode cX4_edge 4 = .ok (.ifCond .ne 9, 3) := by decide +kernel
theorem dX4_edge_7 : decode cX4_edge 7 = .ok (.aload_n 0, 1) := by decide +kernel
theorem dX4_edge_8 : decode cX4_edge 8 = .ok (.iconst (-1), 1) := by decide +kernel
theorem dX4_edge_9 : decode cX4_edge 9 = .ok (.invokevirtual 85, 3) := by decide +kernel
theorem dX4_edge_12 : decode cX4_edge 12 = .ok (.ireturn, 1) := by decide +kernel
theorem dX4_edge_13 : decode cX4_edge 13 = .ok (.iload_n 2, 1) := by decide +kernel
theorem dX4_edge_14 : decode cX4_edge 14 = .ok (.iconst 0, 1) := by decide +kernel
theorem dX4_edge_15 : decode cX4_edge 15 = .ok (.sipush 999, 3) := by decide +kernel
theorem dX4_edge_18 : decode cX4_edge 18 = .ok (.invokestatic 78, 3) := by decide +kernel
theorem dX4_edge_21 : decode cX4_edge 21 = .ok (.istore_n 3, 1) := by decide +kernel
theorem dX4_edge_22 : decode cX4_edge 22 = .ok (.iload_n 3, 1) := by decide +kernel
theorem dX4_edge_23 : decode cX4_edge 23 = .ok (.ifCond .ne 15, 3) := by decide +kernel
theorem dX4_edge_26 : decode cX4_edge 26 = .ok (.aload_n 0, 1) := by decide +kernel
theorem dX4_edge_27 : decode cX4_edge 27 = .ok (.getfield 102, 3) := by decide +kernel
theorem dX4_edge_30 : decode cX4_edge 30 = .ok (.bipush 20, 2) := by decide +kernel
theorem dX4_edge_32 : decode cX4_edge 32 = .ok (.if_icmp .ne 6, 3) := by decide +kernel
theorem dX4_edge_35 : decode cX4_edge 35 = .ok (.bipush (-3), 2) := by decide +kernel
theorem dX4_edge_37 : decode cX4_edge 37 = .ok (.istore_n 3, 1) := by decide +kernel
theorem dX4_edge_38 : decode cX4_edge 38 = .ok (.iload_n 3, 1) := by decide +kernel
theorem dX4_edge_39 : decode cX4_edge 39 = .ok (.ifCond .eq 9, 3) := by decide +kernel
theorem dX4_edge_42 : decode cX4_edge 42 = .ok (.aload_n 0, 1) := by decide +kernel
theorem dX4_edge_43 : decode cX4_edge 43 = .ok (.iload_n 3, 1) := by decide +kernel
theorem dX4_edge_44 : decode cX4_edge 44 = .ok (.invokevirtual 85, 3) := by decide +kernel
theorem dX4_edge_47 : decode cX4_edge 47 = .ok (.ireturn, 1) := by decide +kernel
theorem dX4_edge_48 : decode cX4_edge 48 = .ok (.aload_n 0, 1) := by decide +kernel
theorem dX4_edge_49 : decode cX4_edge 49 = .ok (.aload_n 0, 1) := by decide +kernel
theorem dX4_edge_50 : decode cX4_edge 50 = .ok (.getfield 102, 3) := by decide +kernel
theorem dX4_edge_53 : decode cX4_edge 53 = .ok (.invokevirtual 163, 3) := by decide +kernel
theorem dX4_edge_56 : decode cX4_edge 56 = .ok (.aload_n 0, 1) := by decide +kernel
theorem dX4_edge_57 : decode cX4_edge 57 = .ok (.getfield 68, 3) := by decide +kernel
theorem dX4_edge_60 : decode cX4_edge 60 = .ok (.iload_n 1, 1) := by decide +kernel
theorem dX4_edge_61 : decode cX4_edge 61 = .ok (.iaload, 1) := by decide +kernel
theorem dX4_edge_62 : decode cX4_edge 62 = .ok (.istore 4, 2) := by decide +kernel
theorem dX4_edge_64 : decode cX4_edge 64 = .ok (.aload_n 0, 1) := by decide +kernel
theorem dX4_edge_65 : decode cX4_edge 65 = .ok (.invokevirtual 172, 3) := by decide +kernel
theorem dX4_edge_68 : decode cX4_edge 68 = .ok (.istore 5, 2) := by decide +kernel
theorem dX4_edge_70 : decode cX4_edge 70 = .ok (.iconst 1, 1) := by decide +kernel
theorem dX4_edge_71 : decode cX4_edge 71 = .ok (.istore 6, 2) := by decide +kernel
theorem dX4_edge_73 : decode cX4_edge 73 = .ok (.iload 6, 2) := by decide +kernel
theorem dX4_edge_75 : decode cX4_edge 75 = .ok (.bipush 120, 2) := by decide +kernel
theorem dX4_edge_77 : decode cX4_edge 77 = .ok (.if_icmp .gt 44, 3) := by decide +kernel
theorem dX4_edge_80 : decode cX4_edge 80 = .ok (.iload 5, 2) := by decide +kernel
theorem dX4_edge_82 : decode cX4_edge 82 = .ok (.iload 6, 2) := by decide +kernel
theorem dX4_edge_84 : decode cX4_edge 84 = .ok (.iadd, 1) := by decide +kernel
theorem dX4_edge_85 : decode cX4_edge 85 = .ok (.sipush 900, 3) := by decide +kernel
theorem dX4_edge_88 : decode cX4_edge 88 = .ok (.if_icmp .gt 33, 3) := by decide +kernel
theorem dX4_edge_91 : decode cX4_edge 91 = .ok (.aload_n 0, 1) := by decide +kernel
theorem dX4_edge_92 : decode cX4_edge 92 = .ok (.iload_n 1, 1) := by decide +kernel
theorem dX4_edge_93 : decode cX4_edge 93 = .ok (.iload 5, 2) := by decide +kernel
theorem dX4_edge_95 : decode cX4_edge 95 = .ok (.iload 6, 2) := by decide +kernel
theorem dX4_edge_97 : decode cX4_edge 97 = .ok (.iload_n 2, 1) := by decide +kernel
theorem dX4_edge_98 : decode cX4_edge 98 = .ok (.invokevirtual 175, 3) := by decide +kernel
theorem dX4_edge_101 : decode cX4_edge 101 = .ok (.aload_n 0, 1) := by decide +kernel
theorem dX4_edge_102 : decode cX4_edge 102 = .ok (.getfield 68, 3) := by decide +kernel
theorem dX4_edge_105 : decode cX4_edge 105 = .ok (.iload_n 1, 1) := by decide +kernel
theorem dX4_edge_106 : decode cX4_edge 106 = .ok (.iaload, 1) := by decide +kernel
theorem dX4_edge_107 : decode cX4_edge 107 = .ok (.iload 4, 2) := by decide +kernel
theorem dX4_edge_109 : decode cX4_edge 109 = .ok (.if_icmp .le 6, 3) := by decide +kernel
theorem dX4_edge_112 : decode cX4_edge 112 = .ok (.iload 6, 2) := by decide +kernel
theorem dX4_edge_114 : decode cX4_edge 114 = .ok (.ireturn, 1) := by decide +kernel
theorem dX4_edge_115 : decode cX4_edge 115 = .ok (.iinc 6 1, 3) := by decide +kernel
theorem dX4_edge_118 : decode cX4_edge 118 = .ok (.goto (-45), 3) := by decide +kernel
theorem dX4_edge_121 : decode cX4_edge 121 = .ok (.bipush (-9), 2) := by decide +kernel
theorem dX4_edge_123 : decode cX4_edge 123 = .ok (.ireturn, 1) := by decide +kernel
theorem hd_X4_edge : yX4_edge.cls ≠ "java/lang/invoke/MethodHandle" ∧ yX4_edge.cls ≠ "java/lang/invoke/VarHandle" ∧ (parseMethodDescriptor yX4_edge.desc).map (fun d => d.parameters.length) = some 2 := by decide +kernel
def f_X4_edge_L73 : Nat → Int32 → Int32 → Int32 → Int32 → Int32 → vS → Option (vS ⊕ (Int32 × vS))
  | 0, _, _, _, _, _, _ => none
  | n + 1, x1, x2, x4, x5, x6, S => if (120 : Int32) < x6 then some (.inl S) else if (900 : Int32) < (x5 + x6) then some (.inl S) else b1 (f_X4_findsWith x1 x5 x6 x2 S) fun S17 => if inb x1 6 = true then if (S17 19 (x1.toNatClampNeg)) ≤ x4 then (f_X4_edge_L73 n) x1 x2 x4 x5 (x6 + 1) S17 else some (.inr (x6, S17)) else none
def f_X4_edge_J38 (x1 : Int32) (x2 : Int32) (x3 : Int32) (S : vS) : Option (Int32 × vS) := if x3 = 0 then b1 (f_X4_finds (S 0 2) S) fun S9 => if inb x1 6 = true then lt ((S9 19 (x1.toNatClampNeg))) fun v11 => b1 (f_X4_behind  S9) fun r13 => bS (f_X4_edge_L73 FU x1 x2 v11 r13 (1 : Int32) S9) some fun S20 => some ((-9 : Int32), S20) else none else b2 (f_X4_no x3 S) fun r24 S23 => some (r24, S23)
def f_X4_edge (a1 : Int32) (a2 : Int32) (S : vS) : Option (Int32 × vS) := b1 (f_X4_isLand a1 S) fun r2 => if r2 = 0 then b2 (f_X4_no (-1 : Int32) S) fun r28 S27 => some (r28, S27) else b1 (f_X4_out a2 (0 : Int32) (999 : Int32) S) fun r5 => if r5 = 0 then if (S 0 2) = (20 : Int32) then f_X4_edge_J38 a1 a2 (-3 : Int32) S else f_X4_edge_J38 a1 a2 r5 S else f_X4_edge_J38 a1 a2 r5 S
set_option maxHeartbeats 4000000 in
set_option maxRecDepth 20000 in
theorem c_X4_edge (l : Launch) (D : va_G) (cI cO : ClassId) (ad : Nat → Nat) (a1 : Int32) (a2 : Int32) (S : vS) (R9 : Int32) (S9 : vS) (hf : f_X4_edge a1 a2 S = some (R9, S9)) : CI l yX4_edge cX4_edge 7 .int ({ frames := 6, cells := 0, slots := 0, locals := 138 }) [.ref (ad 5), .int a1, .int a2] D cI cO ad S R9 S9 := by
  refine CI.of (by decide +kernel) (Nat.le_of_ble_eq_true rfl) (fun p e s m args below meth c Q ls X hl hw hfin => ?_)
  have hl : lv_has ls 7 [(0, .ref (ad 5)), (1, .int a1), (2, .int a2)] := hl
  have hx := X.1
  have hb := X.2.1
  have L73 : ∀ (n : Nat) (x1 : Int32) (x2 : Int32) (x4 : Int32) (x5 : Int32) (x6 : Int32) (S : vS) (res : (vS ⊕ (Int32 × vS))), f_X4_edge_L73 n x1 x2 x4 x5 x6 S = some res → (K : ∀  (S2 : vS), some (Sum.inl S2) = some res → ∀ (H : Heap) (locs : List Loc) (ls : Array Slot), WD D cI cO ad s S2 H locs → lv_has ls 7 [] → W p l e ({ frames := 6, cells := 0, slots := 0, locals := 138 }) s m args below meth c H locs 0 0 Q (F0 m 121 ls [])) → (K2 : ∀ q : (Int32 × vS), some (Sum.inr q) = some res → some q = some (R9, S9)) → ∀ (H : Heap) (locs : List Loc) (ls : Array Slot), WD D cI cO ad s S H locs → lv_has ls 7 [(0, .ref (ad 5)), (1, .int x1), (2, .int x2), (4, .int x4), (5, .int x5), (6, .int x6)] → W p l e ({ frames := 6, cells := 0, slots := 0, locals := 138 }) s m args below meth c H locs 0 0 Q (F0 m 73 ls []) := by
    intro n
    induction n with
    | zero => intro x1 x2 x4 x5 x6 S res hf; cases hf
    | succ n ih =>
      intro x1 x2 x4 x5 x6 S res hf K K2 H locs ls hw hl
      unfold f_X4_edge_L73 at hf
      refine lv_iload hx hb dX4_edge_73 (lv_at hl 5 rfl) ?_
      refine lv_bipush (v := 120) hx hb dX4_edge_75 (by decide +kernel) ?_
      refine lv_icmp_gt (tgt := 121) hx hb dX4_edge_77 (by decide) (fun c14 => ?_) (fun c14 => ?_)
      · replace hf := if_t c14 hf
        exact K S hf _ _ _ hw (lv_sub hl [] rfl)
      · replace hf := if_f c14 hf
        refine lv_iload hx hb dX4_edge_80 (lv_at hl 4 rfl) ?_
        refine lv_iload hx hb dX4_edge_82 (lv_at hl 5 rfl) ?_
        refine lv_iadd hx hb dX4_edge_84 ?_
        refine lv_sipush (v := 900) hx hb dX4_edge_85 (by decide +kernel) ?_
        refine lv_icmp_gt (tgt := 121) hx hb dX4_edge_88 (by decide) (fun c15 => ?_) (fun c15 => ?_)
        · replace hf := if_t c15 hf
          exact K S hf _ _ _ hw (lv_sub hl [] rfl)
        · replace hf := if_f c15 hf
          refine lv_aload_n hx hb dX4_edge_91 rfl (lv_at hl 0 rfl) ?_
          refine lv_iload_n hx hb dX4_edge_92 rfl (lv_at hl 1 rfl) ?_
          refine lv_iload hx hb dX4_edge_93 (lv_at hl 4 rfl) ?_
          refine lv_iload hx hb dX4_edge_95 (lv_at hl 5 rfl) ?_
          refine lv_iload_n hx hb dX4_edge_97 rfl (lv_at hl 2 rfl) ?_
          obtain ⟨S17, h16, hf⟩ := b1_s hf
          refine kVv X hw (c_X4_findsWith l D cI cO ad x1 x5 x6 x2 S S17 h16) (Nat.le_of_ble_eq_true rfl) ce5 rfl ⟨rfl, rfl⟩ q854 q856 q54 q64 q857 hd_X4_findsWith ⟨Nat.le_of_ble_eq_true rfl, Nat.le_of_ble_eq_true rfl⟩ rfl hl.1 rfl (Nat.le_of_ble_eq_true rfl) dX4_edge_98 (fun H locs hw => ?_)
          refine lv_aload_n hx hb dX4_edge_101 rfl (lv_at hl 0 rfl) ?_
          refine x_get X hw 5 (Nat.le_of_ble_eq_true rfl) ce5 rfl i_X4 22 (by decide) q612 ⟨rfl, rfl, rfl⟩ rfl dX4_edge_102 ?_
          refine lv_iload_n hx hb dX4_edge_105 rfl (lv_at hl 1 rfl) ?_
          obtain ⟨h18, hf⟩ := if_s hf
          refine x_iald X hw 19 ⟨Nat.le_of_ble_eq_true rfl, Nat.le_of_ble_eq_true rfl⟩ rfl h18 (x1.toNatClampNeg) rfl dX4_edge_106 ?_
          refine lv_iload hx hb dX4_edge_107 (lv_at hl 3 rfl) ?_
          refine lv_icmp_le (tgt := 115) hx hb dX4_edge_109 (by decide) (fun c19 => ?_) (fun c19 => ?_)
          · replace hf := if_t c19 hf
            refine lv_iinc (v := (x6 + 1)) (lv' := [(6, .int (x6 + 1)), (0, .ref (ad 5)), (1, .int x1), (2, .int x2), (4, .int x4), (5, .int x5)]) hx hb dX4_edge_115 hl (k := 5) rfl rfl (by decide) rfl (fun ls hl => ?_)
            refine lv_goto (tgt := 73) hx hb dX4_edge_118 (by decide) ?_
            exact ih x1 x2 x4 x5 (x6 + 1) S17 _ hf K K2 _ _ _ hw (lv_sub hl [1, 2, 3, 4, 5, 0] rfl)
          · replace hf := if_f c19 hf
            refine lv_iload hx hb dX4_edge_112 (lv_at hl 5 rfl) ?_
            replace hf := K2 _ hf
            exact hfin _ _ _ _ _ _ hw (s2a hf) (s2b hf) (narI _) dX4_edge_114
  have J38 : ∀ (x1 : Int32) (x2 : Int32) (x3 : Int32) (S : vS), f_X4_edge_J38 x1 x2 x3 S = some (R9, S9) → ∀ (H : Heap) (locs : List Loc) (ls : Array Slot), WD D cI cO ad s S H locs → lv_has ls 7 [(0, .ref (ad 5)), (1, .int x1), (2, .int x2), (3, .int x3)] → W p l e ({ frames := 6, cells := 0, slots := 0, locals := 138 }) s m args below meth c H locs 0 0 Q (F0 m 38 ls []) := by
    intro x1 x2 x3 S hf H locs ls hw hl
    unfold f_X4_edge_J38 at hf
    refine lv_iload_n hx hb dX4_edge_38 rfl (lv_at hl 3 rfl) ?_
    refine lv_if_eq (tgt := 48) hx hb dX4_edge_39 (by decide) (fun c7 => ?_) (fun c7 => ?_)
    · replace hf := if_t c7 hf
      refine lv_aload_n hx hb dX4_edge_48 rfl (lv_at hl 0 rfl) ?_
      refine lv_aload_n hx hb dX4_edge_49 rfl (lv_at hl 0 rfl) ?_
      refine x_get X hw 5 (Nat.le_of_ble_eq_true rfl) ce5 rfl i_X4 15 (by decide) q605 ⟨rfl, rfl, rfl⟩ rfl dX4_edge_50 ?_
      obtain ⟨S9, h8, hf⟩ := b1_s hf
      refine kVv X hw (c_X4_finds l D cI cO ad (S 0 2) S S9 h8) (Nat.le_of_ble_eq_true rfl) ce5 rfl ⟨rfl, rfl⟩ q806 q808 q49 q64 q809 hd_X4_finds ⟨Nat.le_of_ble_eq_true rfl, Nat.le_of_ble_eq_true rfl⟩ rfl hl.1 rfl (Nat.le_of_ble_eq_true rfl) dX4_edge_53 (fun H locs hw => ?_)
      refine lv_aload_n hx hb dX4_edge_56 rfl (lv_at hl 0 rfl) ?_
      refine x_get X hw 5 (Nat.le_of_ble_eq_true rfl) ce5 rfl i_X4 22 (by decide) q612 ⟨rfl, rfl, rfl⟩ rfl dX4_edge_57 ?_
      refine lv_iload_n hx hb dX4_edge_60 rfl (lv_at hl 1 rfl) ?_
      obtain ⟨h10, hf⟩ := if_s hf
      refine x_iald X hw 19 ⟨Nat.le_of_ble_eq_true rfl, Nat.le_of_ble_eq_true rfl⟩ rfl h10 (x1.toNatClampNeg) rfl dX4_edge_61 ?_
      refine lv_topi (fun v11 ev11 => ?_)
      replace hf := lt_e ev11 hf
      refine lv_istore (lv' := [(4, .int v11), (0, .ref (ad 5)), (1, .int x1), (2, .int x2), (3, .int x3)]) hx hb dX4_edge_62 hl (by decide) rfl (fun ls hl => ?_)
      refine lv_aload_n hx hb dX4_edge_64 rfl (lv_at hl 1 rfl) ?_
      obtain ⟨r13, h12, hf⟩ := b1_s hf
      refine kVi X hw (c_X4_behind l D cI cO ad  S9 r13 h12) (Nat.le_of_ble_eq_true rfl) ce5 rfl ⟨rfl, rfl⟩ q850 q852 q53 q64 q853 hd_X4_behind ⟨Nat.le_of_ble_eq_true rfl, Nat.le_of_ble_eq_true rfl⟩ rfl hl.1 rfl (Nat.le_of_ble_eq_true rfl) dX4_edge_65 (fun H locs hw => ?_)
      refine lv_istore (lv' := [(5, .int r13), (4, .int v11), (0, .ref (ad 5)), (1, .int x1), (2, .int x2), (3, .int x3)]) hx hb dX4_edge_68 hl (by decide) rfl (fun ls hl => ?_)
      refine lv_iconst (v := 1) hx hb dX4_edge_70 (by decide) ?_
      refine lv_istore (lv' := [(6, .int (1 : Int32)), (5, .int r13), (4, .int v11), (0, .ref (ad 5)), (1, .int x1), (2, .int x2), (3, .int x3)]) hx hb dX4_edge_71 hl (by decide) rfl (fun ls hl => ?_)
      obtain ⟨res, h21, hk1, hk2⟩ := bS_x hf
      refine L73 FU x1 x2 v11 r13 (1 : Int32) S9 res h21 (fun S20 eK H locs ls hw hl => ?_) (fun q eK => hk2 q (Option.some.inj eK).symm) _ _ _ hw (lv_sub hl [3, 4, 5, 2, 1, 0] rfl)
      replace hf := hk1 _ (Option.some.inj eK).symm
      refine lv_bipush (v := -9) hx hb dX4_edge_121 (by decide +kernel) ?_
      exact hfin _ _ _ _ _ _ hw (s2a hf) (s2b hf) (narI _) dX4_edge_123
    · replace hf := if_f c7 hf
      refine lv_aload_n hx hb dX4_edge_42 rfl (lv_at hl 0 rfl) ?_
      refine lv_iload_n hx hb dX4_edge_43 rfl (lv_at hl 3 rfl) ?_
      obtain ⟨r24, S23, h22, hf⟩ := b2_s hf
      refine kVi X hw (c_X4_no l D cI cO ad x3 S r24 S23 h22) (Nat.le_of_ble_eq_true rfl) ce5 rfl ⟨rfl, rfl⟩ q688 q690 q34 q64 q691 hd_X4_no ⟨Nat.le_of_ble_eq_true rfl, Nat.le_of_ble_eq_true rfl⟩ rfl hl.1 rfl (Nat.le_of_ble_eq_true rfl) dX4_edge_44 (fun H locs hw => ?_)
      exact hfin _ _ _ _ _ _ hw (s2a hf) (s2b hf) (narI _) dX4_edge_47
  unfold f_X4_edge at hf
  refine lv_iload_n hx hb dX4_edge_0 rfl (lv_at hl 1 rfl) ?_
  obtain ⟨r2, h1, hf⟩ := b1_s hf
  refine kSi X hw (c_X4_isLand l D cI cO ad a1 S r2 h1) ⟨rfl, rfl⟩ q705 q706 q64 q707 hd_X4_isLand ⟨Nat.le_of_ble_eq_true rfl, Nat.le_of_ble_eq_true rfl⟩ rfl hl.1 rfl (Nat.le_of_ble_eq_true rfl) dX4_edge_1 (fun H locs hw => ?_)
  refine lv_if_ne (tgt := 13) hx hb dX4_edge_4 (by decide) (fun c3 => ?_) (fun c3 => ?_)
  · replace hf := if_f c3 hf
    refine lv_iload_n hx hb dX4_edge_13 rfl (lv_at hl 2 rfl) ?_
    refine lv_iconst (v := 0) hx hb dX4_edge_14 (by decide) ?_
    refine lv_sipush (v := 999) hx hb dX4_edge_15 (by decide +kernel) ?_
    obtain ⟨r5, h4, hf⟩ := b1_s hf
    refine kSi X hw (c_X4_out l D cI cO ad a2 (0 : Int32) (999 : Int32) S r5 h4) ⟨rfl, rfl⟩ q685 q686 q64 q687 hd_X4_out ⟨Nat.le_of_ble_eq_true rfl, Nat.le_of_ble_eq_true rfl⟩ rfl hl.1 rfl (Nat.le_of_ble_eq_true rfl) dX4_edge_18 (fun H locs hw => ?_)
    refine lv_istore_n (lv' := [(3, .int r5), (0, .ref (ad 5)), (1, .int a1), (2, .int a2)]) hx hb dX4_edge_21 rfl hl (by decide) rfl (fun ls hl => ?_)
    refine lv_iload_n hx hb dX4_edge_22 rfl (lv_at hl 0 rfl) ?_
    refine lv_if_ne (tgt := 38) hx hb dX4_edge_23 (by decide) (fun c6 => ?_) (fun c6 => ?_)
    · replace hf := if_f c6 hf
      exact J38 a1 a2 r5 S hf _ _ _ hw (lv_sub hl [1, 2, 3, 0] rfl)
    · replace hf := if_t c6 hf
      refine lv_aload_n hx hb dX4_edge_26 rfl (lv_at hl 1 rfl) ?_
      refine x_get X hw 5 (Nat.le_of_ble_eq_true rfl) ce5 rfl i_X4 15 (by decide) q605 ⟨rfl, rfl, rfl⟩ rfl dX4_edge_27 ?_
      refine lv_bipush (v := 20) hx hb dX4_edge_30 (by decide +kernel) ?_
      refine lv_icmp_ne (tgt := 38) hx hb dX4_edge_32 (by decide) (fun c25 => ?_) (fun c25 => ?_)
      · replace hf := if_f c25 hf
        exact J38 a1 a2 r5 S hf _ _ _ hw (lv_sub hl [1, 2, 3, 0] rfl)
      · replace hf := if_t c25 hf
        refine lv_bipush (v := -3) hx hb dX4_edge_35 (by decide +kernel) ?_
        refine lv_istore_n (lv' := [(3, .int (-3 : Int32)), (0, .ref (ad 5)), (1, .int a1), (2, .int a2)]) hx hb dX4_edge_37 rfl hl (by decide) rfl (fun ls hl => ?_)
        exact J38 a1 a2 (-3 : Int32) S hf _ _ _ hw (lv_sub hl [1, 2, 3, 0] rfl)
  · replace hf := if_t c3 hf
    refine lv_aload_n hx hb dX4_edge_7 rfl (lv_at hl 0 rfl) ?_
    refine lv_iconst (v := -1) hx hb dX4_edge_8 (by decide) ?_
    obtain ⟨r28, S27, h26, hf⟩ := b2_s hf
    refine kVi X hw (c_X4_no l D cI cO ad (-1 : Int32) S r28 S27 h26) (Nat.le_of_ble_eq_true rfl) ce5 rfl ⟨rfl, rfl⟩ q688 q690 q34 q64 q691 hd_X4_no ⟨Nat.le_of_ble_eq_true rfl, Nat.le_of_ble_eq_true rfl⟩ rfl hl.1 rfl (Nat.le_of_ble_eq_true rfl) dX4_edge_9 (fun H locs hw => ?_)
    exact hfin _ _ _ _ _ _ hw (s2a hf) (s2b hf) (narI _) dX4_edge_12
/-- NineLandsModel.hangs()I -/
theorem dX4_hangs_0 : decode cX4_hangs 0 = .ok (.aload_n 0, 1) := by decide +kernel
theorem dX4_hangs_1 : decode cX4_hangs 1 = .ok (.aload_n 0, 1) := by decide +kernel
theorem dX4_hangs_2 : decode cX4_hangs 2 = .ok (.getfield 102, 3) := by decide +kernel
theorem dX4_hangs_5 : decode cX4_hangs 5 = .ok (.invokevirtual 163, 3) := by decide +kernel
theorem dX4_hangs_8 : decode cX4_hangs 8 = .ok (.aload_n 0, 1) := by decide +kernel
theorem dX4_hangs_9 : decode cX4_hangs 9 = .ok (.aload_n 0, 1) := by decide +kernel
theorem dX4_hangs_10 : decode cX4_hangs 10 = .ok (.getfield 68, 3) := by decide +kernel
theorem dX4_hangs_13 : decode cX4_hangs 13 = .ok (.invokevirtual 156, 3) := by decide +kernel
theorem dX4_hangs_16 : decode cX4_hangs 16 = .ok (.istore_n 1, 1) := by decide +kernel
theorem dX4_hangs_17 : decode cX4_hangs 17 = .ok (.bipush (-9), 2) := by decide +kernel
theorem dX4_hangs_19 : decode cX4_hangs 19 = .ok (.istore_n 2, 1) := by decide +kernel
theorem dX4_hangs_20 : decode cX4_hangs 20 = .ok (.iconst 0, 1) := by decide +kernel
theorem dX4_hangs_21 : decode cX4_hangs 21 = .ok (.istore_n 3, 1) := by decide +kernel
theorem dX4_hangs_22 : decode cX4_hangs 22 = .ok (.iload_n 3, 1) := by decide +kernel
theorem dX4_hangs_23 : decode cX4_hangs 23 = .ok (.aload_n 0, 1) := by decide +kernel
theorem dX4_hangs_24 : decode cX4_hangs 24 = .ok (.getfield 102, 3) := by decide +kernel
theorem dX4_hangs_27 : decode cX4_hangs 27 = .ok (.if_icmp .ge 48, 3) := by decide +kernel
theorem dX4_hangs_30 : decode cX4_hangs 30 = .ok (.aload_n 0, 1) := by decide +kernel
theorem dX4_hangs_31 : decode cX4_hangs 31 = .ok (.iload_n 3, 1) := by decide +kernel
theorem dX4_hangs_32 : decode cX4_hangs 32 = .ok (.putfield 49, 3) := by decide +kernel
theorem dX4_hangs_35 : decode cX4_hangs 35 = .ok (.aload_n 0, 1) := by decide +kernel
theorem dX4_hangs_36 : decode cX4_hangs 36 = .ok (.aload_n 0, 1) := by decide +kernel
theorem dX4_hangs_37 : decode cX4_hangs 37 = .ok (.getfield 102, 3) := by decide +kernel
theorem dX4_hangs_40 : decode cX4_hangs 40 = .ok (.invokevirtual 163, 3) := by decide +kernel
theorem dX4_hangs_43 : decode cX4_hangs 43 = .ok (.aload_n 0, 1) := by decide +kernel
theorem dX4_hangs_44 : decode cX4_hangs 44 = .ok (.aload_n 0, 1) := by decide +kernel
theorem dX4_hangs_45 : decode cX4_hangs 45 = .ok (.getfield 68, 3) := by decide +kernel
theorem dX4_hangs_48 : decode cX4_hangs 48 = .ok (.invokevirtual 156, 3) := by decide +kernel
theorem dX4_hangs_51 : decode cX4_hangs 51 = .ok (.iload_n 1, 1) := by decide +kernel
theorem dX4_hangs_52 : decode cX4_hangs 52 = .ok (.if_icmp .lt 6, 3) := by decide +kernel
theorem dX4_hangs_55 : decode cX4_hangs 55 = .ok (.goto 14, 3) := by decide +kernel
theorem dX4_hangs_58 : decode cX4_hangs 58 = .ok (.aload_n 0, 1) := by decide +kernel
theorem dX4_hangs_59 : decode cX4_hangs 59 = .ok (.aload_n 0, 1) := by decide +kernel
theorem dX4_hangs_60 : decode cX4_hangs 60 = .ok (.getfield 68, 3) := by decide +kernel
theorem dX4_hangs_63 : decode cX4_hangs 63 = .ok (.invokevirtual 156, 3) := by decide +kernel
theorem dX4_hangs_66 : decode cX4_hangs 66 = .ok (.istore_n 1, 1) := by decide +kernel
theorem dX4_hangs_67 : decode cX4_hangs 67 = .ok (.iload_n 3, 1) := by decide +kernel
theorem dX4_hangs_68 : decode cX4_hangs 68 = .ok (.istore_n 2, 1) := by decide +kernel
theorem dX4_hangs_69 : decode cX4_hangs 69 = .ok (.iinc 3 1, 3) := by decide +kernel
theorem dX4_hangs_72 : decode cX4_hangs 72 = .ok (.goto (-50), 3) := by decide +kernel
theorem dX4_hangs_75 : decode cX4_hangs 75 = .ok (.aload_n 0, 1) := by decide +kernel
theorem dX4_hangs_76 : decode cX4_hangs 76 = .ok (.iconst (-1), 1) := by decide +kernel
theorem dX4_hangs_77 : decode cX4_hangs 77 = .ok (.putfield 49, 3) := by decide +kernel
theorem dX4_hangs_80 : decode cX4_hangs 80 = .ok (.iload_n 2, 1) := by decide +kernel
theorem dX4_hangs_81 : decode cX4_hangs 81 = .ok (.ireturn, 1) := by decide +kernel
theorem hd_X4_hangs : yX4_hangs.cls ≠ "java/lang/invoke/MethodHandle" ∧ yX4_hangs.cls ≠ "java/lang/invoke/VarHandle" ∧ (parseMethodDescriptor yX4_hangs.desc).map (fun d => d.parameters.length) = some 0 := by decide +kernel
def f_X4_hangs_L22 : Nat → Int32 → Int32 → Int32 → vS → Option (Int32 × vS)
  | 0, _, _, _, _ => none
  | n + 1, x1, x2, x3, S => if (S 0 2) ≤ x3 then some (x2, S) else lt (upk S 0 (upd (S 0) 3 x3)) fun S6 => b1 (f_X4_finds (S6 0 2) S6) fun S8 => b1 (f_X4_sumOf 19 S8) fun r10 => if r10 < x1 then b1 (f_X4_sumOf 19 S8) fun r13 => (f_X4_hangs_L22 n) r13 x3 (x3 + 1) S8 else (f_X4_hangs_L22 n) x1 x2 (x3 + 1) S8
def f_X4_hangs  (S : vS) : Option (Int32 × vS) := b1 (f_X4_finds (S 0 2) S) fun S2 => b1 (f_X4_sumOf 19 S2) fun r4 => b2 (f_X4_hangs_L22 FU r4 (-9 : Int32) (0 : Int32) S2) fun y14 S15 => lt (upk S15 0 (upd (S15 0) 3 (-1 : Int32))) fun S16 => some (y14, S16)
set_option maxHeartbeats 4000000 in
set_option maxRecDepth 20000 in
theorem c_X4_hangs (l : Launch) (D : va_G) (cI cO : ClassId) (ad : Nat → Nat)  (S : vS) (R9 : Int32) (S9 : vS) (hf : f_X4_hangs  S = some (R9, S9)) : CI l yX4_hangs cX4_hangs 4 .int ({ frames := 5, cells := 0, slots := 0, locals := 114 }) [.ref (ad 5)] D cI cO ad S R9 S9 := by
  refine CI.of (by decide +kernel) (Nat.le_of_ble_eq_true rfl) (fun p e s m args below meth c Q ls X hl hw hfin => ?_)
  have hl : lv_has ls 4 [(0, .ref (ad 5))] := hl
  have hx := X.1
  have hb := X.2.1
  have L22 : ∀ (n : Nat) (x1 : Int32) (x2 : Int32) (x3 : Int32) (S : vS) (res : (Int32 × vS)), f_X4_hangs_L22 n x1 x2 x3 S = some res → (K : ∀ (y2 : Int32) (S2 : vS), some (y2, S2) = some res → ∀ (H : Heap) (locs : List Loc) (ls : Array Slot), WD D cI cO ad s S2 H locs → lv_has ls 4 [(0, .ref (ad 5)), (2, .int y2)] → W p l e ({ frames := 5, cells := 0, slots := 0, locals := 114 }) s m args below meth c H locs 0 0 Q (F0 m 75 ls [])) → ∀ (H : Heap) (locs : List Loc) (ls : Array Slot), WD D cI cO ad s S H locs → lv_has ls 4 [(0, .ref (ad 5)), (1, .int x1), (2, .int x2), (3, .int x3)] → W p l e ({ frames := 5, cells := 0, slots := 0, locals := 114 }) s m args below meth c H locs 0 0 Q (F0 m 22 ls []) := by
    intro n
    induction n with
    | zero => intro x1 x2 x3 S res hf; cases hf
    | succ n ih =>
      intro x1 x2 x3 S res hf K H locs ls hw hl
      unfold f_X4_hangs_L22 at hf
      refine lv_iload_n hx hb dX4_hangs_22 rfl (lv_at hl 3 rfl) ?_
      refine lv_aload_n hx hb dX4_hangs_23 rfl (lv_at hl 0 rfl) ?_
      refine x_get X hw 5 (Nat.le_of_ble_eq_true rfl) ce5 rfl i_X4 15 (by decide) q605 ⟨rfl, rfl, rfl⟩ rfl dX4_hangs_24 ?_
      refine lv_icmp_ge (tgt := 75) hx hb dX4_hangs_27 (by decide) (fun c5 => ?_) (fun c5 => ?_)
      · replace hf := if_t c5 hf
        exact K x2 S hf _ _ _ hw (lv_sub hl [0, 2] rfl)
      · replace hf := if_f c5 hf
        refine lv_aload_n hx hb dX4_hangs_30 rfl (lv_at hl 0 rfl) ?_
        refine lv_iload_n hx hb dX4_hangs_31 rfl (lv_at hl 3 rfl) ?_
        refine x_put X hw 5 (Nat.le_of_ble_eq_true rfl) ce5 rfl i_X4 tyX4_ok nmX4 16 (by decide) q606 ⟨rfl, rfl, rfl⟩ rfl pfI rfl rfl (Nat.le_of_ble_eq_true rfl) 3 (ws_3 _) dX4_hangs_32 (fun S6 eS6 H locs hw => ?_)
        replace hf := lt_e eS6 hf
        refine lv_aload_n hx hb dX4_hangs_35 rfl (lv_at hl 0 rfl) ?_
        refine lv_aload_n hx hb dX4_hangs_36 rfl (lv_at hl 0 rfl) ?_
        refine x_get X hw 5 (Nat.le_of_ble_eq_true rfl) ce5 rfl i_X4 15 (by decide) q605 ⟨rfl, rfl, rfl⟩ rfl dX4_hangs_37 ?_
        obtain ⟨S8, h7, hf⟩ := b1_s hf
        refine kVv X hw (c_X4_finds l D cI cO ad (S6 0 2) S6 S8 h7) (Nat.le_of_ble_eq_true rfl) ce5 rfl ⟨rfl, rfl⟩ q806 q808 q49 q64 q809 hd_X4_finds ⟨Nat.le_of_ble_eq_true rfl, Nat.le_of_ble_eq_true rfl⟩ rfl hl.1 rfl (Nat.le_of_ble_eq_true rfl) dX4_hangs_40 (fun H locs hw => ?_)
        refine lv_aload_n hx hb dX4_hangs_43 rfl (lv_at hl 0 rfl) ?_
        refine lv_aload_n hx hb dX4_hangs_44 rfl (lv_at hl 0 rfl) ?_
        refine x_get X hw 5 (Nat.le_of_ble_eq_true rfl) ce5 rfl i_X4 22 (by decide) q612 ⟨rfl, rfl, rfl⟩ rfl dX4_hangs_45 ?_
        obtain ⟨r10, h9, hf⟩ := b1_s hf
        refine kVi X hw (c_X4_sumOf l D cI cO ad 19 S8 r10 h9) (Nat.le_of_ble_eq_true rfl) ce5 rfl ⟨rfl, rfl⟩ q810 q812 q50 q64 q813 hd_X4_sumOf ⟨Nat.le_of_ble_eq_true rfl, Nat.le_of_ble_eq_true rfl⟩ rfl hl.1 rfl (Nat.le_of_ble_eq_true rfl) dX4_hangs_48 (fun H locs hw => ?_)
        refine lv_iload_n hx hb dX4_hangs_51 rfl (lv_at hl 1 rfl) ?_
        refine lv_icmp_lt (tgt := 58) hx hb dX4_hangs_52 (by decide) (fun c11 => ?_) (fun c11 => ?_)
        · replace hf := if_t c11 hf
          refine lv_aload_n hx hb dX4_hangs_58 rfl (lv_at hl 0 rfl) ?_
          refine lv_aload_n hx hb dX4_hangs_59 rfl (lv_at hl 0 rfl) ?_
          refine x_get X hw 5 (Nat.le_of_ble_eq_true rfl) ce5 rfl i_X4 22 (by decide) q612 ⟨rfl, rfl, rfl⟩ rfl dX4_hangs_60 ?_
          obtain ⟨r13, h12, hf⟩ := b1_s hf
          refine kVi X hw (c_X4_sumOf l D cI cO ad 19 S8 r13 h12) (Nat.le_of_ble_eq_true rfl) ce5 rfl ⟨rfl, rfl⟩ q810 q812 q50 q64 q813 hd_X4_sumOf ⟨Nat.le_of_ble_eq_true rfl, Nat.le_of_ble_eq_true rfl⟩ rfl hl.1 rfl (Nat.le_of_ble_eq_true rfl) dX4_hangs_63 (fun H locs hw => ?_)
          refine lv_istore_n (lv' := [(1, .int r13), (0, .ref (ad 5)), (2, .int x2), (3, .int x3)]) hx hb dX4_hangs_66 rfl hl (by decide) rfl (fun ls hl => ?_)
          refine lv_iload_n hx hb dX4_hangs_67 rfl (lv_at hl 3 rfl) ?_
          refine lv_istore_n (lv' := [(2, .int x3), (1, .int r13), (0, .ref (ad 5)), (3, .int x3)]) hx hb dX4_hangs_68 rfl hl (by decide) rfl (fun ls hl => ?_)
          refine lv_iinc (v := (x3 + 1)) (lv' := [(3, .int (x3 + 1)), (2, .int x3), (1, .int r13), (0, .ref (ad 5))]) hx hb dX4_hangs_69 hl (k := 3) rfl rfl (by decide) rfl (fun ls hl => ?_)
          refine lv_goto (tgt := 22) hx hb dX4_hangs_72 (by decide) ?_
          exact ih r13 x3 (x3 + 1) S8 _ hf K _ _ _ hw (lv_sub hl [3, 2, 1, 0] rfl)
        · replace hf := if_f c11 hf
          refine lv_goto (tgt := 69) hx hb dX4_hangs_55 (by decide) ?_
          refine lv_iinc (v := (x3 + 1)) (lv' := [(3, .int (x3 + 1)), (0, .ref (ad 5)), (1, .int x1), (2, .int x2)]) hx hb dX4_hangs_69 hl (k := 3) rfl rfl (by decide) rfl (fun ls hl => ?_)
          refine lv_goto (tgt := 22) hx hb dX4_hangs_72 (by decide) ?_
          exact ih x1 x2 (x3 + 1) S8 _ hf K _ _ _ hw (lv_sub hl [1, 2, 3, 0] rfl)
  unfold f_X4_hangs at hf
  refine lv_aload_n hx hb dX4_hangs_0 rfl (lv_at hl 0 rfl) ?_
  refine lv_aload_n hx hb dX4_hangs_1 rfl (lv_at hl 0 rfl) ?_
  refine x_get X hw 5 (Nat.le_of_ble_eq_true rfl) ce5 rfl i_X4 15 (by decide) q605 ⟨rfl, rfl, rfl⟩ rfl dX4_hangs_2 ?_
  obtain ⟨S2, h1, hf⟩ := b1_s hf
  refine kVv X hw (c_X4_finds l D cI cO ad (S 0 2) S S2 h1) (Nat.le_of_ble_eq_true rfl) ce5 rfl ⟨rfl, rfl⟩ q806 q808 q49 q64 q809 hd_X4_finds ⟨Nat.le_of_ble_eq_true rfl, Nat.le_of_ble_eq_true rfl⟩ rfl hl.1 rfl (Nat.le_of_ble_eq_true rfl) dX4_hangs_5 (fun H locs hw => ?_)
  refine lv_aload_n hx hb dX4_hangs_8 rfl (lv_at hl 0 rfl) ?_
  refine lv_aload_n hx hb dX4_hangs_9 rfl (lv_at hl 0 rfl) ?_
  refine x_get X hw 5 (Nat.le_of_ble_eq_true rfl) ce5 rfl i_X4 22 (by decide) q612 ⟨rfl, rfl, rfl⟩ rfl dX4_hangs_10 ?_
  obtain ⟨r4, h3, hf⟩ := b1_s hf
  refine kVi X hw (c_X4_sumOf l D cI cO ad 19 S2 r4 h3) (Nat.le_of_ble_eq_true rfl) ce5 rfl ⟨rfl, rfl⟩ q810 q812 q50 q64 q813 hd_X4_sumOf ⟨Nat.le_of_ble_eq_true rfl, Nat.le_of_ble_eq_true rfl⟩ rfl hl.1 rfl (Nat.le_of_ble_eq_true rfl) dX4_hangs_13 (fun H locs hw => ?_)
  refine lv_istore_n (lv' := [(1, .int r4), (0, .ref (ad 5))]) hx hb dX4_hangs_16 rfl hl (by decide) rfl (fun ls hl => ?_)
  refine lv_bipush (v := -9) hx hb dX4_hangs_17 (by decide +kernel) ?_
  refine lv_istore_n (lv' := [(2, .int (-9 : Int32)), (1, .int r4), (0, .ref (ad 5))]) hx hb dX4_hangs_19 rfl hl (by decide) rfl (fun ls hl => ?_)
  refine lv_iconst (v := 0) hx hb dX4_hangs_20 (by decide) ?_
  refine lv_istore_n (lv' := [(3, .int (0 : Int32)), (2, .int (-9 : Int32)), (1, .int r4), (0, .ref (ad 5))]) hx hb dX4_hangs_21 rfl hl (by decide) rfl (fun ls hl => ?_)
  obtain ⟨y14, S15, h17, hf⟩ := b2_s hf
  refine L22 FU r4 (-9 : Int32) (0 : Int32) S2 _ h17 (fun y14' S15' eK H locs ls hw hl => ?_) _ _ _ hw (lv_sub hl [3, 2, 1, 0] rfl)
  cases eK
  refine lv_aload_n hx hb dX4_hangs_75 rfl (lv_at hl 0 rfl) ?_
  refine lv_iconst (v := -1) hx hb dX4_hangs_76 (by decide) ?_
  refine x_put X hw 5 (Nat.le_of_ble_eq_true rfl) ce5 rfl i_X4 tyX4_ok nmX4 16 (by decide) q606 ⟨rfl, rfl, rfl⟩ rfl pfI rfl rfl (Nat.le_of_ble_eq_true rfl) 3 (ws_3 _) dX4_hangs_77 (fun S16 eS16 H locs hw => ?_)
  replace hf := lt_e eS16 hf
  refine lv_iload_n hx hb dX4_hangs_80 rfl (lv_at hl 1 rfl) ?_
  exact hfin _ _ _ _ _ _ hw (s2a hf) (s2b hf) (narI _) dX4_hangs_81
/-- NineLandsModel.year(II)I -/
theorem dX4_year_0 : decode cX4_year 0 = .ok (.iload_n 2, 1) := by decide +kernel
theorem dX4_year_1 : decode cX4_year 1 = .ok (.iconst 0, 1) := by decide +kernel
theorem dX4_year_2 : decode cX4_year 2 = .ok (.iconst 1, 1) := by decide +kernel
theorem dX4_year_3 : decode cX4_year 3 = .ok (.invokestatic 98, 3) := by decide +kernel
theorem dX4_year_6 : decode cX4_year 6 = .ok (.ifCond .ne 10, 3) := by decide +kernel
theorem dX4_year_9 : decode cX4_year 9 = .ok (.aload_n 0, 1) := by decide +kernel
theorem dX4_year_10 : decode cX4_year 10 = .ok (.bipush (-2), 2) := by decide +kernel
theorem dX4_year_12 : decode cX4_year 12 = .ok (.invokevirtual 179, 3) := by decide +kernel
theorem dX4_year_15 : decode cX4_year 15 = .ok (.ireturn, 1) := by decide +kernel
theorem dX4_year_16 : decode cX4_year 16 = .ok (.iload_n 1, 1) := by decide +kernel
theorem dX4_year_17 : decode cX4_year 17 = .ok (.iconst 0, 1) := by decide +kernel
theorem dX4_year_18 : decode cX4_year 18 = .ok (.sipush 999, 3) := by decide +kernel
theorem dX4_year_21 : decode cX4_year 21 = .ok (.invokestatic 78, 3) := by decide +kernel
theorem dX4_year_24 : decode cX4_year 24 = .ok (.istore_n 3, 1) := by decide +kernel
theorem dX4_year_25 : decode cX4_year 25 = .ok (.aload_n 0, 1) := by decide +kernel
theorem dX4_year_26 : decode cX4_year 26 = .ok (.invokevirtual 172, 3) := by decide +kernel
theorem dX4_year_29 : decode cX4_year 29 = .ok (.istore 4, 2) := by decide +kernel
theorem dX4_year_31 : decode cX4_year 31 = .ok (.iload_n 3, 1) := by decide +kernel
theorem dX4_year_32 : decode cX4_year 32 = .ok (.ifCond .ne 23, 3) := by decide +kernel
theorem dX4_year_35 : decode cX4_year 35 = .ok (.aload_n 0, 1) := by decide +kernel
theorem dX4_year_36 : decode cX4_year 36 = .ok (.getfield 102, 3) := by decide +kernel
theorem dX4_year_39 : decode cX4_year 39 = .ok (.bipush 20, 2) := by decide +kernel
theorem dX4_year_41 : decode cX4_year 41 = .ok (.if_icmp .eq 11, 3) := by decide +kernel
theorem dX4_year_44 : decode cX4_year 44 = .ok (.iload 4, 2) := by decide +kernel
theorem dX4_year_46 : decode cX4_year 46 = .ok (.sipush 900, 3) := by decide +kernel
theorem dX4_year_49 : decode cX4_year 49 = .ok (.if_icmp .ne 6, 3) := by decide +kernel
theorem dX4_year_52 : decode cX4_year 52 = .ok (.bipush (-3), 2) := by decide +kernel
theorem dX4_year_54 : decode cX4_year 54 = .ok (.istore_n 3, 1) := by decide +kernel
theorem dX4_year_55 : decode cX4_year 55 = .ok (.iload_n 3, 1) := by decide +kernel
theorem dX4_year_56 : decode cX4_year 56 = .ok (.ifCond .eq 9, 3) := by decide +kernel
theorem dX4_year_59 : decode cX4_year 59 = .ok (.aload_n 0, 1) := by decide +kernel
theorem dX4_year_60 : decode cX4_year 60 = .ok (.iload_n 3, 1) := by decide +kernel
theorem dX4_year_61 : decode cX4_year 61 = .ok (.invokevirtual 179, 3) := by decide +kernel
theorem dX4_year_64 : decode cX4_year 64 = .ok (.ireturn, 1) := by decide +kernel
theorem dX4_year_65 : decode cX4_year 65 = .ok (.aload_n 0, 1) := by decide +kernel
theorem dX4_year_66 : decode cX4_year 66 = .ok (.aload_n 0, 1) := by decide +kernel
theorem dX4_year_67 : decode cX4_year 67 = .ok (.getfield 102, 3) := by decide +kernel
theorem dX4_year_70 : decode cX4_year 70 = .ok (.invokevirtual 163, 3) := by decide +kernel
theorem dX4_year_73 : decode cX4_year 73 = .ok (.aload_n 0, 1) := by decide +kernel
theorem dX4_year_74 : decode cX4_year 74 = .ok (.aload_n 0, 1) := by decide +kernel
theorem dX4_year_75 : decode cX4_year 75 = .ok (.getfield 68, 3) := by decide +kernel
theorem dX4_year_78 : decode cX4_year 78 = .ok (.invokevirtual 156, 3) := by decide +kernel
theorem dX4_year_81 : decode cX4_year 81 = .ok (.istore 5, 2) := by decide +kernel
theorem dX4_year_83 : decode cX4_year 83 = .ok (.iconst (-1), 1) := by decide +kernel
theorem dX4_year_84 : decode cX4_year 84 = .ok (.istore 6, 2) := by decide +kernel
theorem dX4_year_86 : decode cX4_year 86 = .ok (.iconst 0, 1) := by decide +kernel
theorem dX4_year_87 : decode cX4_year 87 = .ok (.istore 7, 2) := by decide +kernel
theorem dX4_year_89 : decode cX4_year 89 = .ok (.iconst 0, 1) := by decide +kernel
theorem dX4_year_90 : decode cX4_year 90 = .ok (.istore 8, 2) := by decide +kernel
theorem dX4_year_92 : decode cX4_year 92 = .ok (.iload 8, 2) := by decide +kernel
theorem dX4_year_94 : decode cX4_year 94 = .ok (.bipush 6, 2) := by decide +kernel
theorem dX4_year_96 : decode cX4_year 96 = .ok (.if_icmp .ge 55, 3) := by decide +kernel
theorem dX4_year_99 : decode cX4_year 99 = .ok (.aload_n 0, 1) := by decide +kernel
theorem dX4_year_100 : decode cX4_year 100 = .ok (.iload 8, 2) := by decide +kernel
theorem dX4_year_102 : decode cX4_year 102 = .ok (.iload 4, 2) := by decide +kernel
theorem dX4_year_104 : decode cX4_year 104 = .ok (.bipush 12, 2) := by decide +kernel
theorem dX4_year_106 : decode cX4_year 106 = .ok (.iload_n 1, 1) := by decide +kernel
theorem dX4_year_107 : decode cX4_year 107 = .ok (.invokevirtual 175, 3) := by decide +kernel
theorem dX4_year_110 : decode cX4_year 110 = .ok (.iload 6, 2) := by decide +kernel
theorem dX4_year_112 : decode cX4_year 112 = .ok (.ifCond .lt 19, 3) := by decide +kernel
theorem dX4_year_115 : decode cX4_year 115 = .ok (.aload_n 0, 1) := by decide +kernel
theorem dX4_year_116 : decode cX4_year 116 = .ok (.aload_n 0, 1) := by decide +kernel
theorem dX4_year_117 : decode cX4_year 117 = .ok (.getfield 68, 3) := by decide +kernel
theorem dX4_year_120 : decode cX4_year 120 = .ok (.invokevirtual 156, 3) := by decide +kernel
theorem dX4_year_123 : decode cX4_year 123 = .ok (.iload 7, 2) := by decide +kernel
theorem dX4_year_125 : decode cX4_year 125 = .ok (.if_icmp .gt 6, 3) := by decide +kernel
theorem dX4_year_128 : decode cX4_year 128 = .ok (.goto 17, 3) := by decide +kernel
theorem dX4_year_131 : decode cX4_year 131 = .ok (.iload 8, 2) := by decide +kernel
theorem dX4_year_133 : decode cX4_year 133 = .ok (.istore 6, 2) := by decide +kernel
theorem dX4_year_135 : decode cX4_year 135 = .ok (.aload_n 0, 1) := by decide +kernel
theorem dX4_year_136 : decode cX4_year 136 = .ok (.aload_n 0, 1) := by decide +kernel
theorem dX4_year_137 : decode cX4_year 137 = .ok (.getfield 68, 3) := by decide +kernel
theorem dX4_year_140 : decode cX4_year 140 = .ok (.invokevirtual 156, 3) := by decide +kernel
theorem dX4_year_143 : decode cX4_year 143 = .ok (.istore 7, 2) := by decide +kernel
theorem dX4_year_145 : decode cX4_year 145 = .ok (.iinc 8 1, 3) := by decide +kernel
theorem dX4_year_148 : decode cX4_year 148 = .ok (.goto (-56), 3) := by decide +kernel
theorem dX4_year_151 : decode cX4_year 151 = .ok (.iload_n 2, 1) := by decide +kernel
theorem dX4_year_152 : decode cX4_year 152 = .ok (.ifCond .ne 8, 3) := by decide +kernel
theorem dX4_year_155 : decode cX4_year 155 = .ok (.iload 6, 2) := by decide +kernel
theorem dX4_year_157 : decode cX4_year 157 = .ok (.goto 8, 3) := by decide +kernel
theorem dX4_year_160 : decode cX4_year 160 = .ok (.iload 7, 2) := by decide +kernel
theorem dX4_year_162 : decode cX4_year 162 = .ok (.iload 5, 2) := by decide +kernel
theorem dX4_year_164 : decode cX4_year 164 = .ok (.isub, 1) := by decide +kernel
theorem dX4_year_165 : decode cX4_year 165 = .ok (.ireturn, 1) := by decide +kernel
theorem hd_X4_year : yX4_year.cls ≠ "java/lang/invoke/MethodHandle" ∧ yX4_year.cls ≠ "java/lang/invoke/VarHandle" ∧ (parseMethodDescriptor yX4_year.desc).map (fun d => d.parameters.length) = some 2 := by decide +kernel
def f_X4_year_L92 : Nat → Int32 → Int32 → Int32 → Int32 → Int32 → Int32 → Int32 → vS → Option (Int32 × Int32 × vS)
  | 0, _, _, _, _, _, _, _, _ => none
  | n + 1, x1, x2, x4, x5, x6, x7, x8, S => if (6 : Int32) ≤ x8 then some (x6, x7, S) else b1 (f_X4_findsWith x8 x4 (12 : Int32) x1 S) fun S16 => if x6 < 0 then b1 (f_X4_sumOf 19 S16) fun r19 => (f_X4_year_L92 n) x1 x2 x4 x5 x8 r19 (x8 + 1) S16 else b1 (f_X4_sumOf 19 S16) fun r21 => if x7 < r21 then b1 (f_X4_sumOf 19 S16) fun r24 => (f_X4_year_L92 n) x1 x2 x4 x5 x8 r24 (x8 + 1) S16 else (f_X4_year_L92 n) x1 x2 x4 x5 x6 x7 (x8 + 1) S16
def f_X4_year_J55 (x1 : Int32) (x2 : Int32) (x3 : Int32) (x4 : Int32) (S : vS) : Option (Int32 × vS) := if x3 = 0 then b1 (f_X4_finds (S 0 2) S) fun S11 => b1 (f_X4_sumOf 19 S11) fun r13 => b3 (f_X4_year_L92 FU x1 x2 x4 r13 (-1 : Int32) (0 : Int32) (0 : Int32) S11) fun y25 y26 S27 => if x2 = 0 then some (y25, S27) else some ((y26 - r13), S27) else b2 (f_X4_less x3 S) fun r32 S31 => some (r32, S31)
def f_X4_year_J52 (x1 : Int32) (x2 : Int32) (x4 : Int32) (S : vS) : Option (Int32 × vS) := f_X4_year_J55 x1 x2 (-3 : Int32) x4 S
def f_X4_year (a1 : Int32) (a2 : Int32) (S : vS) : Option (Int32 × vS) := b1 (f_X4_isIn a2 (0 : Int32) (1 : Int32) S) fun r2 => if r2 = 0 then b2 (f_X4_less (-2 : Int32) S) fun r37 S36 => some (r37, S36) else b1 (f_X4_out a1 (0 : Int32) (999 : Int32) S) fun r5 => b1 (f_X4_behind  S) fun r7 => if r5 = 0 then if (S 0 2) = (20 : Int32) then f_X4_year_J52 a1 a2 r7 S else if r7 = (900 : Int32) then f_X4_year_J52 a1 a2 r7 S else f_X4_year_J55 a1 a2 r5 r7 S else f_X4_year_J55 a1 a2 r5 r7 S
set_option maxHeartbeats 4000000 in
set_option maxRecDepth 20000 in
theorem c_X4_year (l : Launch) (D : va_G) (cI cO : ClassId) (ad : Nat → Nat) (a1 : Int32) (a2 : Int32) (S : vS) (R9 : Int32) (S9 : vS) (hf : f_X4_year a1 a2 S = some (R9, S9)) : CI l yX4_year cX4_year 9 .int ({ frames := 6, cells := 0, slots := 0, locals := 138 }) [.ref (ad 5), .int a1, .int a2] D cI cO ad S R9 S9 := by
  refine CI.of (by decide +kernel) (Nat.le_of_ble_eq_true rfl) (fun p e s m args below meth c Q ls X hl hw hfin => ?_)
  have hl : lv_has ls 9 [(0, .ref (ad 5)), (1, .int a1), (2, .int a2)] := hl
  have hx := X.1
  have hb := X.2.1
  have L92 : ∀ (n : Nat) (x1 : Int32) (x2 : Int32) (x4 : Int32) (x5 : Int32) (x6 : Int32) (x7 : Int32) (x8 : Int32) (S : vS) (res : (Int32 × Int32 × vS)), f_X4_year_L92 n x1 x2 x4 x5 x6 x7 x8 S = some res → (K : ∀ (y6 : Int32) (y7 : Int32) (S2 : vS), some (y6, y7, S2) = some res → ∀ (H : Heap) (locs : List Loc) (ls : Array Slot), WD D cI cO ad s S2 H locs → lv_has ls 9 [(2, .int x2), (5, .int x5), (6, .int y6), (7, .int y7)] → W p l e ({ frames := 6, cells := 0, slots := 0, locals := 138 }) s m args below meth c H locs 0 0 Q (F0 m 151 ls [])) → ∀ (H : Heap) (locs : List Loc) (ls : Array Slot), WD D cI cO ad s S H locs → lv_has ls 9 [(0, .ref (ad 5)), (1, .int x1), (2, .int x2), (4, .int x4), (5, .int x5), (6, .int x6), (7, .int x7), (8, .int x8)] → W p l e ({ frames := 6, cells := 0, slots := 0, locals := 138 }) s m args below meth c H locs 0 0 Q (F0 m 92 ls []) := by
    intro n
    induction n with
    | zero => intro x1 x2 x4 x5 x6 x7 x8 S res hf; cases hf
    | succ n ih =>
      intro x1 x2 x4 x5 x6 x7 x8 S res hf K H locs ls hw hl
      unfold f_X4_year_L92 at hf
      refine lv_iload hx hb dX4_year_92 (lv_at hl 7 rfl) ?_
      refine lv_bipush (v := 6) hx hb dX4_year_94 (by decide +kernel) ?_
      refine lv_icmp_ge (tgt := 151) hx hb dX4_year_96 (by decide) (fun c14 => ?_) (fun c14 => ?_)
      · replace hf := if_t c14 hf
        exact K x6 x7 S hf _ _ _ hw (lv_sub hl [2, 4, 5, 6] rfl)
      · replace hf := if_f c14 hf
        refine lv_aload_n hx hb dX4_year_99 rfl (lv_at hl 0 rfl) ?_
        refine lv_iload hx hb dX4_year_100 (lv_at hl 7 rfl) ?_
        refine lv_iload hx hb dX4_year_102 (lv_at hl 3 rfl) ?_
        refine lv_bipush (v := 12) hx hb dX4_year_104 (by decide +kernel) ?_
        refine lv_iload_n hx hb dX4_year_106 rfl (lv_at hl 1 rfl) ?_
        obtain ⟨S16, h15, hf⟩ := b1_s hf
        refine kVv X hw (c_X4_findsWith l D cI cO ad x8 x4 (12 : Int32) x1 S S16 h15) (Nat.le_of_ble_eq_true rfl) ce5 rfl ⟨rfl, rfl⟩ q854 q856 q54 q64 q857 hd_X4_findsWith ⟨Nat.le_of_ble_eq_true rfl, Nat.le_of_ble_eq_true rfl⟩ rfl hl.1 rfl (Nat.le_of_ble_eq_true rfl) dX4_year_107 (fun H locs hw => ?_)
        refine lv_iload hx hb dX4_year_110 (lv_at hl 5 rfl) ?_
        refine lv_if_lt (tgt := 131) hx hb dX4_year_112 (by decide) (fun c17 => ?_) (fun c17 => ?_)
        · replace hf := if_t c17 hf
          refine lv_iload hx hb dX4_year_131 (lv_at hl 7 rfl) ?_
          refine lv_istore (lv' := [(6, .int x8), (0, .ref (ad 5)), (1, .int x1), (2, .int x2), (4, .int x4), (5, .int x5), (7, .int x7), (8, .int x8)]) hx hb dX4_year_133 hl (by decide) rfl (fun ls hl => ?_)
          refine lv_aload_n hx hb dX4_year_135 rfl (lv_at hl 1 rfl) ?_
          refine lv_aload_n hx hb dX4_year_136 rfl (lv_at hl 1 rfl) ?_
          refine x_get X hw 5 (Nat.le_of_ble_eq_true rfl) ce5 rfl i_X4 22 (by decide) q612 ⟨rfl, rfl, rfl⟩ rfl dX4_year_137 ?_
          obtain ⟨r19, h18, hf⟩ := b1_s hf
          refine kVi X hw (c_X4_sumOf l D cI cO ad 19 S16 r19 h18) (Nat.le_of_ble_eq_true rfl) ce5 rfl ⟨rfl, rfl⟩ q810 q812 q50 q64 q813 hd_X4_sumOf ⟨Nat.le_of_ble_eq_true rfl, Nat.le_of_ble_eq_true rfl⟩ rfl hl.1 rfl (Nat.le_of_ble_eq_true rfl) dX4_year_140 (fun H locs hw => ?_)
          refine lv_istore (lv' := [(7, .int r19), (6, .int x8), (0, .ref (ad 5)), (1, .int x1), (2, .int x2), (4, .int x4), (5, .int x5), (8, .int x8)]) hx hb dX4_year_143 hl (by decide) rfl (fun ls hl => ?_)
          refine lv_iinc (v := (x8 + 1)) (lv' := [(8, .int (x8 + 1)), (7, .int r19), (6, .int x8), (0, .ref (ad 5)), (1, .int x1), (2, .int x2), (4, .int x4), (5, .int x5)]) hx hb dX4_year_145 hl (k := 7) rfl rfl (by decide) rfl (fun ls hl => ?_)
          refine lv_goto (tgt := 92) hx hb dX4_year_148 (by decide) ?_
          exact ih x1 x2 x4 x5 x8 r19 (x8 + 1) S16 _ hf K _ _ _ hw (lv_sub hl [3, 4, 5, 6, 7, 2, 1, 0] rfl)
        · replace hf := if_f c17 hf
          refine lv_aload_n hx hb dX4_year_115 rfl (lv_at hl 0 rfl) ?_
          refine lv_aload_n hx hb dX4_year_116 rfl (lv_at hl 0 rfl) ?_
          refine x_get X hw 5 (Nat.le_of_ble_eq_true rfl) ce5 rfl i_X4 22 (by decide) q612 ⟨rfl, rfl, rfl⟩ rfl dX4_year_117 ?_
          obtain ⟨r21, h20, hf⟩ := b1_s hf
          refine kVi X hw (c_X4_sumOf l D cI cO ad 19 S16 r21 h20) (Nat.le_of_ble_eq_true rfl) ce5 rfl ⟨rfl, rfl⟩ q810 q812 q50 q64 q813 hd_X4_sumOf ⟨Nat.le_of_ble_eq_true rfl, Nat.le_of_ble_eq_true rfl⟩ rfl hl.1 rfl (Nat.le_of_ble_eq_true rfl) dX4_year_120 (fun H locs hw => ?_)
          refine lv_iload hx hb dX4_year_123 (lv_at hl 6 rfl) ?_
          refine lv_icmp_gt (tgt := 131) hx hb dX4_year_125 (by decide) (fun c22 => ?_) (fun c22 => ?_)
          · replace hf := if_t c22 hf
            refine lv_iload hx hb dX4_year_131 (lv_at hl 7 rfl) ?_
            refine lv_istore (lv' := [(6, .int x8), (0, .ref (ad 5)), (1, .int x1), (2, .int x2), (4, .int x4), (5, .int x5), (7, .int x7), (8, .int x8)]) hx hb dX4_year_133 hl (by decide) rfl (fun ls hl => ?_)
            refine lv_aload_n hx hb dX4_year_135 rfl (lv_at hl 1 rfl) ?_
            refine lv_aload_n hx hb dX4_year_136 rfl (lv_at hl 1 rfl) ?_
            refine x_get X hw 5 (Nat.le_of_ble_eq_true rfl) ce5 rfl i_X4 22 (by decide) q612 ⟨rfl, rfl, rfl⟩ rfl dX4_year_137 ?_
            obtain ⟨r24, h23, hf⟩ := b1_s hf
            refine kVi X hw (c_X4_sumOf l D cI cO ad 19 S16 r24 h23) (Nat.le_of_ble_eq_true rfl) ce5 rfl ⟨rfl, rfl⟩ q810 q812 q50 q64 q813 hd_X4_sumOf ⟨Nat.le_of_ble_eq_true rfl, Nat.le_of_ble_eq_true rfl⟩ rfl hl.1 rfl (Nat.le_of_ble_eq_true rfl) dX4_year_140 (fun H locs hw => ?_)
            refine lv_istore (lv' := [(7, .int r24), (6, .int x8), (0, .ref (ad 5)), (1, .int x1), (2, .int x2), (4, .int x4), (5, .int x5), (8, .int x8)]) hx hb dX4_year_143 hl (by decide) rfl (fun ls hl => ?_)
            refine lv_iinc (v := (x8 + 1)) (lv' := [(8, .int (x8 + 1)), (7, .int r24), (6, .int x8), (0, .ref (ad 5)), (1, .int x1), (2, .int x2), (4, .int x4), (5, .int x5)]) hx hb dX4_year_145 hl (k := 7) rfl rfl (by decide) rfl (fun ls hl => ?_)
            refine lv_goto (tgt := 92) hx hb dX4_year_148 (by decide) ?_
            exact ih x1 x2 x4 x5 x8 r24 (x8 + 1) S16 _ hf K _ _ _ hw (lv_sub hl [3, 4, 5, 6, 7, 2, 1, 0] rfl)
          · replace hf := if_f c22 hf
            refine lv_goto (tgt := 145) hx hb dX4_year_128 (by decide) ?_
            refine lv_iinc (v := (x8 + 1)) (lv' := [(8, .int (x8 + 1)), (0, .ref (ad 5)), (1, .int x1), (2, .int x2), (4, .int x4), (5, .int x5), (6, .int x6), (7, .int x7)]) hx hb dX4_year_145 hl (k := 7) rfl rfl (by decide) rfl (fun ls hl => ?_)
            refine lv_goto (tgt := 92) hx hb dX4_year_148 (by decide) ?_
            exact ih x1 x2 x4 x5 x6 x7 (x8 + 1) S16 _ hf K _ _ _ hw (lv_sub hl [1, 2, 3, 4, 5, 6, 7, 0] rfl)
  have J55 : ∀ (x1 : Int32) (x2 : Int32) (x3 : Int32) (x4 : Int32) (S : vS), f_X4_year_J55 x1 x2 x3 x4 S = some (R9, S9) → ∀ (H : Heap) (locs : List Loc) (ls : Array Slot), WD D cI cO ad s S H locs → lv_has ls 9 [(0, .ref (ad 5)), (1, .int x1), (2, .int x2), (3, .int x3), (4, .int x4)] → W p l e ({ frames := 6, cells := 0, slots := 0, locals := 138 }) s m args below meth c H locs 0 0 Q (F0 m 55 ls []) := by
    intro x1 x2 x3 x4 S hf H locs ls hw hl
    unfold f_X4_year_J55 at hf
    refine lv_iload_n hx hb dX4_year_55 rfl (lv_at hl 3 rfl) ?_
    refine lv_if_eq (tgt := 65) hx hb dX4_year_56 (by decide) (fun c9 => ?_) (fun c9 => ?_)
    · replace hf := if_t c9 hf
      refine lv_aload_n hx hb dX4_year_65 rfl (lv_at hl 0 rfl) ?_
      refine lv_aload_n hx hb dX4_year_66 rfl (lv_at hl 0 rfl) ?_
      refine x_get X hw 5 (Nat.le_of_ble_eq_true rfl) ce5 rfl i_X4 15 (by decide) q605 ⟨rfl, rfl, rfl⟩ rfl dX4_year_67 ?_
      obtain ⟨S11, h10, hf⟩ := b1_s hf
      refine kVv X hw (c_X4_finds l D cI cO ad (S 0 2) S S11 h10) (Nat.le_of_ble_eq_true rfl) ce5 rfl ⟨rfl, rfl⟩ q806 q808 q49 q64 q809 hd_X4_finds ⟨Nat.le_of_ble_eq_true rfl, Nat.le_of_ble_eq_true rfl⟩ rfl hl.1 rfl (Nat.le_of_ble_eq_true rfl) dX4_year_70 (fun H locs hw => ?_)
      refine lv_aload_n hx hb dX4_year_73 rfl (lv_at hl 0 rfl) ?_
      refine lv_aload_n hx hb dX4_year_74 rfl (lv_at hl 0 rfl) ?_
      refine x_get X hw 5 (Nat.le_of_ble_eq_true rfl) ce5 rfl i_X4 22 (by decide) q612 ⟨rfl, rfl, rfl⟩ rfl dX4_year_75 ?_
      obtain ⟨r13, h12, hf⟩ := b1_s hf
      refine kVi X hw (c_X4_sumOf l D cI cO ad 19 S11 r13 h12) (Nat.le_of_ble_eq_true rfl) ce5 rfl ⟨rfl, rfl⟩ q810 q812 q50 q64 q813 hd_X4_sumOf ⟨Nat.le_of_ble_eq_true rfl, Nat.le_of_ble_eq_true rfl⟩ rfl hl.1 rfl (Nat.le_of_ble_eq_true rfl) dX4_year_78 (fun H locs hw => ?_)
      refine lv_istore (lv' := [(5, .int r13), (0, .ref (ad 5)), (1, .int x1), (2, .int x2), (3, .int x3), (4, .int x4)]) hx hb dX4_year_81 hl (by decide) rfl (fun ls hl => ?_)
      refine lv_iconst (v := -1) hx hb dX4_year_83 (by decide) ?_
      refine lv_istore (lv' := [(6, .int (-1 : Int32)), (5, .int r13), (0, .ref (ad 5)), (1, .int x1), (2, .int x2), (3, .int x3), (4, .int x4)]) hx hb dX4_year_84 hl (by decide) rfl (fun ls hl => ?_)
      refine lv_iconst (v := 0) hx hb dX4_year_86 (by decide) ?_
      refine lv_istore (lv' := [(7, .int (0 : Int32)), (6, .int (-1 : Int32)), (5, .int r13), (0, .ref (ad 5)), (1, .int x1), (2, .int x2), (3, .int x3), (4, .int x4)]) hx hb dX4_year_87 hl (by decide) rfl (fun ls hl => ?_)
      refine lv_iconst (v := 0) hx hb dX4_year_89 (by decide) ?_
      refine lv_istore (lv' := [(8, .int (0 : Int32)), (7, .int (0 : Int32)), (6, .int (-1 : Int32)), (5, .int r13), (0, .ref (ad 5)), (1, .int x1), (2, .int x2), (3, .int x3), (4, .int x4)]) hx hb dX4_year_90 hl (by decide) rfl (fun ls hl => ?_)
      obtain ⟨y25, y26, S27, h29, hf⟩ := b3_s hf
      refine L92 FU x1 x2 x4 r13 (-1 : Int32) (0 : Int32) (0 : Int32) S11 _ h29 (fun y25' y26' S27' eK H locs ls hw hl => ?_) _ _ _ hw (lv_sub hl [4, 5, 6, 8, 3, 2, 1, 0] rfl)
      cases eK
      refine lv_iload_n hx hb dX4_year_151 rfl (lv_at hl 0 rfl) ?_
      refine lv_if_ne (tgt := 160) hx hb dX4_year_152 (by decide) (fun c28 => ?_) (fun c28 => ?_)
      · replace hf := if_f c28 hf
        refine lv_iload hx hb dX4_year_160 (lv_at hl 3 rfl) ?_
        refine lv_iload hx hb dX4_year_162 (lv_at hl 1 rfl) ?_
        refine lv_isub hx hb dX4_year_164 ?_
        exact hfin _ _ _ _ _ _ hw (s2a hf) (s2b hf) (narI _) dX4_year_165
      · replace hf := if_t c28 hf
        refine lv_iload hx hb dX4_year_155 (lv_at hl 2 rfl) ?_
        refine lv_goto (tgt := 165) hx hb dX4_year_157 (by decide) ?_
        exact hfin _ _ _ _ _ _ hw (s2a hf) (s2b hf) (narI _) dX4_year_165
    · replace hf := if_f c9 hf
      refine lv_aload_n hx hb dX4_year_59 rfl (lv_at hl 0 rfl) ?_
      refine lv_iload_n hx hb dX4_year_60 rfl (lv_at hl 3 rfl) ?_
      obtain ⟨r32, S31, h30, hf⟩ := b2_s hf
      refine kVi X hw (c_X4_less l D cI cO ad x3 S r32 S31 h30) (Nat.le_of_ble_eq_true rfl) ce5 rfl ⟨rfl, rfl⟩ q866 q868 q55 q64 q869 hd_X4_less ⟨Nat.le_of_ble_eq_true rfl, Nat.le_of_ble_eq_true rfl⟩ rfl hl.1 rfl (Nat.le_of_ble_eq_true rfl) dX4_year_61 (fun H locs hw => ?_)
      exact hfin _ _ _ _ _ _ hw (s2a hf) (s2b hf) (narI _) dX4_year_64
  have J52 : ∀ (x1 : Int32) (x2 : Int32) (x4 : Int32) (S : vS), f_X4_year_J52 x1 x2 x4 S = some (R9, S9) → ∀ (H : Heap) (locs : List Loc) (ls : Array Slot), WD D cI cO ad s S H locs → lv_has ls 9 [(0, .ref (ad 5)), (1, .int x1), (2, .int x2), (4, .int x4)] → W p l e ({ frames := 6, cells := 0, slots := 0, locals := 138 }) s m args below meth c H locs 0 0 Q (F0 m 52 ls []) := by
    intro x1 x2 x4 S hf H locs ls hw hl
    unfold f_X4_year_J52 at hf
    refine lv_bipush (v := -3) hx hb dX4_year_52 (by decide +kernel) ?_
    refine lv_istore_n (lv' := [(3, .int (-3 : Int32)), (0, .ref (ad 5)), (1, .int x1), (2, .int x2), (4, .int x4)]) hx hb dX4_year_54 rfl hl (by decide) rfl (fun ls hl => ?_)
    exact J55 x1 x2 (-3 : Int32) x4 S hf _ _ _ hw (lv_sub hl [1, 2, 3, 0, 4] rfl)
  unfold f_X4_year at hf
  refine lv_iload_n hx hb dX4_year_0 rfl (lv_at hl 2 rfl) ?_
  refine lv_iconst (v := 0) hx hb dX4_year_1 (by decide) ?_
  refine lv_iconst (v := 1) hx hb dX4_year_2 (by decide) ?_
  obtain ⟨r2, h1, hf⟩ := b1_s hf
  refine kSi X hw (c_X4_isIn l D cI cO ad a2 (0 : Int32) (1 : Int32) S r2 h1) ⟨rfl, rfl⟩ q712 q713 q64 q714 hd_X4_isIn ⟨Nat.le_of_ble_eq_true rfl, Nat.le_of_ble_eq_true rfl⟩ rfl hl.1 rfl (Nat.le_of_ble_eq_true rfl) dX4_year_3 (fun H locs hw => ?_)
  refine lv_if_ne (tgt := 16) hx hb dX4_year_6 (by decide) (fun c3 => ?_) (fun c3 => ?_)
  · replace hf := if_f c3 hf
    refine lv_iload_n hx hb dX4_year_16 rfl (lv_at hl 1 rfl) ?_
    refine lv_iconst (v := 0) hx hb dX4_year_17 (by decide) ?_
    refine lv_sipush (v := 999) hx hb dX4_year_18 (by decide +kernel) ?_
    obtain ⟨r5, h4, hf⟩ := b1_s hf
    refine kSi X hw (c_X4_out l D cI cO ad a1 (0 : Int32) (999 : Int32) S r5 h4) ⟨rfl, rfl⟩ q685 q686 q64 q687 hd_X4_out ⟨Nat.le_of_ble_eq_true rfl, Nat.le_of_ble_eq_true rfl⟩ rfl hl.1 rfl (Nat.le_of_ble_eq_true rfl) dX4_year_21 (fun H locs hw => ?_)
    refine lv_istore_n (lv' := [(3, .int r5), (0, .ref (ad 5)), (1, .int a1), (2, .int a2)]) hx hb dX4_year_24 rfl hl (by decide) rfl (fun ls hl => ?_)
    refine lv_aload_n hx hb dX4_year_25 rfl (lv_at hl 1 rfl) ?_
    obtain ⟨r7, h6, hf⟩ := b1_s hf
    refine kVi X hw (c_X4_behind l D cI cO ad  S r7 h6) (Nat.le_of_ble_eq_true rfl) ce5 rfl ⟨rfl, rfl⟩ q850 q852 q53 q64 q853 hd_X4_behind ⟨Nat.le_of_ble_eq_true rfl, Nat.le_of_ble_eq_true rfl⟩ rfl hl.1 rfl (Nat.le_of_ble_eq_true rfl) dX4_year_26 (fun H locs hw => ?_)
    refine lv_istore (lv' := [(4, .int r7), (3, .int r5), (0, .ref (ad 5)), (1, .int a1), (2, .int a2)]) hx hb dX4_year_29 hl (by decide) rfl (fun ls hl => ?_)
    refine lv_iload_n hx hb dX4_year_31 rfl (lv_at hl 1 rfl) ?_
    refine lv_if_ne (tgt := 55) hx hb dX4_year_32 (by decide) (fun c8 => ?_) (fun c8 => ?_)
    · replace hf := if_f c8 hf
      exact J55 a1 a2 r5 r7 S hf _ _ _ hw (lv_sub hl [2, 3, 4, 1, 0] rfl)
    · replace hf := if_t c8 hf
      refine lv_aload_n hx hb dX4_year_35 rfl (lv_at hl 2 rfl) ?_
      refine x_get X hw 5 (Nat.le_of_ble_eq_true rfl) ce5 rfl i_X4 15 (by decide) q605 ⟨rfl, rfl, rfl⟩ rfl dX4_year_36 ?_
      refine lv_bipush (v := 20) hx hb dX4_year_39 (by decide +kernel) ?_
      refine lv_icmp_eq (tgt := 52) hx hb dX4_year_41 (by decide) (fun c33 => ?_) (fun c33 => ?_)
      · replace hf := if_t c33 hf
        exact J52 a1 a2 r7 S hf _ _ _ hw (lv_sub hl [2, 3, 4, 0] rfl)
      · replace hf := if_f c33 hf
        refine lv_iload hx hb dX4_year_44 (lv_at hl 0 rfl) ?_
        refine lv_sipush (v := 900) hx hb dX4_year_46 (by decide +kernel) ?_
        refine lv_icmp_ne (tgt := 55) hx hb dX4_year_49 (by decide) (fun c34 => ?_) (fun c34 => ?_)
        · replace hf := if_f c34 hf
          exact J55 a1 a2 r5 r7 S hf _ _ _ hw (lv_sub hl [2, 3, 4, 1, 0] rfl)
        · replace hf := if_t c34 hf
          exact J52 a1 a2 r7 S hf _ _ _ hw (lv_sub hl [2, 3, 4, 0] rfl)
  · replace hf := if_t c3 hf
    refine lv_aload_n hx hb dX4_year_9 rfl (lv_at hl 0 rfl) ?_
    refine lv_bipush (v := -2) hx hb dX4_year_10 (by decide +kernel) ?_
    obtain ⟨r37, S36, h35, hf⟩ := b2_s hf
    refine kVi X hw (c_X4_less l D cI cO ad (-2 : Int32) S r37 S36 h35) (Nat.le_of_ble_eq_true rfl) ce5 rfl ⟨rfl, rfl⟩ q866 q868 q55 q64 q869 hd_X4_less ⟨Nat.le_of_ble_eq_true rfl, Nat.le_of_ble_eq_true rfl⟩ rfl hl.1 rfl (Nat.le_of_ble_eq_true rfl) dX4_year_12 (fun H locs hw => ?_)
    exact hfin _ _ _ _ _ _ hw (s2a hf) (s2b hf) (narI _) dX4_year_15
/-- NineLandsModel.proof(I)I -/
theorem dX4_proof_0 : decode cX4_proof 0 = .ok (.aload_n 0, 1) := by decide +kernel
theorem dX4_proof_1 : decode cX4_proof 1 = .ok (.iload_n 1, 1) := by decide +kernel
theorem dX4_proof_2 : decode cX4_proof 2 = .ok (.invokevirtual 119, 3) := by decide +kernel
theorem dX4_proof_5 : decode cX4_proof 5 = .ok (.ifCond .ne 9, 3) := by decide +kernel
theorem dX4_proof_8 : decode cX4_proof 8 = .ok (.aload_n 0, 1) := by decide +kernel
theorem dX4_proof_9 : decode cX4_proof 9 = .ok (.iconst (-1), 1) := by decide +kernel
theorem dX4_proof_10 : decode cX4_proof 10 = .ok (.invokevirtual 179, 3) := by decide +kernel
theorem dX4_proof_13 : decode cX4_proof 13 = .ok (.ireturn, 1) := by decide +kernel
theorem dX4_proof_14 : decode cX4_proof 14 = .ok (.aload_n 0, 1) := by decide +kernel
theorem dX4_proof_15 : decode cX4_proof 15 = .ok (.getfield 34, 3) := by decide +kernel
theorem dX4_proof_18 : decode cX4_proof 18 = .ok (.iload_n 1, 1) := by decide +kernel
theorem dX4_proof_19 : decode cX4_proof 19 = .ok (.iaload, 1) := by decide +kernel
theorem dX4_proof_20 : decode cX4_proof 20 = .ok (.iconst 1, 1) := by decide +kernel
theorem dX4_proof_21 : decode cX4_proof 21 = .ok (.if_icmp .ne 10, 3) := by decide +kernel
theorem dX4_proof_24 : decode cX4_proof 24 = .ok (.aload_n 0, 1) := by decide +kernel
theorem dX4_proof_25 : decode cX4_proof 25 = .ok (.bipush (-3), 2) := by decide +kernel
theorem dX4_proof_27 : decode cX4_proof 27 = .ok (.invokevirtual 179, 3) := by decide +kernel
theorem dX4_proof_30 : decode cX4_proof 30 = .ok (.ireturn, 1) := by decide +kernel
theorem dX4_proof_31 : decode cX4_proof 31 = .ok (.aload_n 0, 1) := by decide +kernel
theorem dX4_proof_32 : decode cX4_proof 32 = .ok (.aload_n 0, 1) := by decide +kernel
theorem dX4_proof_33 : decode cX4_proof 33 = .ok (.getfield 102, 3) := by decide +kernel
theorem dX4_proof_36 : decode cX4_proof 36 = .ok (.invokevirtual 163, 3) := by decide +kernel
theorem dX4_proof_39 : decode cX4_proof 39 = .ok (.aload_n 0, 1) := by decide +kernel
theorem dX4_proof_40 : decode cX4_proof 40 = .ok (.aload_n 0, 1) := by decide +kernel
theorem dX4_proof_41 : decode cX4_proof 41 = .ok (.getfield 68, 3) := by decide +kernel
theorem dX4_proof_44 : decode cX4_proof 44 = .ok (.invokevirtual 156, 3) := by decide +kernel
theorem dX4_proof_47 : decode cX4_proof 47 = .ok (.istore_n 2, 1) := by decide +kernel
theorem dX4_proof_48 : decode cX4_proof 48 = .ok (.aload_n 0, 1) := by decide +kernel
theorem dX4_proof_49 : decode cX4_proof 49 = .ok (.getfield 34, 3) := by decide +kernel
theorem dX4_proof_52 : decode cX4_proof 52 = .ok (.iload_n 1, 1) := by decide +kernel
theorem dX4_proof_53 : decode cX4_proof 53 = .ok (.iconst 1, 1) := by decide +kernel
theorem dX4_proof_54 : decode cX4_proof 54 = .ok (.iastore, 1) := by decide +kernel
theorem dX4_proof_55 : decode cX4_proof 55 = .ok (.aload_n 0, 1) := by decide +kernel
theorem dX4_proof_56 : decode cX4_proof 56 = .ok (.aload_n 0, 1) := by decide +kernel
theorem dX4_proof_57 : decode cX4_proof 57 = .ok (.getfield 102, 3) := by decide +kernel
theorem dX4_proof_60 : decode cX4_proof 60 = .ok (.invokevirtual 163, 3) := by decide +kernel
theorem dX4_proof_63 : decode cX4_proof 63 = .ok (.aload_n 0, 1) := by decide +kernel
theorem dX4_proof_64 : decode cX4_proof 64 = .ok (.getfield 34, 3) := by decide +kernel
theorem dX4_proof_67 : decode cX4_proof 67 = .ok (.iload_n 1, 1) := by decide +kernel
theorem dX4_proof_68 : decode cX4_proof 68 = .ok (.iconst 0, 1) := by decide +kernel
theorem dX4_proof_69 : decode cX4_proof 69 = .ok (.iastore, 1) := by decide +kernel
theorem dX4_proof_70 : decode cX4_proof 70 = .ok (.aload_n 0, 1) := by decide +kernel
theorem dX4_proof_71 : decode cX4_proof 71 = .ok (.aload_n 0, 1) := by decide +kernel
theorem dX4_proof_72 : decode cX4_proof 72 = .ok (.getfield 68, 3) := by decide +kernel
theorem dX4_proof_75 : decode cX4_proof 75 = .ok (.invokevirtual 156, 3) := by decide +kernel
theorem dX4_proof_78 : decode cX4_proof 78 = .ok (.iload_n 2, 1) := by decide +kernel
theorem dX4_proof_79 : decode cX4_proof 79 = .ok (.isub, 1) := by decide +kernel
theorem dX4_proof_80 : decode cX4_proof 80 = .ok (.ireturn, 1) := by decide +kernel
theorem hd_X4_proof : yX4_proof.cls ≠ "java/lang/invoke/MethodHandle" ∧ yX4_proof.cls ≠ "java/lang/invoke/VarHandle" ∧ (parseMethodDescriptor yX4_proof.desc).map (fun d => d.parameters.length) = some 1 := by decide +kernel
def f_X4_proof (a1 : Int32) (S : vS) : Option (Int32 × vS) := b1 (f_X4_isSpell a1 S) fun r2 => if r2 = 0 then b2 (f_X4_less (-1 : Int32) S) fun r21 S20 => some (r21, S20) else if inb a1 21 = true then if (S 9 (a1.toNatClampNeg)) = (1 : Int32) then b2 (f_X4_less (-3 : Int32) S) fun r18 S17 => some (r18, S17) else b1 (f_X4_finds (S 0 2) S) fun S7 => b1 (f_X4_sumOf 19 S7) fun r9 => lt (upk S7 9 (upd (S7 9) (a1.toNatClampNeg) (1 : Int32))) fun S10 => b1 (f_X4_finds (S10 0 2) S10) fun S12 => lt (upk S12 9 (upd (S12 9) (a1.toNatClampNeg) (0 : Int32))) fun S13 => b1 (f_X4_sumOf 19 S13) fun r15 => some ((r15 - r9), S13) else none
set_option maxHeartbeats 4000000 in
set_option maxRecDepth 20000 in
theorem c_X4_proof (l : Launch) (D : va_G) (cI cO : ClassId) (ad : Nat → Nat) (a1 : Int32) (S : vS) (R9 : Int32) (S9 : vS) (hf : f_X4_proof a1 S = some (R9, S9)) : CI l yX4_proof cX4_proof 3 .int ({ frames := 5, cells := 0, slots := 0, locals := 114 }) [.ref (ad 5), .int a1] D cI cO ad S R9 S9 := by
  refine CI.of (by decide +kernel) (Nat.le_of_ble_eq_true rfl) (fun p e s m args below meth c Q ls X hl hw hfin => ?_)
  have hl : lv_has ls 3 [(0, .ref (ad 5)), (1, .int a1)] := hl
  have hx := X.1
  have hb := X.2.1
  unfold f_X4_proof at hf
  refine lv_aload_n hx hb dX4_proof_0 rfl (lv_at hl 0 rfl) ?_
  refine lv_iload_n hx hb dX4_proof_1 rfl (lv_at hl 1 rfl) ?_
  obtain ⟨r2, h1, hf⟩ := b1_s hf
  refine kVi X hw (c_X4_isSpell l D cI cO ad a1 S r2 h1) (Nat.le_of_ble_eq_true rfl) ce5 rfl ⟨rfl, rfl⟩ q723 q725 q39 q64 q726 hd_X4_isSpell ⟨Nat.le_of_ble_eq_true rfl, Nat.le_of_ble_eq_true rfl⟩ rfl hl.1 rfl (Nat.le_of_ble_eq_true rfl) dX4_proof_2 (fun H locs hw => ?_)
  refine lv_if_ne (tgt := 14) hx hb dX4_proof_5 (by decide) (fun c3 => ?_) (fun c3 => ?_)
  · replace hf := if_f c3 hf
    refine lv_aload_n hx hb dX4_proof_14 rfl (lv_at hl 0 rfl) ?_
    refine x_get X hw 5 (Nat.le_of_ble_eq_true rfl) ce5 rfl i_X4 8 (by decide) q598 ⟨rfl, rfl, rfl⟩ rfl dX4_proof_15 ?_
    refine lv_iload_n hx hb dX4_proof_18 rfl (lv_at hl 1 rfl) ?_
    obtain ⟨h4, hf⟩ := if_s hf
    refine x_iald X hw 9 ⟨Nat.le_of_ble_eq_true rfl, Nat.le_of_ble_eq_true rfl⟩ rfl h4 (a1.toNatClampNeg) rfl dX4_proof_19 ?_
    refine lv_iconst (v := 1) hx hb dX4_proof_20 (by decide) ?_
    refine lv_icmp_ne (tgt := 31) hx hb dX4_proof_21 (by decide) (fun c5 => ?_) (fun c5 => ?_)
    · replace hf := if_f c5 hf
      refine lv_aload_n hx hb dX4_proof_31 rfl (lv_at hl 0 rfl) ?_
      refine lv_aload_n hx hb dX4_proof_32 rfl (lv_at hl 0 rfl) ?_
      refine x_get X hw 5 (Nat.le_of_ble_eq_true rfl) ce5 rfl i_X4 15 (by decide) q605 ⟨rfl, rfl, rfl⟩ rfl dX4_proof_33 ?_
      obtain ⟨S7, h6, hf⟩ := b1_s hf
      refine kVv X hw (c_X4_finds l D cI cO ad (S 0 2) S S7 h6) (Nat.le_of_ble_eq_true rfl) ce5 rfl ⟨rfl, rfl⟩ q806 q808 q49 q64 q809 hd_X4_finds ⟨Nat.le_of_ble_eq_true rfl, Nat.le_of_ble_eq_true rfl⟩ rfl hl.1 rfl (Nat.le_of_ble_eq_true rfl) dX4_proof_36 (fun H locs hw => ?_)
      refine lv_aload_n hx hb dX4_proof_39 rfl (lv_at hl 0 rfl) ?_
      refine lv_aload_n hx hb dX4_proof_40 rfl (lv_at hl 0 rfl) ?_
      refine x_get X hw 5 (Nat.le_of_ble_eq_true rfl) ce5 rfl i_X4 22 (by decide) q612 ⟨rfl, rfl, rfl⟩ rfl dX4_proof_41 ?_
      obtain ⟨r9, h8, hf⟩ := b1_s hf
      refine kVi X hw (c_X4_sumOf l D cI cO ad 19 S7 r9 h8) (Nat.le_of_ble_eq_true rfl) ce5 rfl ⟨rfl, rfl⟩ q810 q812 q50 q64 q813 hd_X4_sumOf ⟨Nat.le_of_ble_eq_true rfl, Nat.le_of_ble_eq_true rfl⟩ rfl hl.1 rfl (Nat.le_of_ble_eq_true rfl) dX4_proof_44 (fun H locs hw => ?_)
      refine lv_istore_n (lv' := [(2, .int r9), (0, .ref (ad 5)), (1, .int a1)]) hx hb dX4_proof_47 rfl hl (by decide) rfl (fun ls hl => ?_)
      refine lv_aload_n hx hb dX4_proof_48 rfl (lv_at hl 1 rfl) ?_
      refine x_get X hw 5 (Nat.le_of_ble_eq_true rfl) ce5 rfl i_X4 8 (by decide) q598 ⟨rfl, rfl, rfl⟩ rfl dX4_proof_49 ?_
      refine lv_iload_n hx hb dX4_proof_52 rfl (lv_at hl 2 rfl) ?_
      refine lv_iconst (v := 1) hx hb dX4_proof_53 (by decide) ?_
      refine x_iast X hw 9 ⟨Nat.le_of_ble_eq_true rfl, Nat.le_of_ble_eq_true rfl⟩ rfl h4 (a1.toNatClampNeg) rfl dX4_proof_54 (fun S10 eS10 H locs hw => ?_)
      replace hf := lt_e eS10 hf
      refine lv_aload_n hx hb dX4_proof_55 rfl (lv_at hl 1 rfl) ?_
      refine lv_aload_n hx hb dX4_proof_56 rfl (lv_at hl 1 rfl) ?_
      refine x_get X hw 5 (Nat.le_of_ble_eq_true rfl) ce5 rfl i_X4 15 (by decide) q605 ⟨rfl, rfl, rfl⟩ rfl dX4_proof_57 ?_
      obtain ⟨S12, h11, hf⟩ := b1_s hf
      refine kVv X hw (c_X4_finds l D cI cO ad (S10 0 2) S10 S12 h11) (Nat.le_of_ble_eq_true rfl) ce5 rfl ⟨rfl, rfl⟩ q806 q808 q49 q64 q809 hd_X4_finds ⟨Nat.le_of_ble_eq_true rfl, Nat.le_of_ble_eq_true rfl⟩ rfl hl.1 rfl (Nat.le_of_ble_eq_true rfl) dX4_proof_60 (fun H locs hw => ?_)
      refine lv_aload_n hx hb dX4_proof_63 rfl (lv_at hl 1 rfl) ?_
      refine x_get X hw 5 (Nat.le_of_ble_eq_true rfl) ce5 rfl i_X4 8 (by decide) q598 ⟨rfl, rfl, rfl⟩ rfl dX4_proof_64 ?_
      refine lv_iload_n hx hb dX4_proof_67 rfl (lv_at hl 2 rfl) ?_
      refine lv_iconst (v := 0) hx hb dX4_proof_68 (by decide) ?_
      refine x_iast X hw 9 ⟨Nat.le_of_ble_eq_true rfl, Nat.le_of_ble_eq_true rfl⟩ rfl h4 (a1.toNatClampNeg) rfl dX4_proof_69 (fun S13 eS13 H locs hw => ?_)
      replace hf := lt_e eS13 hf
      refine lv_aload_n hx hb dX4_proof_70 rfl (lv_at hl 1 rfl) ?_
      refine lv_aload_n hx hb dX4_proof_71 rfl (lv_at hl 1 rfl) ?_
      refine x_get X hw 5 (Nat.le_of_ble_eq_true rfl) ce5 rfl i_X4 22 (by decide) q612 ⟨rfl, rfl, rfl⟩ rfl dX4_proof_72 ?_
      obtain ⟨r15, h14, hf⟩ := b1_s hf
      refine kVi X hw (c_X4_sumOf l D cI cO ad 19 S13 r15 h14) (Nat.le_of_ble_eq_true rfl) ce5 rfl ⟨rfl, rfl⟩ q810 q812 q50 q64 q813 hd_X4_sumOf ⟨Nat.le_of_ble_eq_true rfl, Nat.le_of_ble_eq_true rfl⟩ rfl hl.1 rfl (Nat.le_of_ble_eq_true rfl) dX4_proof_75 (fun H locs hw => ?_)
      refine lv_iload_n hx hb dX4_proof_78 rfl (lv_at hl 0 rfl) ?_
      refine lv_isub hx hb dX4_proof_79 ?_
      exact hfin _ _ _ _ _ _ hw (s2a hf) (s2b hf) (narI _) dX4_proof_80
    · replace hf := if_t c5 hf
      refine lv_aload_n hx hb dX4_proof_24 rfl (lv_at hl 0 rfl) ?_
      refine lv_bipush (v := -3) hx hb dX4_proof_25 (by decide +kernel) ?_
      obtain ⟨r18, S17, h16, hf⟩ := b2_s hf
      refine kVi X hw (c_X4_less l D cI cO ad (-3 : Int32) S r18 S17 h16) (Nat.le_of_ble_eq_true rfl) ce5 rfl ⟨rfl, rfl⟩ q866 q868 q55 q64 q869 hd_X4_less ⟨Nat.le_of_ble_eq_true rfl, Nat.le_of_ble_eq_true rfl⟩ rfl hl.1 rfl (Nat.le_of_ble_eq_true rfl) dX4_proof_27 (fun H locs hw => ?_)
      exact hfin _ _ _ _ _ _ hw (s2a hf) (s2b hf) (narI _) dX4_proof_30
  · replace hf := if_t c3 hf
    refine lv_aload_n hx hb dX4_proof_8 rfl (lv_at hl 0 rfl) ?_
    refine lv_iconst (v := -1) hx hb dX4_proof_9 (by decide) ?_
    obtain ⟨r21, S20, h19, hf⟩ := b2_s hf
    refine kVi X hw (c_X4_less l D cI cO ad (-1 : Int32) S r21 S20 h19) (Nat.le_of_ble_eq_true rfl) ce5 rfl ⟨rfl, rfl⟩ q866 q868 q55 q64 q869 hd_X4_less ⟨Nat.le_of_ble_eq_true rfl, Nat.le_of_ble_eq_true rfl⟩ rfl hl.1 rfl (Nat.le_of_ble_eq_true rfl) dX4_proof_10 (fun H locs hw => ?_)
    exact hfin _ _ _ _ _ _ hw (s2a hf) (s2b hf) (narI _) dX4_proof_13
end
section
/-- NineLandsModel.put(I)I -/
theorem dX4_put_0 : decode cX4_put 0 = .ok (.iload_n 1, 1) := by decide +kernel
theorem dX4_put_1 : decode cX4_put 1 = .ok (.iconst 0, 1) := by decide +kernel
theorem dX4_put_2 : decode cX4_put 2 = .ok (.sipush 9999, 3) := by decide +kernel
theorem dX4_put_5 : decode cX4_put 5 = .ok (.invokestatic 78, 3) := by decide +kernel
theorem dX4_put_8 : decode cX4_put 8 = .ok (.istore_n 2, 1) := by decide +kernel
theorem dX4_put_9 : decode cX4_put 9 = .ok (.iload_n 2, 1) := by decide +kernel
theorem dX4_put_10 : decode cX4_put 10 = .ok (.ifCond .ne 15, 3) := by decide +kernel
theorem dX4_put_13 : decode cX4_put 13 = .ok (.aload_n 0, 1) := by decide +kernel
theorem dX4_put_14 : decode cX4_put 14 = .ok (.getfield 182, 3) := by decide +kernel
theorem dX4_put_17 : decode cX4_put 17 = .ok (.bipush 6, 2) := by decide +kernel
theorem dX4_put_19 : decode cX4_put 19 = .ok (.if_icmp .ne 6, 3) := by decide +kernel
theorem dX4_put_22 : decode cX4_put 22 = .ok (.bipush (-6), 2) := by decide +kernel
theorem dX4_put_24 : decode cX4_put 24 = .ok (.istore_n 2, 1) := by decide +kernel
theorem dX4_put_25 : decode cX4_put 25 = .ok (.iload_n 2, 1) := by decide +kernel
theorem dX4_put_26 : decode cX4_put 26 = .ok (.ifCond .eq 9, 3) := by decide +kernel
theorem dX4_put_29 : decode cX4_put 29 = .ok (.aload_n 0, 1) := by decide +kernel
theorem dX4_put_30 : decode cX4_put 30 = .ok (.iload_n 2, 1) := by decide +kernel
theorem dX4_put_31 : decode cX4_put 31 = .ok (.invokevirtual 85, 3) := by decide +kernel
theorem dX4_put_34 : decode cX4_put 34 = .ok (.ireturn, 1) := by decide +kernel
theorem dX4_put_35 : decode cX4_put 35 = .ok (.aload_n 0, 1) := by decide +kernel
theorem dX4_put_36 : decode cX4_put 36 = .ok (.getfield 71, 3) := by decide +kernel
theorem dX4_put_39 : decode cX4_put 39 = .ok (.aload_n 0, 1) := by decide +kernel
theorem dX4_put_40 : decode cX4_put 40 = .ok (.getfield 182, 3) := by decide +kernel
theorem dX4_put_43 : decode cX4_put 43 = .ok (.iload_n 1, 1) := by decide +kernel
theorem dX4_put_44 : decode cX4_put 44 = .ok (.iastore, 1) := by decide +kernel
theorem dX4_put_45 : decode cX4_put 45 = .ok (.aload_n 0, 1) := by decide +kernel
theorem dX4_put_46 : decode cX4_put 46 = .ok (.dup, 1) := by decide +kernel
theorem dX4_put_47 : decode cX4_put 47 = .ok (.getfield 182, 3) := by decide +kernel
theorem dX4_put_50 : decode cX4_put 50 = .ok (.iconst 1, 1) := by decide +kernel
theorem dX4_put_51 : decode cX4_put 51 = .ok (.iadd, 1) := by decide +kernel
theorem dX4_put_52 : decode cX4_put 52 = .ok (.putfield 182, 3) := by decide +kernel
theorem dX4_put_55 : decode cX4_put 55 = .ok (.aload_n 0, 1) := by decide +kernel
theorem dX4_put_56 : decode cX4_put 56 = .ok (.getfield 182, 3) := by decide +kernel
theorem dX4_put_59 : decode cX4_put 59 = .ok (.ireturn, 1) := by decide +kernel
theorem hd_X4_put : yX4_put.cls ≠ "java/lang/invoke/MethodHandle" ∧ yX4_put.cls ≠ "java/lang/invoke/VarHandle" ∧ (parseMethodDescriptor yX4_put.desc).map (fun d => d.parameters.length) = some 1 := by decide +kernel
def f_X4_put_J25 (x1 : Int32) (x2 : Int32) (S : vS) : Option (Int32 × vS) := if x2 = 0 then if inb (S 0 5) 6 = true then lt (upk S 20 (upd (S 20) ((S 0 5).toNatClampNeg) x1)) fun S6 => lt (upk S6 0 (upd (S6 0) 5 ((S6 0 5) + (1 : Int32)))) fun S7 => some ((S7 0 5), S7) else none else b2 (f_X4_no x2 S) fun r10 S9 => some (r10, S9)
def f_X4_put (a1 : Int32) (S : vS) : Option (Int32 × vS) := b1 (f_X4_out a1 (0 : Int32) (9999 : Int32) S) fun r2 => if r2 = 0 then if (S 0 5) = (6 : Int32) then f_X4_put_J25 a1 (-6 : Int32) S else f_X4_put_J25 a1 r2 S else f_X4_put_J25 a1 r2 S
set_option maxHeartbeats 4000000 in
set_option maxRecDepth 20000 in
theorem c_X4_put (l : Launch) (D : va_G) (cI cO : ClassId) (ad : Nat → Nat) (a1 : Int32) (S : vS) (R9 : Int32) (S9 : vS) (hf : f_X4_put a1 S = some (R9, S9)) : CI l yX4_put cX4_put 3 .int ({ frames := 1, cells := 0, slots := 0, locals := 22 }) [.ref (ad 5), .int a1] D cI cO ad S R9 S9 := by
  refine CI.of (by decide +kernel) (Nat.le_of_ble_eq_true rfl) (fun p e s m args below meth c Q ls X hl hw hfin => ?_)
  have hl : lv_has ls 3 [(0, .ref (ad 5)), (1, .int a1)] := hl
  have hx := X.1
  have hb := X.2.1
  have J25 : ∀ (x1 : Int32) (x2 : Int32) (S : vS), f_X4_put_J25 x1 x2 S = some (R9, S9) → ∀ (H : Heap) (locs : List Loc) (ls : Array Slot), WD D cI cO ad s S H locs → lv_has ls 3 [(0, .ref (ad 5)), (1, .int x1), (2, .int x2)] → W p l e ({ frames := 1, cells := 0, slots := 0, locals := 22 }) s m args below meth c H locs 0 0 Q (F0 m 25 ls []) := by
    intro x1 x2 S hf H locs ls hw hl
    unfold f_X4_put_J25 at hf
    refine lv_iload_n hx hb dX4_put_25 rfl (lv_at hl 2 rfl) ?_
    refine lv_if_eq (tgt := 35) hx hb dX4_put_26 (by decide) (fun c4 => ?_) (fun c4 => ?_)
    · replace hf := if_t c4 hf
      refine lv_aload_n hx hb dX4_put_35 rfl (lv_at hl 0 rfl) ?_
      refine x_get X hw 5 (Nat.le_of_ble_eq_true rfl) ce5 rfl i_X4 24 (by decide) q614 ⟨rfl, rfl, rfl⟩ rfl dX4_put_36 ?_
      refine lv_aload_n hx hb dX4_put_39 rfl (lv_at hl 0 rfl) ?_
      refine x_get X hw 5 (Nat.le_of_ble_eq_true rfl) ce5 rfl i_X4 25 (by decide) q615 ⟨rfl, rfl, rfl⟩ rfl dX4_put_40 ?_
      refine lv_iload_n hx hb dX4_put_43 rfl (lv_at hl 1 rfl) ?_
      obtain ⟨h5, hf⟩ := if_s hf
      refine x_iast X hw 20 ⟨Nat.le_of_ble_eq_true rfl, Nat.le_of_ble_eq_true rfl⟩ rfl h5 ((S 0 5).toNatClampNeg) rfl dX4_put_44 (fun S6 eS6 H locs hw => ?_)
      replace hf := lt_e eS6 hf
      refine lv_aload_n hx hb dX4_put_45 rfl (lv_at hl 0 rfl) ?_
      refine lv_dup hx hb dX4_put_46 rfl ?_
      refine x_get X hw 5 (Nat.le_of_ble_eq_true rfl) ce5 rfl i_X4 25 (by decide) q615 ⟨rfl, rfl, rfl⟩ rfl dX4_put_47 ?_
      refine lv_iconst (v := 1) hx hb dX4_put_50 (by decide) ?_
      refine lv_iadd hx hb dX4_put_51 ?_
      refine x_put X hw 5 (Nat.le_of_ble_eq_true rfl) ce5 rfl i_X4 tyX4_ok nmX4 25 (by decide) q615 ⟨rfl, rfl, rfl⟩ rfl pfI rfl rfl (Nat.le_of_ble_eq_true rfl) 5 (ws_5 _) dX4_put_52 (fun S7 eS7 H locs hw => ?_)
      replace hf := lt_e eS7 hf
      refine lv_aload_n hx hb dX4_put_55 rfl (lv_at hl 0 rfl) ?_
      refine x_get X hw 5 (Nat.le_of_ble_eq_true rfl) ce5 rfl i_X4 25 (by decide) q615 ⟨rfl, rfl, rfl⟩ rfl dX4_put_56 ?_
      exact hfin _ _ _ _ _ _ hw (s2a hf) (s2b hf) (narI _) dX4_put_59
    · replace hf := if_f c4 hf
      refine lv_aload_n hx hb dX4_put_29 rfl (lv_at hl 0 rfl) ?_
      refine lv_iload_n hx hb dX4_put_30 rfl (lv_at hl 2 rfl) ?_
      obtain ⟨r10, S9, h8, hf⟩ := b2_s hf
      refine kVi X hw (c_X4_no l D cI cO ad x2 S r10 S9 h8) (Nat.le_of_ble_eq_true rfl) ce5 rfl ⟨rfl, rfl⟩ q688 q690 q34 q64 q691 hd_X4_no ⟨Nat.le_of_ble_eq_true rfl, Nat.le_of_ble_eq_true rfl⟩ rfl hl.1 rfl (Nat.le_of_ble_eq_true rfl) dX4_put_31 (fun H locs hw => ?_)
      exact hfin _ _ _ _ _ _ hw (s2a hf) (s2b hf) (narI _) dX4_put_34
  unfold f_X4_put at hf
  refine lv_iload_n hx hb dX4_put_0 rfl (lv_at hl 1 rfl) ?_
  refine lv_iconst (v := 0) hx hb dX4_put_1 (by decide) ?_
  refine lv_sipush (v := 9999) hx hb dX4_put_2 (by decide +kernel) ?_
  obtain ⟨r2, h1, hf⟩ := b1_s hf
  refine kSi X hw (c_X4_out l D cI cO ad a1 (0 : Int32) (9999 : Int32) S r2 h1) ⟨rfl, rfl⟩ q685 q686 q64 q687 hd_X4_out ⟨Nat.le_of_ble_eq_true rfl, Nat.le_of_ble_eq_true rfl⟩ rfl hl.1 rfl (Nat.le_of_ble_eq_true rfl) dX4_put_5 (fun H locs hw => ?_)
  refine lv_istore_n (lv' := [(2, .int r2), (0, .ref (ad 5)), (1, .int a1)]) hx hb dX4_put_8 rfl hl (by decide) rfl (fun ls hl => ?_)
  refine lv_iload_n hx hb dX4_put_9 rfl (lv_at hl 0 rfl) ?_
  refine lv_if_ne (tgt := 25) hx hb dX4_put_10 (by decide) (fun c3 => ?_) (fun c3 => ?_)
  · replace hf := if_f c3 hf
    exact J25 a1 r2 S hf _ _ _ hw (lv_sub hl [1, 2, 0] rfl)
  · replace hf := if_t c3 hf
    refine lv_aload_n hx hb dX4_put_13 rfl (lv_at hl 1 rfl) ?_
    refine x_get X hw 5 (Nat.le_of_ble_eq_true rfl) ce5 rfl i_X4 25 (by decide) q615 ⟨rfl, rfl, rfl⟩ rfl dX4_put_14 ?_
    refine lv_bipush (v := 6) hx hb dX4_put_17 (by decide +kernel) ?_
    refine lv_icmp_ne (tgt := 25) hx hb dX4_put_19 (by decide) (fun c11 => ?_) (fun c11 => ?_)
    · replace hf := if_f c11 hf
      exact J25 a1 r2 S hf _ _ _ hw (lv_sub hl [1, 2, 0] rfl)
    · replace hf := if_t c11 hf
      refine lv_bipush (v := -6) hx hb dX4_put_22 (by decide +kernel) ?_
      refine lv_istore_n (lv' := [(2, .int (-6 : Int32)), (0, .ref (ad 5)), (1, .int a1)]) hx hb dX4_put_24 rfl hl (by decide) rfl (fun ls hl => ?_)
      exact J25 a1 (-6 : Int32) S hf _ _ _ hw (lv_sub hl [1, 2, 0] rfl)
/-- NineLandsModel.judge()I -/
theorem dX4_judge_0 : decode cX4_judge 0 = .ok (.aload_n 0, 1) := by decide +kernel
theorem dX4_judge_1 : decode cX4_judge 1 = .ok (.getfield 182, 3) := by decide +kernel
theorem dX4_judge_4 : decode cX4_judge 4 = .ok (.istore_n 1, 1) := by decide +kernel
theorem dX4_judge_5 : decode cX4_judge 5 = .ok (.aload_n 0, 1) := by decide +kernel
theorem dX4_judge_6 : decode cX4_judge 6 = .ok (.iconst 0, 1) := by decide +kernel
theorem dX4_judge_7 : decode cX4_judge 7 = .ok (.putfield 182, 3) := by decide +kernel
theorem dX4_judge_10 : decode cX4_judge 10 = .ok (.iload_n 1, 1) := by decide +kernel
theorem dX4_judge_11 : decode cX4_judge 11 = .ok (.istore_n 2, 1) := by decide +kernel
theorem dX4_judge_12 : decode cX4_judge 12 = .ok (.iload_n 2, 1) := by decide +kernel
theorem dX4_judge_13 : decode cX4_judge 13 = .ok (.bipush 6, 2) := by decide +kernel
theorem dX4_judge_15 : decode cX4_judge 15 = .ok (.if_icmp .ge 16, 3) := by decide +kernel
theorem dX4_judge_18 : decode cX4_judge 18 = .ok (.aload_n 0, 1) := by decide +kernel
theorem dX4_judge_19 : decode cX4_judge 19 = .ok (.getfield 71, 3) := by decide +kernel
theorem dX4_judge_22 : decode cX4_judge 22 = .ok (.iload_n 2, 1) := by decide +kernel
theorem dX4_judge_23 : decode cX4_judge 23 = .ok (.iconst 0, 1) := by decide +kernel
theorem dX4_judge_24 : decode cX4_judge 24 = .ok (.iastore, 1) := by decide +kernel
theorem dX4_judge_25 : decode cX4_judge 25 = .ok (.iinc 2 1, 3) := by decide +kernel
theorem dX4_judge_28 : decode cX4_judge 28 = .ok (.goto (-16), 3) := by decide +kernel
theorem dX4_judge_31 : decode cX4_judge 31 = .ok (.aload_n 0, 1) := by decide +kernel
theorem dX4_judge_32 : decode cX4_judge 32 = .ok (.aload_n 0, 1) := by decide +kernel
theorem dX4_judge_33 : decode cX4_judge 33 = .ok (.getfield 102, 3) := by decide +kernel
theorem dX4_judge_36 : decode cX4_judge 36 = .ok (.invokevirtual 133, 3) := by decide +kernel
theorem dX4_judge_39 : decode cX4_judge 39 = .ok (.iconst 0, 1) := by decide +kernel
theorem dX4_judge_40 : decode cX4_judge 40 = .ok (.istore_n 2, 1) := by decide +kernel
theorem dX4_judge_41 : decode cX4_judge 41 = .ok (.iload_n 2, 1) := by decide +kernel
theorem dX4_judge_42 : decode cX4_judge 42 = .ok (.iload_n 1, 1) := by decide +kernel
theorem dX4_judge_43 : decode cX4_judge 43 = .ok (.if_icmp .ge 46, 3) := by decide +kernel
theorem dX4_judge_46 : decode cX4_judge 46 = .ok (.aload_n 0, 1) := by decide +kernel
theorem dX4_judge_47 : decode cX4_judge 47 = .ok (.getfield 71, 3) := by decide +kernel
theorem dX4_judge_50 : decode cX4_judge 50 = .ok (.iload_n 2, 1) := by decide +kernel
theorem dX4_judge_51 : decode cX4_judge 51 = .ok (.iaload, 1) := by decide +kernel
theorem dX4_judge_52 : decode cX4_judge 52 = .ok (.aload_n 0, 1) := by decide +kernel
theorem dX4_judge_53 : decode cX4_judge 53 = .ok (.iload_n 2, 1) := by decide +kernel
theorem dX4_judge_54 : decode cX4_judge 54 = .ok (.aload_n 0, 1) := by decide +kernel
theorem dX4_judge_55 : decode cX4_judge 55 = .ok (.getfield 40, 3) := by decide +kernel
theorem dX4_judge_58 : decode cX4_judge 58 = .ok (.iload_n 2, 1) := by decide +kernel
theorem dX4_judge_59 : decode cX4_judge 59 = .ok (.iaload, 1) := by decide +kernel
theorem dX4_judge_60 : decode cX4_judge 60 = .ok (.aload_n 0, 1) := by decide +kernel
theorem dX4_judge_61 : decode cX4_judge 61 = .ok (.aload_n 0, 1) := by decide +kernel
theorem dX4_judge_62 : decode cX4_judge 62 = .ok (.getfield 71, 3) := by decide +kernel
theorem dX4_judge_65 : decode cX4_judge 65 = .ok (.invokevirtual 156, 3) := by decide +kernel
theorem dX4_judge_68 : decode cX4_judge 68 = .ok (.aload_n 0, 1) := by decide +kernel
theorem dX4_judge_69 : decode cX4_judge 69 = .ok (.getfield 71, 3) := by decide +kernel
theorem dX4_judge_72 : decode cX4_judge 72 = .ok (.iload_n 2, 1) := by decide +kernel
theorem dX4_judge_73 : decode cX4_judge 73 = .ok (.iaload, 1) := by decide +kernel
theorem dX4_judge_74 : decode cX4_judge 74 = .ok (.isub, 1) := by decide +kernel
theorem dX4_judge_75 : decode cX4_judge 75 = .ok (.invokevirtual 160, 3) := by decide +kernel
theorem dX4_judge_78 : decode cX4_judge 78 = .ok (.if_icmp .eq 5, 3) := by decide +kernel
theorem dX4_judge_81 : decode cX4_judge 81 = .ok (.iload_n 2, 1) := by decide +kernel
theorem dX4_judge_82 : decode cX4_judge 82 = .ok (.ireturn, 1) := by decide +kernel
theorem dX4_judge_83 : decode cX4_judge 83 = .ok (.iinc 2 1, 3) := by decide +kernel
theorem dX4_judge_86 : decode cX4_judge 86 = .ok (.goto (-45), 3) := by decide +kernel
theorem dX4_judge_89 : decode cX4_judge 89 = .ok (.iload_n 1, 1) := by decide +kernel
theorem dX4_judge_90 : decode cX4_judge 90 = .ok (.bipush 6, 2) := by decide +kernel
theorem dX4_judge_92 : decode cX4_judge 92 = .ok (.if_icmp .ge 7, 3) := by decide +kernel
theorem dX4_judge_95 : decode cX4_judge 95 = .ok (.iload_n 1, 1) := by decide +kernel
theorem dX4_judge_96 : decode cX4_judge 96 = .ok (.goto 5, 3) := by decide +kernel
theorem dX4_judge_99 : decode cX4_judge 99 = .ok (.bipush (-9), 2) := by decide +kernel
theorem dX4_judge_101 : decode cX4_judge 101 = .ok (.ireturn, 1) := by decide +kernel
theorem hd_X4_judge : yX4_judge.cls ≠ "java/lang/invoke/MethodHandle" ∧ yX4_judge.cls ≠ "java/lang/invoke/VarHandle" ∧ (parseMethodDescriptor yX4_judge.desc).map (fun d => d.parameters.length) = some 0 := by decide +kernel
def f_X4_judge_L12 : Nat → Int32 → Int32 → vS → Option vS
  | 0, _, _, _ => none
  | n + 1, x1, x2, S => if (6 : Int32) ≤ x2 then some S else if inb x2 6 = true then lt (upk S 20 (upd (S 20) (x2.toNatClampNeg) (0 : Int32))) fun S4 => (f_X4_judge_L12 n) x1 (x2 + 1) S4 else none
def f_X4_judge_L41 (S : vS) : Nat → Int32 → Int32 →  Option (Unit ⊕ (Int32 × vS))
  | 0, _, _ => none
  | n + 1, x1, x2 => if x1 ≤ x2 then some (.inl (())) else if inb x2 6 = true then b1 (f_X4_sumOf 20 S) fun r11 => b1 (f_X4_says x2 (S 11 (x2.toNatClampNeg)) (r11 - (S 20 (x2.toNatClampNeg))) S) fun r13 => if (S 20 (x2.toNatClampNeg)) = r13 then (f_X4_judge_L41 S n) x1 (x2 + 1) else some (.inr (x2, S)) else none
def f_X4_judge  (S : vS) : Option (Int32 × vS) := lt (upk S 0 (upd (S 0) 5 (0 : Int32))) fun S1 => b1 (f_X4_judge_L12 FU (S 0 5) (S 0 5) S1) fun S5 => b1 (f_X4_findMonths (S5 0 2) S5) fun S7 => bS (f_X4_judge_L41 S7 FU (S 0 5) (0 : Int32)) some fun _ => if (6 : Int32) ≤ (S 0 5) then some ((-9 : Int32), S7) else some ((S 0 5), S7)
set_option maxHeartbeats 4000000 in
set_option maxRecDepth 20000 in
theorem c_X4_judge (l : Launch) (D : va_G) (cI cO : ClassId) (ad : Nat → Nat)  (S : vS) (R9 : Int32) (S9 : vS) (hf : f_X4_judge  S = some (R9, S9)) : CI l yX4_judge cX4_judge 3 .int ({ frames := 4, cells := 0, slots := 0, locals := 90 }) [.ref (ad 5)] D cI cO ad S R9 S9 := by
  refine CI.of (by decide +kernel) (Nat.le_of_ble_eq_true rfl) (fun p e s m args below meth c Q ls X hl hw hfin => ?_)
  have hl : lv_has ls 3 [(0, .ref (ad 5))] := hl
  have hx := X.1
  have hb := X.2.1
  have L12 : ∀ (n : Nat) (x1 : Int32) (x2 : Int32) (S : vS) (res : vS), f_X4_judge_L12 n x1 x2 S = some res → (K : ∀  (S2 : vS), some S2 = some res → ∀ (H : Heap) (locs : List Loc) (ls : Array Slot), WD D cI cO ad s S2 H locs → lv_has ls 3 [(0, .ref (ad 5)), (1, .int x1)] → W p l e ({ frames := 4, cells := 0, slots := 0, locals := 90 }) s m args below meth c H locs 0 0 Q (F0 m 31 ls [])) → ∀ (H : Heap) (locs : List Loc) (ls : Array Slot), WD D cI cO ad s S H locs → lv_has ls 3 [(0, .ref (ad 5)), (1, .int x1), (2, .int x2)] → W p l e ({ frames := 4, cells := 0, slots := 0, locals := 90 }) s m args below meth c H locs 0 0 Q (F0 m 12 ls []) := by
    intro n
    induction n with
    | zero => intro x1 x2 S res hf; cases hf
    | succ n ih =>
      intro x1 x2 S res hf K H locs ls hw hl
      unfold f_X4_judge_L12 at hf
      refine lv_iload_n hx hb dX4_judge_12 rfl (lv_at hl 2 rfl) ?_
      refine lv_bipush (v := 6) hx hb dX4_judge_13 (by decide +kernel) ?_
      refine lv_icmp_ge (tgt := 31) hx hb dX4_judge_15 (by decide) (fun c2 => ?_) (fun c2 => ?_)
      · replace hf := if_t c2 hf
        exact K S hf _ _ _ hw (lv_sub hl [0, 1] rfl)
      · replace hf := if_f c2 hf
        refine lv_aload_n hx hb dX4_judge_18 rfl (lv_at hl 0 rfl) ?_
        refine x_get X hw 5 (Nat.le_of_ble_eq_true rfl) ce5 rfl i_X4 24 (by decide) q614 ⟨rfl, rfl, rfl⟩ rfl dX4_judge_19 ?_
        refine lv_iload_n hx hb dX4_judge_22 rfl (lv_at hl 2 rfl) ?_
        refine lv_iconst (v := 0) hx hb dX4_judge_23 (by decide) ?_
        obtain ⟨h3, hf⟩ := if_s hf
        refine x_iast X hw 20 ⟨Nat.le_of_ble_eq_true rfl, Nat.le_of_ble_eq_true rfl⟩ rfl h3 (x2.toNatClampNeg) rfl dX4_judge_24 (fun S4 eS4 H locs hw => ?_)
        replace hf := lt_e eS4 hf
        refine lv_iinc (v := (x2 + 1)) (lv' := [(2, .int (x2 + 1)), (0, .ref (ad 5)), (1, .int x1)]) hx hb dX4_judge_25 hl (k := 2) rfl rfl (by decide) rfl (fun ls hl => ?_)
        refine lv_goto (tgt := 12) hx hb dX4_judge_28 (by decide) ?_
        exact ih x1 (x2 + 1) S4 _ hf K _ _ _ hw (lv_sub hl [1, 2, 0] rfl)
  have L41 : ∀ (S : vS) (n : Nat) (x1 : Int32) (x2 : Int32) (res : (Unit ⊕ (Int32 × vS))), f_X4_judge_L41 S n x1 x2 = some res → (K : some (Sum.inl (())) = some res → ∀ (H : Heap) (locs : List Loc) (ls : Array Slot), WD D cI cO ad s S H locs → lv_has ls 3 [(1, .int x1)] → W p l e ({ frames := 4, cells := 0, slots := 0, locals := 90 }) s m args below meth c H locs 0 0 Q (F0 m 89 ls [])) → (K2 : ∀ q : (Int32 × vS), some (Sum.inr q) = some res → some q = some (R9, S9)) → ∀ (H : Heap) (locs : List Loc) (ls : Array Slot), WD D cI cO ad s S H locs → lv_has ls 3 [(0, .ref (ad 5)), (1, .int x1), (2, .int x2)] → W p l e ({ frames := 4, cells := 0, slots := 0, locals := 90 }) s m args below meth c H locs 0 0 Q (F0 m 41 ls []) := by
    intro S n
    induction n with
    | zero => intro x1 x2 res hf; cases hf
    | succ n ih =>
      intro x1 x2 res hf K K2 H locs ls hw hl
      unfold f_X4_judge_L41 at hf
      refine lv_iload_n hx hb dX4_judge_41 rfl (lv_at hl 2 rfl) ?_
      refine lv_iload_n hx hb dX4_judge_42 rfl (lv_at hl 1 rfl) ?_
      refine lv_icmp_ge (tgt := 89) hx hb dX4_judge_43 (by decide) (fun c8 => ?_) (fun c8 => ?_)
      · replace hf := if_t c8 hf
        exact K  hf _ _ _ hw (lv_sub hl [1] rfl)
      · replace hf := if_f c8 hf
        refine lv_aload_n hx hb dX4_judge_46 rfl (lv_at hl 0 rfl) ?_
        refine x_get X hw 5 (Nat.le_of_ble_eq_true rfl) ce5 rfl i_X4 24 (by decide) q614 ⟨rfl, rfl, rfl⟩ rfl dX4_judge_47 ?_
        refine lv_iload_n hx hb dX4_judge_50 rfl (lv_at hl 2 rfl) ?_
        obtain ⟨h9, hf⟩ := if_s hf
        refine x_iald X hw 20 ⟨Nat.le_of_ble_eq_true rfl, Nat.le_of_ble_eq_true rfl⟩ rfl h9 (x2.toNatClampNeg) rfl dX4_judge_51 ?_
        refine lv_aload_n hx hb dX4_judge_52 rfl (lv_at hl 0 rfl) ?_
        refine lv_iload_n hx hb dX4_judge_53 rfl (lv_at hl 2 rfl) ?_
        refine lv_aload_n hx hb dX4_judge_54 rfl (lv_at hl 0 rfl) ?_
        refine x_get X hw 5 (Nat.le_of_ble_eq_true rfl) ce5 rfl i_X4 10 (by decide) q600 ⟨rfl, rfl, rfl⟩ rfl dX4_judge_55 ?_
        refine lv_iload_n hx hb dX4_judge_58 rfl (lv_at hl 2 rfl) ?_
        refine x_iald X hw 11 ⟨Nat.le_of_ble_eq_true rfl, Nat.le_of_ble_eq_true rfl⟩ rfl h9 (x2.toNatClampNeg) rfl dX4_judge_59 ?_
        refine lv_aload_n hx hb dX4_judge_60 rfl (lv_at hl 0 rfl) ?_
        refine lv_aload_n hx hb dX4_judge_61 rfl (lv_at hl 0 rfl) ?_
        refine x_get X hw 5 (Nat.le_of_ble_eq_true rfl) ce5 rfl i_X4 24 (by decide) q614 ⟨rfl, rfl, rfl⟩ rfl dX4_judge_62 ?_
        obtain ⟨r11, h10, hf⟩ := b1_s hf
        refine kVi X hw (c_X4_sumOf l D cI cO ad 20 S r11 h10) (Nat.le_of_ble_eq_true rfl) ce5 rfl ⟨rfl, rfl⟩ q810 q812 q50 q64 q813 hd_X4_sumOf ⟨Nat.le_of_ble_eq_true rfl, Nat.le_of_ble_eq_true rfl⟩ rfl hl.1 rfl (Nat.le_of_ble_eq_true rfl) dX4_judge_65 (fun H locs hw => ?_)
        refine lv_aload_n hx hb dX4_judge_68 rfl (lv_at hl 0 rfl) ?_
        refine x_get X hw 5 (Nat.le_of_ble_eq_true rfl) ce5 rfl i_X4 24 (by decide) q614 ⟨rfl, rfl, rfl⟩ rfl dX4_judge_69 ?_
        refine lv_iload_n hx hb dX4_judge_72 rfl (lv_at hl 2 rfl) ?_
        refine x_iald X hw 20 ⟨Nat.le_of_ble_eq_true rfl, Nat.le_of_ble_eq_true rfl⟩ rfl h9 (x2.toNatClampNeg) rfl dX4_judge_73 ?_
        refine lv_isub hx hb dX4_judge_74 ?_
        obtain ⟨r13, h12, hf⟩ := b1_s hf
        refine kVi X hw (c_X4_says l D cI cO ad x2 (S 11 (x2.toNatClampNeg)) (r11 - (S 20 (x2.toNatClampNeg))) S r13 h12) (Nat.le_of_ble_eq_true rfl) ce5 rfl ⟨rfl, rfl⟩ q775 q777 q44 q64 q778 hd_X4_says ⟨Nat.le_of_ble_eq_true rfl, Nat.le_of_ble_eq_true rfl⟩ rfl hl.1 rfl (Nat.le_of_ble_eq_true rfl) dX4_judge_75 (fun H locs hw => ?_)
        refine lv_icmp_eq (tgt := 83) hx hb dX4_judge_78 (by decide) (fun c14 => ?_) (fun c14 => ?_)
        · replace hf := if_t c14 hf
          refine lv_iinc (v := (x2 + 1)) (lv' := [(2, .int (x2 + 1)), (0, .ref (ad 5)), (1, .int x1)]) hx hb dX4_judge_83 hl (k := 2) rfl rfl (by decide) rfl (fun ls hl => ?_)
          refine lv_goto (tgt := 41) hx hb dX4_judge_86 (by decide) ?_
          exact ih x1 (x2 + 1) _ hf K K2 _ _ _ hw (lv_sub hl [1, 2, 0] rfl)
        · replace hf := if_f c14 hf
          refine lv_iload_n hx hb dX4_judge_81 rfl (lv_at hl 2 rfl) ?_
          replace hf := K2 _ hf
          exact hfin _ _ _ _ _ _ hw (s2a hf) (s2b hf) (narI _) dX4_judge_82
  unfold f_X4_judge at hf
  refine lv_aload_n hx hb dX4_judge_0 rfl (lv_at hl 0 rfl) ?_
  refine x_get X hw 5 (Nat.le_of_ble_eq_true rfl) ce5 rfl i_X4 25 (by decide) q615 ⟨rfl, rfl, rfl⟩ rfl dX4_judge_1 ?_
  refine lv_istore_n (lv' := [(1, .int (S 0 5)), (0, .ref (ad 5))]) hx hb dX4_judge_4 rfl hl (by decide) rfl (fun ls hl => ?_)
  refine lv_aload_n hx hb dX4_judge_5 rfl (lv_at hl 1 rfl) ?_
  refine lv_iconst (v := 0) hx hb dX4_judge_6 (by decide) ?_
  refine x_put X hw 5 (Nat.le_of_ble_eq_true rfl) ce5 rfl i_X4 tyX4_ok nmX4 25 (by decide) q615 ⟨rfl, rfl, rfl⟩ rfl pfI rfl rfl (Nat.le_of_ble_eq_true rfl) 5 (ws_5 _) dX4_judge_7 (fun S1 eS1 H locs hw => ?_)
  replace hf := lt_e eS1 hf
  refine lv_iload_n hx hb dX4_judge_10 rfl (lv_at hl 0 rfl) ?_
  refine lv_istore_n (lv' := [(2, .int (S 0 5)), (1, .int (S 0 5)), (0, .ref (ad 5))]) hx hb dX4_judge_11 rfl hl (by decide) rfl (fun ls hl => ?_)
  obtain ⟨S5, h17, hf⟩ := b1_s hf
  refine L12 FU (S 0 5) (S 0 5) S1 _ h17 (fun S5' eK H locs ls hw hl => ?_) _ _ _ hw (lv_sub hl [2, 1, 0] rfl)
  cases eK
  refine lv_aload_n hx hb dX4_judge_31 rfl (lv_at hl 0 rfl) ?_
  refine lv_aload_n hx hb dX4_judge_32 rfl (lv_at hl 0 rfl) ?_
  refine x_get X hw 5 (Nat.le_of_ble_eq_true rfl) ce5 rfl i_X4 15 (by decide) q605 ⟨rfl, rfl, rfl⟩ rfl dX4_judge_33 ?_
  obtain ⟨S7, h6, hf⟩ := b1_s hf
  refine kVv X hw (c_X4_findMonths l D cI cO ad (S5 0 2) S5 S7 h6) (Nat.le_of_ble_eq_true rfl) ce5 rfl ⟨rfl, rfl⟩ q747 q749 q40 q64 q750 hd_X4_findMonths ⟨Nat.le_of_ble_eq_true rfl, Nat.le_of_ble_eq_true rfl⟩ rfl hl.1 rfl (Nat.le_of_ble_eq_true rfl) dX4_judge_36 (fun H locs hw => ?_)
  refine lv_iconst (v := 0) hx hb dX4_judge_39 (by decide) ?_
  refine lv_istore_n (lv' := [(2, .int (0 : Int32)), (0, .ref (ad 5)), (1, .int (S 0 5))]) hx hb dX4_judge_40 rfl hl (by decide) rfl (fun ls hl => ?_)
  obtain ⟨res, h16, hk1, hk2⟩ := bS_x hf
  refine L41 S7 FU (S 0 5) (0 : Int32) res h16 (fun eK H locs ls hw hl => ?_) (fun q eK => hk2 q (Option.some.inj eK).symm) _ _ _ hw (lv_sub hl [1, 2, 0] rfl)
  replace hf := hk1 _ (Option.some.inj eK).symm
  refine lv_iload_n hx hb dX4_judge_89 rfl (lv_at hl 0 rfl) ?_
  refine lv_bipush (v := 6) hx hb dX4_judge_90 (by decide +kernel) ?_
  refine lv_icmp_ge (tgt := 99) hx hb dX4_judge_92 (by decide) (fun c15 => ?_) (fun c15 => ?_)
  · replace hf := if_t c15 hf
    refine lv_bipush (v := -9) hx hb dX4_judge_99 (by decide +kernel) ?_
    exact hfin _ _ _ _ _ _ hw (s2a hf) (s2b hf) (narI _) dX4_judge_101
  · replace hf := if_f c15 hf
    refine lv_iload_n hx hb dX4_judge_95 rfl (lv_at hl 0 rfl) ?_
    refine lv_goto (tgt := 101) hx hb dX4_judge_96 (by decide) ?_
    exact hfin _ _ _ _ _ _ hw (s2a hf) (s2b hf) (narI _) dX4_judge_101
/-- NineLandsModel.passes([I)V -/
theorem dX4_passes_0 : decode cX4_passes 0 = .ok (.iconst 0, 1) := by decide +kernel
theorem dX4_passes_1 : decode cX4_passes 1 = .ok (.istore_n 2, 1) := by decide +kernel
theorem dX4_passes_2 : decode cX4_passes 2 = .ok (.iload_n 2, 1) := by decide +kernel
theorem dX4_passes_3 : decode cX4_passes 3 = .ok (.aload_n 1, 1) := by decide +kernel
theorem dX4_passes_4 : decode cX4_passes 4 = .ok (.arraylength, 1) := by decide +kernel
theorem dX4_passes_5 : decode cX4_passes 5 = .ok (.if_icmp .ge 53, 3) := by decide +kernel
theorem dX4_passes_8 : decode cX4_passes 8 = .ok (.aload_n 0, 1) := by decide +kernel
theorem dX4_passes_9 : decode cX4_passes 9 = .ok (.getfield 185, 3) := by decide +kernel
theorem dX4_passes_12 : decode cX4_passes 12 = .ok (.ifCond .eq 18, 3) := by decide +kernel
theorem dX4_passes_15 : decode cX4_passes 15 = .ok (.aload_n 0, 1) := by decide +kernel
theorem dX4_passes_16 : decode cX4_passes 16 = .ok (.getfield 74, 3) := by decide +kernel
theorem dX4_passes_19 : decode cX4_passes 19 = .ok (.aload_n 0, 1) := by decide +kernel
theorem dX4_passes_20 : decode cX4_passes 20 = .ok (.getfield 188, 3) := by decide +kernel
theorem dX4_passes_23 : decode cX4_passes 23 = .ok (.aload_n 1, 1) := by decide +kernel
theorem dX4_passes_24 : decode cX4_passes 24 = .ok (.iload_n 2, 1) := by decide +kernel
theorem dX4_passes_25 : decode cX4_passes 25 = .ok (.iaload, 1) := by decide +kernel
theorem dX4_passes_26 : decode cX4_passes 26 = .ok (.iastore, 1) := by decide +kernel
theorem dX4_passes_27 : decode cX4_passes 27 = .ok (.goto 15, 3) := by decide +kernel
theorem dX4_passes_30 : decode cX4_passes 30 = .ok (.aload_n 1, 1) := by decide +kernel
theorem dX4_passes_31 : decode cX4_passes 31 = .ok (.iload_n 2, 1) := by decide +kernel
theorem dX4_passes_32 : decode cX4_passes 32 = .ok (.aload_n 0, 1) := by decide +kernel
theorem dX4_passes_33 : decode cX4_passes 33 = .ok (.getfield 74, 3) := by decide +kernel
theorem dX4_passes_36 : decode cX4_passes 36 = .ok (.aload_n 0, 1) := by decide +kernel
theorem dX4_passes_37 : decode cX4_passes 37 = .ok (.getfield 188, 3) := by decide +kernel
theorem dX4_passes_40 : decode cX4_passes 40 = .ok (.iaload, 1) := by decide +kernel
theorem dX4_passes_41 : decode cX4_passes 41 = .ok (.iastore, 1) := by decide +kernel
theorem dX4_passes_42 : decode cX4_passes 42 = .ok (.aload_n 0, 1) := by decide +kernel
theorem dX4_passes_43 : decode cX4_passes 43 = .ok (.dup, 1) := by decide +kernel
theorem dX4_passes_44 : decode cX4_passes 44 = .ok (.getfield 188, 3) := by decide +kernel
theorem dX4_passes_47 : decode cX4_passes 47 = .ok (.iconst 1, 1) := by decide +kernel
theorem dX4_passes_48 : decode cX4_passes 48 = .ok (.iadd, 1) := by decide +kernel
theorem dX4_passes_49 : decode cX4_passes 49 = .ok (.putfield 188, 3) := by decide +kernel
theorem dX4_passes_52 : decode cX4_passes 52 = .ok (.iinc 2 1, 3) := by decide +kernel
theorem dX4_passes_55 : decode cX4_passes 55 = .ok (.goto (-53), 3) := by decide +kernel
theorem dX4_passes_58 : decode cX4_passes 58 = .ok (.return_, 1) := by decide +kernel
theorem hd_X4_passes : yX4_passes.cls ≠ "java/lang/invoke/MethodHandle" ∧ yX4_passes.cls ≠ "java/lang/invoke/VarHandle" ∧ (parseMethodDescriptor yX4_passes.desc).map (fun d => d.parameters.length) = some 1 := by decide +kernel
def f_X4_passes_L2 : Nat → Nat → Int32 → vS → Option vS
  | 0, _, _, _ => none
  | n + 1, x1, x2, S => if 1 ≤ x1 ∧ x1 ≤ 97 then if (nI (alen x1)) ≤ x2 then some S else if (S 0 7) = 0 then if inb (S 0 8) 300 = true then if inb x2 (alen x1) = true then lt (upk S x1 (upd (S x1) (x2.toNatClampNeg) (S 21 ((S 0 8).toNatClampNeg)))) fun S6 => lt (upk S6 0 (upd (S6 0) 8 ((S6 0 8) + (1 : Int32)))) fun S7 => (f_X4_passes_L2 n) x1 (x2 + 1) S7 else none else none else if inb x2 (alen x1) = true then if inb (S 0 8) 300 = true then lt (upk S 21 (upd (S 21) ((S 0 8).toNatClampNeg) (S x1 (x2.toNatClampNeg)))) fun S10 => lt (upk S10 0 (upd (S10 0) 8 ((S10 0 8) + (1 : Int32)))) fun S11 => (f_X4_passes_L2 n) x1 (x2 + 1) S11 else none else none else none
def f_X4_passes (a1 : Nat) (S : vS) : Option vS := b1 (f_X4_passes_L2 FU a1 (0 : Int32) S) fun S12 => some S12
set_option maxHeartbeats 4000000 in
set_option maxRecDepth 20000 in
theorem c_X4_passes (l : Launch) (D : va_G) (cI cO : ClassId) (ad : Nat → Nat) (a1 : Nat) (S : vS) (S9 : vS) (hf : f_X4_passes a1 S = some S9) : CV l yX4_passes cX4_passes 3 ({ frames := 0, cells := 0, slots := 0, locals := 0 }) [.ref (ad 5), .ref (ar ad a1)] D cI cO ad S S9 := by
  refine CV.of (r := 0) (by decide +kernel) (Nat.le_of_ble_eq_true rfl) (fun p e s m args below meth c Q ls X hl hw hfin => ?_)
  have hl : lv_has ls 3 [(0, .ref (ad 5)), (1, .ref (ar ad a1))] := hl
  have hx := X.1
  have hb := X.2.1
  have L2 : ∀ (n : Nat) (x1 : Nat) (x2 : Int32) (S : vS) (res : vS), f_X4_passes_L2 n x1 x2 S = some res → (K : ∀  (S2 : vS), some S2 = some res → ∀ (H : Heap) (locs : List Loc) (ls : Array Slot), WD D cI cO ad s S2 H locs → lv_has ls 3 [] → W p l e ({ frames := 0, cells := 0, slots := 0, locals := 0 }) s m args below meth c H locs 0 0 Q (F0 m 58 ls [])) → ∀ (H : Heap) (locs : List Loc) (ls : Array Slot), WD D cI cO ad s S H locs → lv_has ls 3 [(0, .ref (ad 5)), (1, .ref (ar ad x1)), (2, .int x2)] → W p l e ({ frames := 0, cells := 0, slots := 0, locals := 0 }) s m args below meth c H locs 0 0 Q (F0 m 2 ls []) := by
    intro n
    induction n with
    | zero => intro x1 x2 S res hf; cases hf
    | succ n ih =>
      intro x1 x2 S res hf K H locs ls hw hl
      unfold f_X4_passes_L2 at hf
      refine lv_iload_n hx hb dX4_passes_2 rfl (lv_at hl 2 rfl) ?_
      refine lv_aload_n hx hb dX4_passes_3 rfl (lv_at hl 1 rfl) ?_
      obtain ⟨h1, hf⟩ := if_s hf
      refine x_alen X hw x1 h1 (v := nI (alen x1)) rfl dX4_passes_4 ?_
      refine lv_icmp_ge (tgt := 58) hx hb dX4_passes_5 (by decide) (fun c2 => ?_) (fun c2 => ?_)
      · replace hf := if_t c2 hf
        exact K S hf _ _ _ hw (lv_sub hl [] rfl)
      · replace hf := if_f c2 hf
        refine lv_aload_n hx hb dX4_passes_8 rfl (lv_at hl 0 rfl) ?_
        refine x_get X hw 5 (Nat.le_of_ble_eq_true rfl) ce5 rfl i_X4 28 (by decide) q618 ⟨rfl, rfl, rfl⟩ rfl dX4_passes_9 ?_
        refine lv_if_eq (tgt := 30) hx hb dX4_passes_12 (by decide) (fun c3 => ?_) (fun c3 => ?_)
        · replace hf := if_t c3 hf
          refine lv_aload_n hx hb dX4_passes_30 rfl (lv_at hl 1 rfl) ?_
          refine lv_iload_n hx hb dX4_passes_31 rfl (lv_at hl 2 rfl) ?_
          refine lv_aload_n hx hb dX4_passes_32 rfl (lv_at hl 0 rfl) ?_
          refine x_get X hw 5 (Nat.le_of_ble_eq_true rfl) ce5 rfl i_X4 26 (by decide) q616 ⟨rfl, rfl, rfl⟩ rfl dX4_passes_33 ?_
          refine lv_aload_n hx hb dX4_passes_36 rfl (lv_at hl 0 rfl) ?_
          refine x_get X hw 5 (Nat.le_of_ble_eq_true rfl) ce5 rfl i_X4 29 (by decide) q619 ⟨rfl, rfl, rfl⟩ rfl dX4_passes_37 ?_
          obtain ⟨h4, hf⟩ := if_s hf
          refine x_iald X hw 21 ⟨Nat.le_of_ble_eq_true rfl, Nat.le_of_ble_eq_true rfl⟩ rfl h4 ((S 0 8).toNatClampNeg) rfl dX4_passes_40 ?_
          obtain ⟨h5, hf⟩ := if_s hf
          refine x_iast X hw x1 h1 rfl h5 (x2.toNatClampNeg) rfl dX4_passes_41 (fun S6 eS6 H locs hw => ?_)
          replace hf := lt_e eS6 hf
          refine lv_aload_n hx hb dX4_passes_42 rfl (lv_at hl 0 rfl) ?_
          refine lv_dup hx hb dX4_passes_43 rfl ?_
          refine x_get X hw 5 (Nat.le_of_ble_eq_true rfl) ce5 rfl i_X4 29 (by decide) q619 ⟨rfl, rfl, rfl⟩ rfl dX4_passes_44 ?_
          refine lv_iconst (v := 1) hx hb dX4_passes_47 (by decide) ?_
          refine lv_iadd hx hb dX4_passes_48 ?_
          refine x_put X hw 5 (Nat.le_of_ble_eq_true rfl) ce5 rfl i_X4 tyX4_ok nmX4 29 (by decide) q619 ⟨rfl, rfl, rfl⟩ rfl pfI rfl rfl (Nat.le_of_ble_eq_true rfl) 8 (ws_8 _) dX4_passes_49 (fun S7 eS7 H locs hw => ?_)
          replace hf := lt_e eS7 hf
          refine lv_iinc (v := (x2 + 1)) (lv' := [(2, .int (x2 + 1)), (0, .ref (ad 5)), (1, .ref (ar ad x1))]) hx hb dX4_passes_52 hl (k := 2) rfl rfl (by decide) rfl (fun ls hl => ?_)
          refine lv_goto (tgt := 2) hx hb dX4_passes_55 (by decide) ?_
          exact ih x1 (x2 + 1) S7 _ hf K _ _ _ hw (lv_sub hl [1, 2, 0] rfl)
        · replace hf := if_f c3 hf
          refine lv_aload_n hx hb dX4_passes_15 rfl (lv_at hl 0 rfl) ?_
          refine x_get X hw 5 (Nat.le_of_ble_eq_true rfl) ce5 rfl i_X4 26 (by decide) q616 ⟨rfl, rfl, rfl⟩ rfl dX4_passes_16 ?_
          refine lv_aload_n hx hb dX4_passes_19 rfl (lv_at hl 0 rfl) ?_
          refine x_get X hw 5 (Nat.le_of_ble_eq_true rfl) ce5 rfl i_X4 29 (by decide) q619 ⟨rfl, rfl, rfl⟩ rfl dX4_passes_20 ?_
          refine lv_aload_n hx hb dX4_passes_23 rfl (lv_at hl 1 rfl) ?_
          refine lv_iload_n hx hb dX4_passes_24 rfl (lv_at hl 2 rfl) ?_
          obtain ⟨h8, hf⟩ := if_s hf
          refine x_iald X hw x1 h1 rfl h8 (x2.toNatClampNeg) rfl dX4_passes_25 ?_
          obtain ⟨h9, hf⟩ := if_s hf
          refine x_iast X hw 21 ⟨Nat.le_of_ble_eq_true rfl, Nat.le_of_ble_eq_true rfl⟩ rfl h9 ((S 0 8).toNatClampNeg) rfl dX4_passes_26 (fun S10 eS10 H locs hw => ?_)
          replace hf := lt_e eS10 hf
          refine lv_goto (tgt := 42) hx hb dX4_passes_27 (by decide) ?_
          refine lv_aload_n hx hb dX4_passes_42 rfl (lv_at hl 0 rfl) ?_
          refine lv_dup hx hb dX4_passes_43 rfl ?_
          refine x_get X hw 5 (Nat.le_of_ble_eq_true rfl) ce5 rfl i_X4 29 (by decide) q619 ⟨rfl, rfl, rfl⟩ rfl dX4_passes_44 ?_
          refine lv_iconst (v := 1) hx hb dX4_passes_47 (by decide) ?_
          refine lv_iadd hx hb dX4_passes_48 ?_
          refine x_put X hw 5 (Nat.le_of_ble_eq_true rfl) ce5 rfl i_X4 tyX4_ok nmX4 29 (by decide) q619 ⟨rfl, rfl, rfl⟩ rfl pfI rfl rfl (Nat.le_of_ble_eq_true rfl) 8 (ws_8 _) dX4_passes_49 (fun S11 eS11 H locs hw => ?_)
          replace hf := lt_e eS11 hf
          refine lv_iinc (v := (x2 + 1)) (lv' := [(2, .int (x2 + 1)), (0, .ref (ad 5)), (1, .ref (ar ad x1))]) hx hb dX4_passes_52 hl (k := 2) rfl rfl (by decide) rfl (fun ls hl => ?_)
          refine lv_goto (tgt := 2) hx hb dX4_passes_55 (by decide) ?_
          exact ih x1 (x2 + 1) S11 _ hf K _ _ _ hw (lv_sub hl [1, 2, 0] rfl)
  unfold f_X4_passes at hf
  refine lv_iconst (v := 0) hx hb dX4_passes_0 (by decide) ?_
  refine lv_istore_n (lv' := [(2, .int (0 : Int32)), (0, .ref (ad 5)), (1, .ref (ar ad a1))]) hx hb dX4_passes_1 rfl hl (by decide) rfl (fun ls hl => ?_)
  obtain ⟨S12, h13, hf⟩ := b1_s hf
  refine L2 FU a1 (0 : Int32) S _ h13 (fun S12' eK H locs ls hw hl => ?_) _ _ _ hw (lv_sub hl [1, 2, 0] rfl)
  cases eK
  exact hfin _ _ 0 _ _ _ hw rfl (Option.some.inj hf) dX4_passes_58
/-- NineLandsModel.passesAll()V -/
theorem dX4_passesAll_0 : decode cX4_passesAll 0 = .ok (.aload_n 0, 1) := by decide +kernel
theorem dX4_passesAll_1 : decode cX4_passesAll 1 = .ok (.iconst 0, 1) := by decide +kernel
theorem dX4_passesAll_2 : decode cX4_passesAll 2 = .ok (.putfield 188, 3) := by decide +kernel
theorem dX4_passesAll_5 : decode cX4_passesAll 5 = .ok (.aload_n 0, 1) := by decide +kernel
theorem dX4_passesAll_6 : decode cX4_passesAll 6 = .ok (.aload_n 0, 1) := by decide +kernel
theorem dX4_passesAll_7 : decode cX4_passesAll 7 = .ok (.getfield 16, 3) := by decide +kernel
theorem dX4_passesAll_10 : decode cX4_passesAll 10 = .ok (.invokevirtual 191, 3) := by decide +kernel
theorem dX4_passesAll_13 : decode cX4_passesAll 13 = .ok (.aload_n 0, 1) := by decide +kernel
theorem dX4_passesAll_14 : decode cX4_passesAll 14 = .ok (.aload_n 0, 1) := by decide +kernel
theorem dX4_passesAll_15 : decode cX4_passesAll 15 = .ok (.getfield 19, 3) := by decide +kernel
theorem dX4_passesAll_18 : decode cX4_passesAll 18 = .ok (.invokevirtual 191, 3) := by decide +kernel
theorem dX4_passesAll_21 : decode cX4_passesAll 21 = .ok (.aload_n 0, 1) := by decide +kernel
theorem dX4_passesAll_22 : decode cX4_passesAll 22 = .ok (.aload_n 0, 1) := by decide +kernel
theorem dX4_passesAll_23 : decode cX4_passesAll 23 = .ok (.getfield 22, 3) := by decide +kernel
theorem dX4_passesAll_26 : decode cX4_passesAll 26 = .ok (.invokevirtual 191, 3) := by decide +kernel
theorem dX4_passesAll_29 : decode cX4_passesAll 29 = .ok (.aload_n 0, 1) := by decide +kernel
theorem dX4_passesAll_30 : decode cX4_passesAll 30 = .ok (.aload_n 0, 1) := by decide +kernel
theorem dX4_passesAll_31 : decode cX4_passesAll 31 = .ok (.getfield 25, 3) := by decide +kernel
theorem dX4_passesAll_34 : decode cX4_passesAll 34 = .ok (.invokevirtual 191, 3) := by decide +kernel
theorem dX4_passesAll_37 : decode cX4_passesAll 37 = .ok (.aload_n 0, 1) := by decide +kernel
theorem dX4_passesAll_38 : decode cX4_passesAll 38 = .ok (.aload_n 0, 1) := by decide +kernel
theorem dX4_passesAll_39 : decode cX4_passesAll 39 = .ok (.getfield 28, 3) := by decide +kernel
theorem dX4_passesAll_42 : decode cX4_passesAll 42 = .ok (.invokevirtual 191, 3) := by decide +kernel
theorem dX4_passesAll_45 : decode cX4_passesAll 45 = .ok (.aload_n 0, 1) := by decide +kernel
theorem dX4_passesAll_46 : decode cX4_passesAll 46 = .ok (.aload_n 0, 1) := by decide +kernel
theorem dX4_passesAll_47 : decode cX4_passesAll 47 = .ok (.getfield 31, 3) := by decide +kernel
theorem dX4_passesAll_50 : decode cX4_passesAll 50 = .ok (.invokevirtual 191, 3) := by decide +kernel
theorem dX4_passesAll_53 : decode cX4_passesAll 53 = .ok (.aload_n 0, 1) := by decide +kernel
theorem dX4_passesAll_54 : decode cX4_passesAll 54 = .ok (.aload_n 0, 1) := by decide +kernel
theorem dX4_passesAll_55 : decode cX4_passesAll 55 = .ok (.getfield 34, 3) := by decide +kernel
theorem dX4_passesAll_58 : decode cX4_passesAll 58 = .ok (.invokevirtual 191, 3) := by decide +kernel
theorem dX4_passesAll_61 : decode cX4_passesAll 61 = .ok (.aload_n 0, 1) := by decide +kernel
theorem dX4_passesAll_62 : decode cX4_passesAll 62 = .ok (.aload_n 0, 1) := by decide +kernel
theorem dX4_passesAll_63 : decode cX4_passesAll 63 = .ok (.getfield 37, 3) := by decide +kernel
theorem dX4_passesAll_66 : decode cX4_passesAll 66 = .ok (.invokevirtual 191, 3) := by decide +kernel
theorem dX4_passesAll_69 : decode cX4_passesAll 69 = .ok (.aload_n 0, 1) := by decide +kernel
theorem dX4_passesAll_70 : decode cX4_passesAll 70 = .ok (.aload_n 0, 1) := by decide +kernel
theorem dX4_passesAll_71 : decode cX4_passesAll 71 = .ok (.getfield 40, 3) := by decide +kernel
theorem dX4_passesAll_74 : decode cX4_passesAll 74 = .ok (.invokevirtual 191, 3) := by decide +kernel
theorem dX4_passesAll_77 : decode cX4_passesAll 77 = .ok (.aload_n 0, 1) := by decide +kernel
theorem dX4_passesAll_78 : decode cX4_passesAll 78 = .ok (.aload_n 0, 1) := by decide +kernel
theorem dX4_passesAll_79 : decode cX4_passesAll 79 = .ok (.getfield 43, 3) := by decide +kernel
theorem dX4_passesAll_82 : decode cX4_passesAll 82 = .ok (.invokevirtual 191, 3) := by decide +kernel
theorem dX4_passesAll_85 : decode cX4_passesAll 85 = .ok (.aload_n 0, 1) := by decide +kernel
theorem dX4_passesAll_86 : decode cX4_passesAll 86 = .ok (.getfield 185, 3) := by decide +kernel
theorem dX4_passesAll_89 : decode cX4_passesAll 89 = .ok (.ifCond .eq 19, 3) := by decide +kernel
theorem dX4_passesAll_92 : decode cX4_passesAll 92 = .ok (.aload_n 0, 1) := by decide +kernel
theorem dX4_passesAll_93 : decode cX4_passesAll 93 = .ok (.getfield 74, 3) := by decide +kernel
theorem dX4_passesAll_96 : decode cX4_passesAll 96 = .ok (.aload_n 0, 1) := by decide +kernel
theorem dX4_passesAll_97 : decode cX4_passesAll 97 = .ok (.getfield 188, 3) := by decide +kernel
theorem dX4_passesAll_100 : decode cX4_passesAll 100 = .ok (.aload_n 0, 1) := by decide +kernel
theorem dX4_passesAll_101 : decode cX4_passesAll 101 = .ok (.getfield 102, 3) := by decide +kernel
theorem dX4_passesAll_104 : decode cX4_passesAll 104 = .ok (.iastore, 1) := by decide +kernel
theorem dX4_passesAll_105 : decode cX4_passesAll 105 = .ok (.goto 16, 3) := by decide +kernel
theorem dX4_passesAll_108 : decode cX4_passesAll 108 = .ok (.aload_n 0, 1) := by decide +kernel
theorem dX4_passesAll_109 : decode cX4_passesAll 109 = .ok (.aload_n 0, 1) := by decide +kernel
theorem dX4_passesAll_110 : decode cX4_passesAll 110 = .ok (.getfield 74, 3) := by decide +kernel
theorem dX4_passesAll_113 : decode cX4_passesAll 113 = .ok (.aload_n 0, 1) := by decide +kernel
theorem dX4_passesAll_114 : decode cX4_passesAll 114 = .ok (.getfield 188, 3) := by decide +kernel
theorem dX4_passesAll_117 : decode cX4_passesAll 117 = .ok (.iaload, 1) := by decide +kernel
theorem dX4_passesAll_118 : decode cX4_passesAll 118 = .ok (.putfield 102, 3) := by decide +kernel
theorem dX4_passesAll_121 : decode cX4_passesAll 121 = .ok (.return_, 1) := by decide +kernel
theorem hd_X4_passesAll : yX4_passesAll.cls ≠ "java/lang/invoke/MethodHandle" ∧ yX4_passesAll.cls ≠ "java/lang/invoke/VarHandle" ∧ (parseMethodDescriptor yX4_passesAll.desc).map (fun d => d.parameters.length) = some 0 := by decide +kernel
def f_X4_passesAll  (S : vS) : Option vS := lt (upk S 0 (upd (S 0) 8 (0 : Int32))) fun S1 => b1 (f_X4_passes 3 S1) fun S3 => b1 (f_X4_passes 4 S3) fun S5 => b1 (f_X4_passes 5 S5) fun S7 => b1 (f_X4_passes 6 S7) fun S9 => b1 (f_X4_passes 7 S9) fun S11 => b1 (f_X4_passes 8 S11) fun S13 => b1 (f_X4_passes 9 S13) fun S15 => b1 (f_X4_passes 10 S15) fun S17 => b1 (f_X4_passes 11 S17) fun S19 => b1 (f_X4_passes 12 S19) fun S21 => if (S21 0 7) = 0 then if inb (S21 0 8) 300 = true then lt (upk S21 0 (upd (S21 0) 2 (S21 21 ((S21 0 8).toNatClampNeg)))) fun S24 => some S24 else none else if inb (S21 0 8) 300 = true then lt (upk S21 21 (upd (S21 21) ((S21 0 8).toNatClampNeg) (S21 0 2))) fun S26 => some S26 else none
set_option maxHeartbeats 4000000 in
set_option maxRecDepth 20000 in
theorem c_X4_passesAll (l : Launch) (D : va_G) (cI cO : ClassId) (ad : Nat → Nat)  (S : vS) (S9 : vS) (hf : f_X4_passesAll  S = some S9) : CV l yX4_passesAll cX4_passesAll 1 ({ frames := 1, cells := 0, slots := 0, locals := 22 }) [.ref (ad 5)] D cI cO ad S S9 := by
  refine CV.of (r := 0) (by decide +kernel) (Nat.le_of_ble_eq_true rfl) (fun p e s m args below meth c Q ls X hl hw hfin => ?_)
  have hl : lv_has ls 1 [(0, .ref (ad 5))] := hl
  have hx := X.1
  have hb := X.2.1
  unfold f_X4_passesAll at hf
  refine lv_aload_n hx hb dX4_passesAll_0 rfl (lv_at hl 0 rfl) ?_
  refine lv_iconst (v := 0) hx hb dX4_passesAll_1 (by decide) ?_
  refine x_put X hw 5 (Nat.le_of_ble_eq_true rfl) ce5 rfl i_X4 tyX4_ok nmX4 29 (by decide) q619 ⟨rfl, rfl, rfl⟩ rfl pfI rfl rfl (Nat.le_of_ble_eq_true rfl) 8 (ws_8 _) dX4_passesAll_2 (fun S1 eS1 H locs hw => ?_)
  replace hf := lt_e eS1 hf
  refine lv_aload_n hx hb dX4_passesAll_5 rfl (lv_at hl 0 rfl) ?_
  refine lv_aload_n hx hb dX4_passesAll_6 rfl (lv_at hl 0 rfl) ?_
  refine x_get X hw 5 (Nat.le_of_ble_eq_true rfl) ce5 rfl i_X4 2 (by decide) q592 ⟨rfl, rfl, rfl⟩ rfl dX4_passesAll_7 ?_
  obtain ⟨S3, h2, hf⟩ := b1_s hf
  refine kVv X hw (c_X4_passes l D cI cO ad 3 S1 S3 h2) (Nat.le_of_ble_eq_true rfl) ce5 rfl ⟨rfl, rfl⟩ q891 q893 q57 q64 q894 hd_X4_passes ⟨Nat.le_of_ble_eq_true rfl, Nat.le_of_ble_eq_true rfl⟩ rfl hl.1 rfl (Nat.le_of_ble_eq_true rfl) dX4_passesAll_10 (fun H locs hw => ?_)
  refine lv_aload_n hx hb dX4_passesAll_13 rfl (lv_at hl 0 rfl) ?_
  refine lv_aload_n hx hb dX4_passesAll_14 rfl (lv_at hl 0 rfl) ?_
  refine x_get X hw 5 (Nat.le_of_ble_eq_true rfl) ce5 rfl i_X4 3 (by decide) q593 ⟨rfl, rfl, rfl⟩ rfl dX4_passesAll_15 ?_
  obtain ⟨S5, h4, hf⟩ := b1_s hf
  refine kVv X hw (c_X4_passes l D cI cO ad 4 S3 S5 h4) (Nat.le_of_ble_eq_true rfl) ce5 rfl ⟨rfl, rfl⟩ q891 q893 q57 q64 q894 hd_X4_passes ⟨Nat.le_of_ble_eq_true rfl, Nat.le_of_ble_eq_true rfl⟩ rfl hl.1 rfl (Nat.le_of_ble_eq_true rfl) dX4_passesAll_18 (fun H locs hw => ?_)
  refine lv_aload_n hx hb dX4_passesAll_21 rfl (lv_at hl 0 rfl) ?_
  refine lv_aload_n hx hb dX4_passesAll_22 rfl (lv_at hl 0 rfl) ?_
  refine x_get X hw 5 (Nat.le_of_ble_eq_true rfl) ce5 rfl i_X4 4 (by decide) q594 ⟨rfl, rfl, rfl⟩ rfl dX4_passesAll_23 ?_
  obtain ⟨S7, h6, hf⟩ := b1_s hf
  refine kVv X hw (c_X4_passes l D cI cO ad 5 S5 S7 h6) (Nat.le_of_ble_eq_true rfl) ce5 rfl ⟨rfl, rfl⟩ q891 q893 q57 q64 q894 hd_X4_passes ⟨Nat.le_of_ble_eq_true rfl, Nat.le_of_ble_eq_true rfl⟩ rfl hl.1 rfl (Nat.le_of_ble_eq_true rfl) dX4_passesAll_26 (fun H locs hw => ?_)
  refine lv_aload_n hx hb dX4_passesAll_29 rfl (lv_at hl 0 rfl) ?_
  refine lv_aload_n hx hb dX4_passesAll_30 rfl (lv_at hl 0 rfl) ?_
  refine x_get X hw 5 (Nat.le_of_ble_eq_true rfl) ce5 rfl i_X4 5 (by decide) q595 ⟨rfl, rfl, rfl⟩ rfl dX4_passesAll_31 ?_
  obtain ⟨S9, h8, hf⟩ := b1_s hf
  refine kVv X hw (c_X4_passes l D cI cO ad 6 S7 S9 h8) (Nat.le_of_ble_eq_true rfl) ce5 rfl ⟨rfl, rfl⟩ q891 q893 q57 q64 q894 hd_X4_passes ⟨Nat.le_of_ble_eq_true rfl, Nat.le_of_ble_eq_true rfl⟩ rfl hl.1 rfl (Nat.le_of_ble_eq_true rfl) dX4_passesAll_34 (fun H locs hw => ?_)
  refine lv_aload_n hx hb dX4_passesAll_37 rfl (lv_at hl 0 rfl) ?_
  refine lv_aload_n hx hb dX4_passesAll_38 rfl (lv_at hl 0 rfl) ?_
  refine x_get X hw 5 (Nat.le_of_ble_eq_true rfl) ce5 rfl i_X4 6 (by decide) q596 ⟨rfl, rfl, rfl⟩ rfl dX4_passesAll_39 ?_
  obtain ⟨S11, h10, hf⟩ := b1_s hf
  refine kVv X hw (c_X4_passes l D cI cO ad 7 S9 S11 h10) (Nat.le_of_ble_eq_true rfl) ce5 rfl ⟨rfl, rfl⟩ q891 q893 q57 q64 q894 hd_X4_passes ⟨Nat.le_of_ble_eq_true rfl, Nat.le_of_ble_eq_true rfl⟩ rfl hl.1 rfl (Nat.le_of_ble_eq_true rfl) dX4_passesAll_42 (fun H locs hw => ?_)
  refine lv_aload_n hx hb dX4_passesAll_45 rfl (lv_at hl 0 rfl) ?_
  refine lv_aload_n hx hb dX4_passesAll_46 rfl (lv_at hl 0 rfl) ?_
  refine x_get X hw 5 (Nat.le_of_ble_eq_true rfl) ce5 rfl i_X4 7 (by decide) q597 ⟨rfl, rfl, rfl⟩ rfl dX4_passesAll_47 ?_
  obtain ⟨S13, h12, hf⟩ := b1_s hf
  refine kVv X hw (c_X4_passes l D cI cO ad 8 S11 S13 h12) (Nat.le_of_ble_eq_true rfl) ce5 rfl ⟨rfl, rfl⟩ q891 q893 q57 q64 q894 hd_X4_passes ⟨Nat.le_of_ble_eq_true rfl, Nat.le_of_ble_eq_true rfl⟩ rfl hl.1 rfl (Nat.le_of_ble_eq_true rfl) dX4_passesAll_50 (fun H locs hw => ?_)
  refine lv_aload_n hx hb dX4_passesAll_53 rfl (lv_at hl 0 rfl) ?_
  refine lv_aload_n hx hb dX4_passesAll_54 rfl (lv_at hl 0 rfl) ?_
  refine x_get X hw 5 (Nat.le_of_ble_eq_true rfl) ce5 rfl i_X4 8 (by decide) q598 ⟨rfl, rfl, rfl⟩ rfl dX4_passesAll_55 ?_
  obtain ⟨S15, h14, hf⟩ := b1_s hf
  refine kVv X hw (c_X4_passes l D cI cO ad 9 S13 S15 h14) (Nat.le_of_ble_eq_true rfl) ce5 rfl ⟨rfl, rfl⟩ q891 q893 q57 q64 q894 hd_X4_passes ⟨Nat.le_of_ble_eq_true rfl, Nat.le_of_ble_eq_true rfl⟩ rfl hl.1 rfl (Nat.le_of_ble_eq_true rfl) dX4_passesAll_58 (fun H locs hw => ?_)
  refine lv_aload_n hx hb dX4_passesAll_61 rfl (lv_at hl 0 rfl) ?_
  refine lv_aload_n hx hb dX4_passesAll_62 rfl (lv_at hl 0 rfl) ?_
  refine x_get X hw 5 (Nat.le_of_ble_eq_true rfl) ce5 rfl i_X4 9 (by decide) q599 ⟨rfl, rfl, rfl⟩ rfl dX4_passesAll_63 ?_
  obtain ⟨S17, h16, hf⟩ := b1_s hf
  refine kVv X hw (c_X4_passes l D cI cO ad 10 S15 S17 h16) (Nat.le_of_ble_eq_true rfl) ce5 rfl ⟨rfl, rfl⟩ q891 q893 q57 q64 q894 hd_X4_passes ⟨Nat.le_of_ble_eq_true rfl, Nat.le_of_ble_eq_true rfl⟩ rfl hl.1 rfl (Nat.le_of_ble_eq_true rfl) dX4_passesAll_66 (fun H locs hw => ?_)
  refine lv_aload_n hx hb dX4_passesAll_69 rfl (lv_at hl 0 rfl) ?_
  refine lv_aload_n hx hb dX4_passesAll_70 rfl (lv_at hl 0 rfl) ?_
  refine x_get X hw 5 (Nat.le_of_ble_eq_true rfl) ce5 rfl i_X4 10 (by decide) q600 ⟨rfl, rfl, rfl⟩ rfl dX4_passesAll_71 ?_
  obtain ⟨S19, h18, hf⟩ := b1_s hf
  refine kVv X hw (c_X4_passes l D cI cO ad 11 S17 S19 h18) (Nat.le_of_ble_eq_true rfl) ce5 rfl ⟨rfl, rfl⟩ q891 q893 q57 q64 q894 hd_X4_passes ⟨Nat.le_of_ble_eq_true rfl, Nat.le_of_ble_eq_true rfl⟩ rfl hl.1 rfl (Nat.le_of_ble_eq_true rfl) dX4_passesAll_74 (fun H locs hw => ?_)
  refine lv_aload_n hx hb dX4_passesAll_77 rfl (lv_at hl 0 rfl) ?_
  refine lv_aload_n hx hb dX4_passesAll_78 rfl (lv_at hl 0 rfl) ?_
  refine x_get X hw 5 (Nat.le_of_ble_eq_true rfl) ce5 rfl i_X4 11 (by decide) q601 ⟨rfl, rfl, rfl⟩ rfl dX4_passesAll_79 ?_
  obtain ⟨S21, h20, hf⟩ := b1_s hf
  refine kVv X hw (c_X4_passes l D cI cO ad 12 S19 S21 h20) (Nat.le_of_ble_eq_true rfl) ce5 rfl ⟨rfl, rfl⟩ q891 q893 q57 q64 q894 hd_X4_passes ⟨Nat.le_of_ble_eq_true rfl, Nat.le_of_ble_eq_true rfl⟩ rfl hl.1 rfl (Nat.le_of_ble_eq_true rfl) dX4_passesAll_82 (fun H locs hw => ?_)
  refine lv_aload_n hx hb dX4_passesAll_85 rfl (lv_at hl 0 rfl) ?_
  refine x_get X hw 5 (Nat.le_of_ble_eq_true rfl) ce5 rfl i_X4 28 (by decide) q618 ⟨rfl, rfl, rfl⟩ rfl dX4_passesAll_86 ?_
  refine lv_if_eq (tgt := 108) hx hb dX4_passesAll_89 (by decide) (fun c22 => ?_) (fun c22 => ?_)
  · replace hf := if_t c22 hf
    refine lv_aload_n hx hb dX4_passesAll_108 rfl (lv_at hl 0 rfl) ?_
    refine lv_aload_n hx hb dX4_passesAll_109 rfl (lv_at hl 0 rfl) ?_
    refine x_get X hw 5 (Nat.le_of_ble_eq_true rfl) ce5 rfl i_X4 26 (by decide) q616 ⟨rfl, rfl, rfl⟩ rfl dX4_passesAll_110 ?_
    refine lv_aload_n hx hb dX4_passesAll_113 rfl (lv_at hl 0 rfl) ?_
    refine x_get X hw 5 (Nat.le_of_ble_eq_true rfl) ce5 rfl i_X4 29 (by decide) q619 ⟨rfl, rfl, rfl⟩ rfl dX4_passesAll_114 ?_
    obtain ⟨h23, hf⟩ := if_s hf
    refine x_iald X hw 21 ⟨Nat.le_of_ble_eq_true rfl, Nat.le_of_ble_eq_true rfl⟩ rfl h23 ((S21 0 8).toNatClampNeg) rfl dX4_passesAll_117 ?_
    refine x_put X hw 5 (Nat.le_of_ble_eq_true rfl) ce5 rfl i_X4 tyX4_ok nmX4 15 (by decide) q605 ⟨rfl, rfl, rfl⟩ rfl pfI rfl rfl (Nat.le_of_ble_eq_true rfl) 2 (ws_2 _) dX4_passesAll_118 (fun S24 eS24 H locs hw => ?_)
    replace hf := lt_e eS24 hf
    exact hfin _ _ 0 _ _ _ hw rfl (Option.some.inj hf) dX4_passesAll_121
  · replace hf := if_f c22 hf
    refine lv_aload_n hx hb dX4_passesAll_92 rfl (lv_at hl 0 rfl) ?_
    refine x_get X hw 5 (Nat.le_of_ble_eq_true rfl) ce5 rfl i_X4 26 (by decide) q616 ⟨rfl, rfl, rfl⟩ rfl dX4_passesAll_93 ?_
    refine lv_aload_n hx hb dX4_passesAll_96 rfl (lv_at hl 0 rfl) ?_
    refine x_get X hw 5 (Nat.le_of_ble_eq_true rfl) ce5 rfl i_X4 29 (by decide) q619 ⟨rfl, rfl, rfl⟩ rfl dX4_passesAll_97 ?_
    refine lv_aload_n hx hb dX4_passesAll_100 rfl (lv_at hl 0 rfl) ?_
    refine x_get X hw 5 (Nat.le_of_ble_eq_true rfl) ce5 rfl i_X4 15 (by decide) q605 ⟨rfl, rfl, rfl⟩ rfl dX4_passesAll_101 ?_
    obtain ⟨h25, hf⟩ := if_s hf
    refine x_iast X hw 21 ⟨Nat.le_of_ble_eq_true rfl, Nat.le_of_ble_eq_true rfl⟩ rfl h25 ((S21 0 8).toNatClampNeg) rfl dX4_passesAll_104 (fun S26 eS26 H locs hw => ?_)
    replace hf := lt_e eS26 hf
    refine lv_goto (tgt := 121) hx hb dX4_passesAll_105 (by decide) ?_
    exact hfin _ _ 0 _ _ _ hw rfl (Option.some.inj hf) dX4_passesAll_121
/-- NineLandsModel.image()I -/
theorem dX4_image_0 : decode cX4_image 0 = .ok (.aload_n 0, 1) := by decide +kernel
theorem dX4_image_1 : decode cX4_image 1 = .ok (.iconst 1, 1) := by decide +kernel
theorem dX4_image_2 : decode cX4_image 2 = .ok (.putfield 185, 3) := by decide +kernel
theorem dX4_image_5 : decode cX4_image 5 = .ok (.aload_n 0, 1) := by decide +kernel
theorem dX4_image_6 : decode cX4_image 6 = .ok (.iconst 1, 1) := by decide +kernel
theorem dX4_image_7 : decode cX4_image 7 = .ok (.putfield 195, 3) := by decide +kernel
theorem dX4_image_10 : decode cX4_image 10 = .ok (.aload_n 0, 1) := by decide +kernel
theorem dX4_image_11 : decode cX4_image 11 = .ok (.invokevirtual 198, 3) := by decide +kernel
theorem dX4_image_14 : decode cX4_image 14 = .ok (.aload_n 0, 1) := by decide +kernel
theorem dX4_image_15 : decode cX4_image 15 = .ok (.getfield 102, 3) := by decide +kernel
theorem dX4_image_18 : decode cX4_image 18 = .ok (.ireturn, 1) := by decide +kernel
theorem hd_X4_image : yX4_image.cls ≠ "java/lang/invoke/MethodHandle" ∧ yX4_image.cls ≠ "java/lang/invoke/VarHandle" ∧ (parseMethodDescriptor yX4_image.desc).map (fun d => d.parameters.length) = some 0 := by decide +kernel
def f_X4_image  (S : vS) : Option (Int32 × vS) := lt (upk S 0 (upd (S 0) 7 (1 : Int32))) fun S1 => lt (upk S1 0 (upd (S1 0) 6 (1 : Int32))) fun S2 => b1 (f_X4_passesAll  S2) fun S4 => some ((S4 0 2), S4)
set_option maxHeartbeats 4000000 in
set_option maxRecDepth 20000 in
theorem c_X4_image (l : Launch) (D : va_G) (cI cO : ClassId) (ad : Nat → Nat)  (S : vS) (R9 : Int32) (S9 : vS) (hf : f_X4_image  S = some (R9, S9)) : CI l yX4_image cX4_image 1 .int ({ frames := 2, cells := 0, slots := 0, locals := 42 }) [.ref (ad 5)] D cI cO ad S R9 S9 := by
  refine CI.of (by decide +kernel) (Nat.le_of_ble_eq_true rfl) (fun p e s m args below meth c Q ls X hl hw hfin => ?_)
  have hl : lv_has ls 1 [(0, .ref (ad 5))] := hl
  have hx := X.1
  have hb := X.2.1
  unfold f_X4_image at hf
  refine lv_aload_n hx hb dX4_image_0 rfl (lv_at hl 0 rfl) ?_
  refine lv_iconst (v := 1) hx hb dX4_image_1 (by decide) ?_
  refine x_put X hw 5 (Nat.le_of_ble_eq_true rfl) ce5 rfl i_X4 tyX4_ok nmX4 28 (by decide) q618 ⟨rfl, rfl, rfl⟩ rfl pfZ rfl rfl (Nat.le_of_ble_eq_true rfl) 7 (ws_7 _) dX4_image_2 (fun S1 eS1 H locs hw => ?_)
  replace hf := lt_e eS1 hf
  refine lv_aload_n hx hb dX4_image_5 rfl (lv_at hl 0 rfl) ?_
  refine lv_iconst (v := 1) hx hb dX4_image_6 (by decide) ?_
  refine x_put X hw 5 (Nat.le_of_ble_eq_true rfl) ce5 rfl i_X4 tyX4_ok nmX4 27 (by decide) q617 ⟨rfl, rfl, rfl⟩ rfl pfZ rfl rfl (Nat.le_of_ble_eq_true rfl) 6 (ws_6 _) dX4_image_7 (fun S2 eS2 H locs hw => ?_)
  replace hf := lt_e eS2 hf
  refine lv_aload_n hx hb dX4_image_10 rfl (lv_at hl 0 rfl) ?_
  obtain ⟨S4, h3, hf⟩ := b1_s hf
  refine kVv X hw (c_X4_passesAll l D cI cO ad  S2 S4 h3) (Nat.le_of_ble_eq_true rfl) ce5 rfl ⟨rfl, rfl⟩ q887 q889 q56 q64 q890 hd_X4_passesAll ⟨Nat.le_of_ble_eq_true rfl, Nat.le_of_ble_eq_true rfl⟩ rfl hl.1 rfl (Nat.le_of_ble_eq_true rfl) dX4_image_11 (fun H locs hw => ?_)
  refine lv_aload_n hx hb dX4_image_14 rfl (lv_at hl 0 rfl) ?_
  refine x_get X hw 5 (Nat.le_of_ble_eq_true rfl) ce5 rfl i_X4 15 (by decide) q605 ⟨rfl, rfl, rfl⟩ rfl dX4_image_15 ?_
  exact hfin _ _ _ _ _ _ hw (s2a hf) (s2b hf) (narI _) dX4_image_18
/-- NineLandsModel.on()I -/
theorem dX4_on_0 : decode cX4_on 0 = .ok (.aload_n 0, 1) := by decide +kernel
theorem dX4_on_1 : decode cX4_on 1 = .ok (.getfield 195, 3) := by decide +kernel
theorem dX4_on_4 : decode cX4_on 4 = .ok (.ifCond .ne 10, 3) := by decide +kernel
theorem dX4_on_7 : decode cX4_on 7 = .ok (.aload_n 0, 1) := by decide +kernel
theorem dX4_on_8 : decode cX4_on 8 = .ok (.bipush (-3), 2) := by decide +kernel
theorem dX4_on_10 : decode cX4_on 10 = .ok (.invokevirtual 85, 3) := by decide +kernel
theorem dX4_on_13 : decode cX4_on 13 = .ok (.ireturn, 1) := by decide +kernel
theorem dX4_on_14 : decode cX4_on 14 = .ok (.aload_n 0, 1) := by decide +kernel
theorem dX4_on_15 : decode cX4_on 15 = .ok (.iconst 0, 1) := by decide +kernel
theorem dX4_on_16 : decode cX4_on 16 = .ok (.putfield 185, 3) := by decide +kernel
theorem dX4_on_19 : decode cX4_on 19 = .ok (.aload_n 0, 1) := by decide +kernel
theorem dX4_on_20 : decode cX4_on 20 = .ok (.invokevirtual 198, 3) := by decide +kernel
theorem dX4_on_23 : decode cX4_on 23 = .ok (.aload_n 0, 1) := by decide +kernel
theorem dX4_on_24 : decode cX4_on 24 = .ok (.getfield 102, 3) := by decide +kernel
theorem dX4_on_27 : decode cX4_on 27 = .ok (.ireturn, 1) := by decide +kernel
theorem hd_X4_on : yX4_on.cls ≠ "java/lang/invoke/MethodHandle" ∧ yX4_on.cls ≠ "java/lang/invoke/VarHandle" ∧ (parseMethodDescriptor yX4_on.desc).map (fun d => d.parameters.length) = some 0 := by decide +kernel
def f_X4_on  (S : vS) : Option (Int32 × vS) := if (S 0 6) = 0 then b2 (f_X4_no (-3 : Int32) S) fun r7 S6 => some (r7, S6) else lt (upk S 0 (upd (S 0) 7 (0 : Int32))) fun S2 => b1 (f_X4_passesAll  S2) fun S4 => some ((S4 0 2), S4)
set_option maxHeartbeats 4000000 in
set_option maxRecDepth 20000 in
theorem c_X4_on (l : Launch) (D : va_G) (cI cO : ClassId) (ad : Nat → Nat)  (S : vS) (R9 : Int32) (S9 : vS) (hf : f_X4_on  S = some (R9, S9)) : CI l yX4_on cX4_on 1 .int ({ frames := 2, cells := 0, slots := 0, locals := 42 }) [.ref (ad 5)] D cI cO ad S R9 S9 := by
  refine CI.of (by decide +kernel) (Nat.le_of_ble_eq_true rfl) (fun p e s m args below meth c Q ls X hl hw hfin => ?_)
  have hl : lv_has ls 1 [(0, .ref (ad 5))] := hl
  have hx := X.1
  have hb := X.2.1
  unfold f_X4_on at hf
  refine lv_aload_n hx hb dX4_on_0 rfl (lv_at hl 0 rfl) ?_
  refine x_get X hw 5 (Nat.le_of_ble_eq_true rfl) ce5 rfl i_X4 27 (by decide) q617 ⟨rfl, rfl, rfl⟩ rfl dX4_on_1 ?_
  refine lv_if_ne (tgt := 14) hx hb dX4_on_4 (by decide) (fun c1 => ?_) (fun c1 => ?_)
  · replace hf := if_f c1 hf
    refine lv_aload_n hx hb dX4_on_14 rfl (lv_at hl 0 rfl) ?_
    refine lv_iconst (v := 0) hx hb dX4_on_15 (by decide) ?_
    refine x_put X hw 5 (Nat.le_of_ble_eq_true rfl) ce5 rfl i_X4 tyX4_ok nmX4 28 (by decide) q618 ⟨rfl, rfl, rfl⟩ rfl pfZ rfl rfl (Nat.le_of_ble_eq_true rfl) 7 (ws_7 _) dX4_on_16 (fun S2 eS2 H locs hw => ?_)
    replace hf := lt_e eS2 hf
    refine lv_aload_n hx hb dX4_on_19 rfl (lv_at hl 0 rfl) ?_
    obtain ⟨S4, h3, hf⟩ := b1_s hf
    refine kVv X hw (c_X4_passesAll l D cI cO ad  S2 S4 h3) (Nat.le_of_ble_eq_true rfl) ce5 rfl ⟨rfl, rfl⟩ q887 q889 q56 q64 q890 hd_X4_passesAll ⟨Nat.le_of_ble_eq_true rfl, Nat.le_of_ble_eq_true rfl⟩ rfl hl.1 rfl (Nat.le_of_ble_eq_true rfl) dX4_on_20 (fun H locs hw => ?_)
    refine lv_aload_n hx hb dX4_on_23 rfl (lv_at hl 0 rfl) ?_
    refine x_get X hw 5 (Nat.le_of_ble_eq_true rfl) ce5 rfl i_X4 15 (by decide) q605 ⟨rfl, rfl, rfl⟩ rfl dX4_on_24 ?_
    exact hfin _ _ _ _ _ _ hw (s2a hf) (s2b hf) (narI _) dX4_on_27
  · replace hf := if_t c1 hf
    refine lv_aload_n hx hb dX4_on_7 rfl (lv_at hl 0 rfl) ?_
    refine lv_bipush (v := -3) hx hb dX4_on_8 (by decide +kernel) ?_
    obtain ⟨r7, S6, h5, hf⟩ := b2_s hf
    refine kVi X hw (c_X4_no l D cI cO ad (-3 : Int32) S r7 S6 h5) (Nat.le_of_ble_eq_true rfl) ce5 rfl ⟨rfl, rfl⟩ q688 q690 q34 q64 q691 hd_X4_no ⟨Nat.le_of_ble_eq_true rfl, Nat.le_of_ble_eq_true rfl⟩ rfl hl.1 rfl (Nat.le_of_ble_eq_true rfl) dX4_on_10 (fun H locs hw => ?_)
    exact hfin _ _ _ _ _ _ hw (s2a hf) (s2b hf) (narI _) dX4_on_13
/-- NineLandsModel.count(I)I -/
theorem dX4_count_0 : decode cX4_count 0 = .ok (.iload_n 1, 1) := by decide +kernel
theorem dX4_count_1 : decode cX4_count 1 = .ok (.bipush 11, 2) := by decide +kernel
theorem dX4_count_3 : decode cX4_count 3 = .ok (.bipush 16, 2) := by decide +kernel
theorem dX4_count_5 : decode cX4_count 5 = .ok (.invokestatic 98, 3) := by decide +kernel
theorem dX4_count_8 : decode cX4_count 8 = .ok (.ifCond .eq 13, 3) := by decide +kernel
theorem dX4_count_11 : decode cX4_count 11 = .ok (.aload_n 0, 1) := by decide +kernel
theorem dX4_count_12 : decode cX4_count 12 = .ok (.getfield 7, 3) := by decide +kernel
theorem dX4_count_15 : decode cX4_count 15 = .ok (.iload_n 1, 1) := by decide +kernel
theorem dX4_count_16 : decode cX4_count 16 = .ok (.bipush 10, 2) := by decide +kernel
theorem dX4_count_18 : decode cX4_count 18 = .ok (.isub, 1) := by decide +kernel
theorem dX4_count_19 : decode cX4_count 19 = .ok (.iaload, 1) := by decide +kernel
theorem dX4_count_20 : decode cX4_count 20 = .ok (.ireturn, 1) := by decide +kernel
theorem dX4_count_21 : decode cX4_count 21 = .ok (.iconst 0, 1) := by decide +kernel
theorem dX4_count_22 : decode cX4_count 22 = .ok (.istore_n 2, 1) := by decide +kernel
theorem dX4_count_23 : decode cX4_count 23 = .ok (.iload_n 1, 1) := by decide +kernel
theorem dX4_count_24 : decode cX4_count 24 = .ok (.tableswitch 114 0 5 #[40, 45, 72, 99, 104, 109], 40) := by decide +kernel
theorem dX4_count_64 : decode cX4_count 64 = .ok (.aload_n 0, 1) := by decide +kernel
theorem dX4_count_65 : decode cX4_count 65 = .ok (.getfield 102, 3) := by decide +kernel
theorem dX4_count_68 : decode cX4_count 68 = .ok (.ireturn, 1) := by decide +kernel
theorem dX4_count_69 : decode cX4_count 69 = .ok (.iconst 0, 1) := by decide +kernel
theorem dX4_count_70 : decode cX4_count 70 = .ok (.istore_n 3, 1) := by decide +kernel
theorem dX4_count_71 : decode cX4_count 71 = .ok (.iload_n 3, 1) := by decide +kernel
theorem dX4_count_72 : decode cX4_count 72 = .ok (.aload_n 0, 1) := by decide +kernel
theorem dX4_count_73 : decode cX4_count 73 = .ok (.getfield 102, 3) := by decide +kernel
theorem dX4_count_76 : decode cX4_count 76 = .ok (.if_icmp .ge 18, 3) := by decide +kernel
theorem dX4_count_79 : decode cX4_count 79 = .ok (.iload_n 2, 1) := by decide +kernel
theorem dX4_count_80 : decode cX4_count 80 = .ok (.aload_n 0, 1) := by decide +kernel
theorem dX4_count_81 : decode cX4_count 81 = .ok (.getfield 34, 3) := by decide +kernel
theorem dX4_count_84 : decode cX4_count 84 = .ok (.iload_n 3, 1) := by decide +kernel
theorem dX4_count_85 : decode cX4_count 85 = .ok (.iaload, 1) := by decide +kernel
theorem dX4_count_86 : decode cX4_count 86 = .ok (.iadd, 1) := by decide +kernel
theorem dX4_count_87 : decode cX4_count 87 = .ok (.istore_n 2, 1) := by decide +kernel
theorem dX4_count_88 : decode cX4_count 88 = .ok (.iinc 3 1, 3) := by decide +kernel
theorem dX4_count_91 : decode cX4_count 91 = .ok (.goto (-20), 3) := by decide +kernel
theorem dX4_count_94 : decode cX4_count 94 = .ok (.iload_n 2, 1) := by decide +kernel
theorem dX4_count_95 : decode cX4_count 95 = .ok (.ireturn, 1) := by decide +kernel
theorem dX4_count_96 : decode cX4_count 96 = .ok (.iconst 0, 1) := by decide +kernel
theorem dX4_count_97 : decode cX4_count 97 = .ok (.istore_n 3, 1) := by decide +kernel
theorem dX4_count_98 : decode cX4_count 98 = .ok (.iload_n 3, 1) := by decide +kernel
theorem dX4_count_99 : decode cX4_count 99 = .ok (.bipush 36, 2) := by decide +kernel
theorem dX4_count_101 : decode cX4_count 101 = .ok (.if_icmp .ge 18, 3) := by decide +kernel
theorem dX4_count_104 : decode cX4_count 104 = .ok (.iload_n 2, 1) := by decide +kernel
theorem dX4_count_105 : decode cX4_count 105 = .ok (.aload_n 0, 1) := by decide +kernel
theorem dX4_count_106 : decode cX4_count 106 = .ok (.getfield 43, 3) := by decide +kernel
theorem dX4_count_109 : decode cX4_count 109 = .ok (.iload_n 3, 1) := by decide +kernel
theorem dX4_count_110 : decode cX4_count 110 = .ok (.iaload, 1) := by decide +kernel
theorem dX4_count_111 : decode cX4_count 111 = .ok (.iadd, 1) := by decide +kernel
theorem dX4_count_112 : decode cX4_count 112 = .ok (.istore_n 2, 1) := by decide +kernel
theorem dX4_count_113 : decode cX4_count 113 = .ok (.iinc 3 1, 3) := by decide +kernel
theorem dX4_count_116 : decode cX4_count 116 = .ok (.goto (-18), 3) := by decide +kernel
theorem dX4_count_119 : decode cX4_count 119 = .ok (.iload_n 2, 1) := by decide +kernel
theorem dX4_count_120 : decode cX4_count 120 = .ok (.iconst 2, 1) := by decide +kernel
theorem dX4_count_121 : decode cX4_count 121 = .ok (.idiv, 1) := by decide +kernel
theorem dX4_count_122 : decode cX4_count 122 = .ok (.ireturn, 1) := by decide +kernel
theorem dX4_count_123 : decode cX4_count 123 = .ok (.aload_n 0, 1) := by decide +kernel
theorem dX4_count_124 : decode cX4_count 124 = .ok (.getfield 82, 3) := by decide +kernel
theorem dX4_count_127 : decode cX4_count 127 = .ok (.ireturn, 1) := by decide +kernel
theorem dX4_count_128 : decode cX4_count 128 = .ok (.aload_n 0, 1) := by decide +kernel
theorem dX4_count_129 : decode cX4_count 129 = .ok (.getfield 182, 3) := by decide +kernel
theorem dX4_count_132 : decode cX4_count 132 = .ok (.ireturn, 1) := by decide +kernel
theorem dX4_count_133 : decode cX4_count 133 = .ok (.aload_n 0, 1) := by decide +kernel
theorem dX4_count_134 : decode cX4_count 134 = .ok (.invokevirtual 172, 3) := by decide +kernel
theorem dX4_count_137 : decode cX4_count 137 = .ok (.ireturn, 1) := by decide +kernel
theorem dX4_count_138 : decode cX4_count 138 = .ok (.bipush (-9), 2) := by decide +kernel
theorem dX4_count_140 : decode cX4_count 140 = .ok (.ireturn, 1) := by decide +kernel
theorem hd_X4_count : yX4_count.cls ≠ "java/lang/invoke/MethodHandle" ∧ yX4_count.cls ≠ "java/lang/invoke/VarHandle" ∧ (parseMethodDescriptor yX4_count.desc).map (fun d => d.parameters.length) = some 1 := by decide +kernel
def f_X4_count_L71 (S : vS) : Nat → Int32 → Int32 →  Option Int32
  | 0, _, _ => none
  | n + 1, x2, x3 => if (S 0 2) ≤ x3 then some x2 else if inb x3 21 = true then lt ((x2 + (S 9 (x3.toNatClampNeg)))) fun v8 => (f_X4_count_L71 S n) v8 (x3 + 1) else none
def f_X4_count_L98 (S : vS) : Nat → Int32 → Int32 →  Option Int32
  | 0, _, _ => none
  | n + 1, x2, x3 => if (36 : Int32) ≤ x3 then some x2 else if inb x3 36 = true then lt ((x2 + (S 12 (x3.toNatClampNeg)))) fun v14 => (f_X4_count_L98 S n) v14 (x3 + 1) else none
def f_X4_count (a1 : Int32) (S : vS) : Option Int32 := b1 (f_X4_isIn a1 (11 : Int32) (16 : Int32) S) fun r2 => if r2 = 0 then if a1 = (0 : Int32) then some (S 0 2) else if a1 = (1 : Int32) then b1 (f_X4_count_L71 S FU (0 : Int32) (0 : Int32)) fun y9 => some y9 else if a1 = (2 : Int32) then b1 (f_X4_count_L98 S FU (0 : Int32) (0 : Int32)) fun y15 => some (y15 / (2 : Int32)) else if a1 = (3 : Int32) then some (S 0 0) else if a1 = (4 : Int32) then some (S 0 5) else if a1 = (5 : Int32) then b1 (f_X4_behind  S) fun r21 => some r21 else some (-9 : Int32) else if inb (a1 - (10 : Int32)) 7 = true then some (S 1 ((a1 - (10 : Int32)).toNatClampNeg)) else none
set_option maxHeartbeats 4000000 in
set_option maxRecDepth 20000 in
theorem c_X4_count (l : Launch) (D : va_G) (cI cO : ClassId) (ad : Nat → Nat) (a1 : Int32) (S : vS) (R9 : Int32) (hf : f_X4_count a1 S = some R9) : CI l yX4_count cX4_count 4 .int ({ frames := 2, cells := 0, slots := 0, locals := 43 }) [.ref (ad 5), .int a1] D cI cO ad S R9 S := by
  refine CI.of (by decide +kernel) (Nat.le_of_ble_eq_true rfl) (fun p e s m args below meth c Q ls X hl hw hfin => ?_)
  have hl : lv_has ls 4 [(0, .ref (ad 5)), (1, .int a1)] := hl
  have hx := X.1
  have hb := X.2.1
  have L71 : ∀ (n : Nat) (x2 : Int32) (x3 : Int32) (res : Int32), f_X4_count_L71 S n x2 x3 = some res → (K : ∀ (y2 : Int32), some y2 = some res → ∀ (H : Heap) (locs : List Loc) (ls : Array Slot), WD D cI cO ad s S H locs → lv_has ls 4 [(2, .int y2)] → W p l e ({ frames := 2, cells := 0, slots := 0, locals := 43 }) s m args below meth c H locs 0 0 Q (F0 m 94 ls [])) → ∀ (H : Heap) (locs : List Loc) (ls : Array Slot), WD D cI cO ad s S H locs → lv_has ls 4 [(0, .ref (ad 5)), (2, .int x2), (3, .int x3)] → W p l e ({ frames := 2, cells := 0, slots := 0, locals := 43 }) s m args below meth c H locs 0 0 Q (F0 m 71 ls []) := by
    intro n
    induction n with
    | zero => intro x2 x3 res hf; cases hf
    | succ n ih =>
      intro x2 x3 res hf K H locs ls hw hl
      unfold f_X4_count_L71 at hf
      refine lv_iload_n hx hb dX4_count_71 rfl (lv_at hl 2 rfl) ?_
      refine lv_aload_n hx hb dX4_count_72 rfl (lv_at hl 0 rfl) ?_
      refine x_get X hw 5 (Nat.le_of_ble_eq_true rfl) ce5 rfl i_X4 15 (by decide) q605 ⟨rfl, rfl, rfl⟩ rfl dX4_count_73 ?_
      refine lv_icmp_ge (tgt := 94) hx hb dX4_count_76 (by decide) (fun c6 => ?_) (fun c6 => ?_)
      · replace hf := if_t c6 hf
        exact K x2 hf _ _ _ hw (lv_sub hl [1] rfl)
      · replace hf := if_f c6 hf
        refine lv_iload_n hx hb dX4_count_79 rfl (lv_at hl 1 rfl) ?_
        refine lv_aload_n hx hb dX4_count_80 rfl (lv_at hl 0 rfl) ?_
        refine x_get X hw 5 (Nat.le_of_ble_eq_true rfl) ce5 rfl i_X4 8 (by decide) q598 ⟨rfl, rfl, rfl⟩ rfl dX4_count_81 ?_
        refine lv_iload_n hx hb dX4_count_84 rfl (lv_at hl 2 rfl) ?_
        obtain ⟨h7, hf⟩ := if_s hf
        refine x_iald X hw 9 ⟨Nat.le_of_ble_eq_true rfl, Nat.le_of_ble_eq_true rfl⟩ rfl h7 (x3.toNatClampNeg) rfl dX4_count_85 ?_
        refine lv_iadd hx hb dX4_count_86 ?_
        refine lv_topi (fun v8 ev8 => ?_)
        replace hf := lt_e ev8 hf
        refine lv_istore_n (lv' := [(2, .int v8), (0, .ref (ad 5)), (3, .int x3)]) hx hb dX4_count_87 rfl hl (by decide) rfl (fun ls hl => ?_)
        refine lv_iinc (v := (x3 + 1)) (lv' := [(3, .int (x3 + 1)), (2, .int v8), (0, .ref (ad 5))]) hx hb dX4_count_88 hl (k := 2) rfl rfl (by decide) rfl (fun ls hl => ?_)
        refine lv_goto (tgt := 71) hx hb dX4_count_91 (by decide) ?_
        exact ih v8 (x3 + 1) _ hf K _ _ _ hw (lv_sub hl [2, 1, 0] rfl)
  have L98 : ∀ (n : Nat) (x2 : Int32) (x3 : Int32) (res : Int32), f_X4_count_L98 S n x2 x3 = some res → (K : ∀ (y2 : Int32), some y2 = some res → ∀ (H : Heap) (locs : List Loc) (ls : Array Slot), WD D cI cO ad s S H locs → lv_has ls 4 [(2, .int y2)] → W p l e ({ frames := 2, cells := 0, slots := 0, locals := 43 }) s m args below meth c H locs 0 0 Q (F0 m 119 ls [])) → ∀ (H : Heap) (locs : List Loc) (ls : Array Slot), WD D cI cO ad s S H locs → lv_has ls 4 [(0, .ref (ad 5)), (2, .int x2), (3, .int x3)] → W p l e ({ frames := 2, cells := 0, slots := 0, locals := 43 }) s m args below meth c H locs 0 0 Q (F0 m 98 ls []) := by
    intro n
    induction n with
    | zero => intro x2 x3 res hf; cases hf
    | succ n ih =>
      intro x2 x3 res hf K H locs ls hw hl
      unfold f_X4_count_L98 at hf
      refine lv_iload_n hx hb dX4_count_98 rfl (lv_at hl 2 rfl) ?_
      refine lv_bipush (v := 36) hx hb dX4_count_99 (by decide +kernel) ?_
      refine lv_icmp_ge (tgt := 119) hx hb dX4_count_101 (by decide) (fun c12 => ?_) (fun c12 => ?_)
      · replace hf := if_t c12 hf
        exact K x2 hf _ _ _ hw (lv_sub hl [1] rfl)
      · replace hf := if_f c12 hf
        refine lv_iload_n hx hb dX4_count_104 rfl (lv_at hl 1 rfl) ?_
        refine lv_aload_n hx hb dX4_count_105 rfl (lv_at hl 0 rfl) ?_
        refine x_get X hw 5 (Nat.le_of_ble_eq_true rfl) ce5 rfl i_X4 11 (by decide) q601 ⟨rfl, rfl, rfl⟩ rfl dX4_count_106 ?_
        refine lv_iload_n hx hb dX4_count_109 rfl (lv_at hl 2 rfl) ?_
        obtain ⟨h13, hf⟩ := if_s hf
        refine x_iald X hw 12 ⟨Nat.le_of_ble_eq_true rfl, Nat.le_of_ble_eq_true rfl⟩ rfl h13 (x3.toNatClampNeg) rfl dX4_count_110 ?_
        refine lv_iadd hx hb dX4_count_111 ?_
        refine lv_topi (fun v14 ev14 => ?_)
        replace hf := lt_e ev14 hf
        refine lv_istore_n (lv' := [(2, .int v14), (0, .ref (ad 5)), (3, .int x3)]) hx hb dX4_count_112 rfl hl (by decide) rfl (fun ls hl => ?_)
        refine lv_iinc (v := (x3 + 1)) (lv' := [(3, .int (x3 + 1)), (2, .int v14), (0, .ref (ad 5))]) hx hb dX4_count_113 hl (k := 2) rfl rfl (by decide) rfl (fun ls hl => ?_)
        refine lv_goto (tgt := 98) hx hb dX4_count_116 (by decide) ?_
        exact ih v14 (x3 + 1) _ hf K _ _ _ hw (lv_sub hl [2, 1, 0] rfl)
  unfold f_X4_count at hf
  refine lv_iload_n hx hb dX4_count_0 rfl (lv_at hl 1 rfl) ?_
  refine lv_bipush (v := 11) hx hb dX4_count_1 (by decide +kernel) ?_
  refine lv_bipush (v := 16) hx hb dX4_count_3 (by decide +kernel) ?_
  obtain ⟨r2, h1, hf⟩ := b1_s hf
  refine kSi X hw (c_X4_isIn l D cI cO ad a1 (11 : Int32) (16 : Int32) S r2 h1) ⟨rfl, rfl⟩ q712 q713 q64 q714 hd_X4_isIn ⟨Nat.le_of_ble_eq_true rfl, Nat.le_of_ble_eq_true rfl⟩ rfl hl.1 rfl (Nat.le_of_ble_eq_true rfl) dX4_count_5 (fun H locs hw => ?_)
  refine lv_if_eq (tgt := 21) hx hb dX4_count_8 (by decide) (fun c3 => ?_) (fun c3 => ?_)
  · replace hf := if_t c3 hf
    refine lv_iconst (v := 0) hx hb dX4_count_21 (by decide) ?_
    refine lv_istore_n (lv' := [(2, .int (0 : Int32)), (0, .ref (ad 5)), (1, .int a1)]) hx hb dX4_count_22 rfl hl (by decide) rfl (fun ls hl => ?_)
    refine lv_iload_n hx hb dX4_count_23 rfl (lv_at hl 2 rfl) ?_
    by_cases c4 : a1 = (0 : Int32)
    · replace hf := if_t c4 hf
      refine lv_tableIn (off := 40) (tgt := 64) hx hb dX4_count_24 (by rw [c4]; decide) (by rw [c4]; decide) (by rw [c4]; rfl) (by decide) ?_
      refine lv_aload_n hx hb dX4_count_64 rfl (lv_at hl 1 rfl) ?_
      refine x_get X hw 5 (Nat.le_of_ble_eq_true rfl) ce5 rfl i_X4 15 (by decide) q605 ⟨rfl, rfl, rfl⟩ rfl dX4_count_65 ?_
      exact hfin _ _ _ _ _ _ hw (Option.some.inj hf) rfl (narI _) dX4_count_68
    · replace hf := if_f c4 hf
      by_cases c5 : a1 = (1 : Int32)
      · replace hf := if_t c5 hf
        refine lv_tableIn (off := 45) (tgt := 69) hx hb dX4_count_24 (by rw [c5]; decide) (by rw [c5]; decide) (by rw [c5]; rfl) (by decide) ?_
        refine lv_iconst (v := 0) hx hb dX4_count_69 (by decide) ?_
        refine lv_istore_n (lv' := [(3, .int (0 : Int32)), (2, .int (0 : Int32)), (0, .ref (ad 5)), (1, .int a1)]) hx hb dX4_count_70 rfl hl (by decide) rfl (fun ls hl => ?_)
        obtain ⟨y9, h10, hf⟩ := b1_s hf
        refine L71 FU (0 : Int32) (0 : Int32) _ h10 (fun y9' eK H locs ls hw hl => ?_) _ _ _ hw (lv_sub hl [2, 1, 0] rfl)
        cases eK
        refine lv_iload_n hx hb dX4_count_94 rfl (lv_at hl 0 rfl) ?_
        exact hfin _ _ _ _ _ _ hw (Option.some.inj hf) rfl (narI _) dX4_count_95
      · replace hf := if_f c5 hf
        by_cases c11 : a1 = (2 : Int32)
        · replace hf := if_t c11 hf
          refine lv_tableIn (off := 72) (tgt := 96) hx hb dX4_count_24 (by rw [c11]; decide) (by rw [c11]; decide) (by rw [c11]; rfl) (by decide) ?_
          refine lv_iconst (v := 0) hx hb dX4_count_96 (by decide) ?_
          refine lv_istore_n (lv' := [(3, .int (0 : Int32)), (2, .int (0 : Int32)), (0, .ref (ad 5)), (1, .int a1)]) hx hb dX4_count_97 rfl hl (by decide) rfl (fun ls hl => ?_)
          obtain ⟨y15, h16, hf⟩ := b1_s hf
          refine L98 FU (0 : Int32) (0 : Int32) _ h16 (fun y15' eK H locs ls hw hl => ?_) _ _ _ hw (lv_sub hl [2, 1, 0] rfl)
          cases eK
          refine lv_iload_n hx hb dX4_count_119 rfl (lv_at hl 0 rfl) ?_
          refine lv_iconst (v := 2) hx hb dX4_count_120 (by decide) ?_
          refine lv_idiv hx hb dX4_count_121 (by decide) ?_
          exact hfin _ _ _ _ _ _ hw (Option.some.inj hf) rfl (narI _) dX4_count_122
        · replace hf := if_f c11 hf
          by_cases c17 : a1 = (3 : Int32)
          · replace hf := if_t c17 hf
            refine lv_tableIn (off := 99) (tgt := 123) hx hb dX4_count_24 (by rw [c17]; decide) (by rw [c17]; decide) (by rw [c17]; rfl) (by decide) ?_
            refine lv_aload_n hx hb dX4_count_123 rfl (lv_at hl 1 rfl) ?_
            refine x_get X hw 5 (Nat.le_of_ble_eq_true rfl) ce5 rfl i_X4 13 (by decide) q603 ⟨rfl, rfl, rfl⟩ rfl dX4_count_124 ?_
            exact hfin _ _ _ _ _ _ hw (Option.some.inj hf) rfl (narI _) dX4_count_127
          · replace hf := if_f c17 hf
            by_cases c18 : a1 = (4 : Int32)
            · replace hf := if_t c18 hf
              refine lv_tableIn (off := 104) (tgt := 128) hx hb dX4_count_24 (by rw [c18]; decide) (by rw [c18]; decide) (by rw [c18]; rfl) (by decide) ?_
              refine lv_aload_n hx hb dX4_count_128 rfl (lv_at hl 1 rfl) ?_
              refine x_get X hw 5 (Nat.le_of_ble_eq_true rfl) ce5 rfl i_X4 25 (by decide) q615 ⟨rfl, rfl, rfl⟩ rfl dX4_count_129 ?_
              exact hfin _ _ _ _ _ _ hw (Option.some.inj hf) rfl (narI _) dX4_count_132
            · replace hf := if_f c18 hf
              by_cases c19 : a1 = (5 : Int32)
              · replace hf := if_t c19 hf
                refine lv_tableIn (off := 109) (tgt := 133) hx hb dX4_count_24 (by rw [c19]; decide) (by rw [c19]; decide) (by rw [c19]; rfl) (by decide) ?_
                refine lv_aload_n hx hb dX4_count_133 rfl (lv_at hl 1 rfl) ?_
                obtain ⟨r21, h20, hf⟩ := b1_s hf
                refine kVi X hw (c_X4_behind l D cI cO ad  S r21 h20) (Nat.le_of_ble_eq_true rfl) ce5 rfl ⟨rfl, rfl⟩ q850 q852 q53 q64 q853 hd_X4_behind ⟨Nat.le_of_ble_eq_true rfl, Nat.le_of_ble_eq_true rfl⟩ rfl hl.1 rfl (Nat.le_of_ble_eq_true rfl) dX4_count_134 (fun H locs hw => ?_)
                exact hfin _ _ _ _ _ _ hw (Option.some.inj hf) rfl (narI _) dX4_count_137
              · replace hf := if_f c19 hf
                have nc4 : ¬ (a1).toInt = 0 := lv_neT c4 (by decide)
                have nc5 : ¬ (a1).toInt = 1 := lv_neT c5 (by decide)
                have nc11 : ¬ (a1).toInt = 2 := lv_neT c11 (by decide)
                have nc17 : ¬ (a1).toInt = 3 := lv_neT c17 (by decide)
                have nc18 : ¬ (a1).toInt = 4 := lv_neT c18 (by decide)
                have nc19 : ¬ (a1).toInt = 5 := lv_neT c19 (by decide)
                refine lv_tableOut (tgt := 138) hx hb dX4_count_24 (by omega) (by decide) ?_
                refine lv_bipush (v := -9) hx hb dX4_count_138 (by decide +kernel) ?_
                exact hfin _ _ _ _ _ _ hw (Option.some.inj hf) rfl (narI _) dX4_count_140
  · replace hf := if_f c3 hf
    refine lv_aload_n hx hb dX4_count_11 rfl (lv_at hl 0 rfl) ?_
    refine x_get X hw 5 (Nat.le_of_ble_eq_true rfl) ce5 rfl i_X4 0 (by decide) q590 ⟨rfl, rfl, rfl⟩ rfl dX4_count_12 ?_
    refine lv_iload_n hx hb dX4_count_15 rfl (lv_at hl 1 rfl) ?_
    refine lv_bipush (v := 10) hx hb dX4_count_16 (by decide +kernel) ?_
    refine lv_isub hx hb dX4_count_18 ?_
    obtain ⟨h22, hf⟩ := if_s hf
    refine x_iald X hw 1 ⟨Nat.le_of_ble_eq_true rfl, Nat.le_of_ble_eq_true rfl⟩ rfl h22 ((a1 - (10 : Int32)).toNatClampNeg) rfl dX4_count_19 ?_
    exact hfin _ _ _ _ _ _ hw (Option.some.inj hf) rfl (narI _) dX4_count_20
end
