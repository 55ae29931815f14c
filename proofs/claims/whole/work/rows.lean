section
-- ===== PART A: goes FIRST, ahead of the names: the tables' words, and 'selects' of the private methods out of them =====
/-- a private method of a class that the tables say can be made, by its rows of tables_1 -/
def lw_okq (q : MethodName × Nat) : Prop := (q.1.cls ≠ "java/lang/invoke/MethodHandle" ∧ q.1.cls ≠ "java/lang/invoke/VarHandle") ∧ Cond.instantiable q.1.cls q.2 ∈ tables_1 ∧ Cond.privateMethod q.1 ∈ tables_1 ∧ Cond.instanceMethod q.1 ∈ tables_1
theorem lw_p0 : lw_okq (⟨"StayingGuests", "failed", "(I)I"⟩, 11) := ⟨⟨by decide +kernel, by decide +kernel⟩, List.mem_of_getElem? (i := 16) (by decide +kernel), List.mem_of_getElem? (i := 296) (by decide +kernel), List.mem_of_getElem? (i := 297) (by decide +kernel)⟩
theorem lw_p1 : lw_okq (⟨"StayingGuests$Text", "goesOn", "(I)Z"⟩, 2) := ⟨⟨by decide +kernel, by decide +kernel⟩, List.mem_of_getElem? (i := 121) (by decide +kernel), List.mem_of_getElem? (i := 308) (by decide +kernel), List.mem_of_getElem? (i := 309) (by decide +kernel)⟩
theorem lw_p2 : lw_okq (⟨"StayingGuests$Text", "nextGuest", "()Z"⟩, 2) := ⟨⟨by decide +kernel, by decide +kernel⟩, List.mem_of_getElem? (i := 121) (by decide +kernel), List.mem_of_getElem? (i := 312) (by decide +kernel), List.mem_of_getElem? (i := 313) (by decide +kernel)⟩
theorem lw_p3 : lw_okq (⟨"StayingGuests$Text", "nextSign", "(I)Z"⟩, 2) := ⟨⟨by decide +kernel, by decide +kernel⟩, List.mem_of_getElem? (i := 121) (by decide +kernel), List.mem_of_getElem? (i := 316) (by decide +kernel), List.mem_of_getElem? (i := 317) (by decide +kernel)⟩
theorem lw_p4 : lw_okq (⟨"StayingGuests$Text", "letter", "(I)Z"⟩, 2) := ⟨⟨by decide +kernel, by decide +kernel⟩, List.mem_of_getElem? (i := 121) (by decide +kernel), List.mem_of_getElem? (i := 321) (by decide +kernel), List.mem_of_getElem? (i := 322) (by decide +kernel)⟩
theorem lw_p5 : lw_okq (⟨"StayingGuests$Text", "digitOfGuest", "(I)Z"⟩, 2) := ⟨⟨by decide +kernel, by decide +kernel⟩, List.mem_of_getElem? (i := 121) (by decide +kernel), List.mem_of_getElem? (i := 329) (by decide +kernel), List.mem_of_getElem? (i := 330) (by decide +kernel)⟩
theorem lw_p6 : lw_okq (⟨"StayingGuests", "isGuest", "(I)Z"⟩, 11) := ⟨⟨by decide +kernel, by decide +kernel⟩, List.mem_of_getElem? (i := 16) (by decide +kernel), List.mem_of_getElem? (i := 345) (by decide +kernel), List.mem_of_getElem? (i := 346) (by decide +kernel)⟩
theorem lw_p7 : lw_okq (⟨"StayingGuests", "isSign", "(I)Z"⟩, 11) := ⟨⟨by decide +kernel, by decide +kernel⟩, List.mem_of_getElem? (i := 16) (by decide +kernel), List.mem_of_getElem? (i := 353) (by decide +kernel), List.mem_of_getElem? (i := 354) (by decide +kernel)⟩
theorem lw_p8 : lw_okq (⟨"StayingGuests$House", "dawn", "()I"⟩, 5) := ⟨⟨by decide +kernel, by decide +kernel⟩, List.mem_of_getElem? (i := 26) (by decide +kernel), List.mem_of_getElem? (i := 386) (by decide +kernel), List.mem_of_getElem? (i := 387) (by decide +kernel)⟩
theorem lw_p9 : lw_okq (⟨"StayingGuests$House", "firstReady", "()I"⟩, 5) := ⟨⟨by decide +kernel, by decide +kernel⟩, List.mem_of_getElem? (i := 26) (by decide +kernel), List.mem_of_getElem? (i := 390) (by decide +kernel), List.mem_of_getElem? (i := 391) (by decide +kernel)⟩
theorem lw_p10 : lw_okq (⟨"StayingGuests$House", "stir", "(I)V"⟩, 5) := ⟨⟨by decide +kernel, by decide +kernel⟩, List.mem_of_getElem? (i := 26) (by decide +kernel), List.mem_of_getElem? (i := 398) (by decide +kernel), List.mem_of_getElem? (i := 399) (by decide +kernel)⟩
theorem lw_p11 : lw_okq (⟨"StayingGuests$Dinner", "serve", "(II)V"⟩, 4) := ⟨⟨by decide +kernel, by decide +kernel⟩, List.mem_of_getElem? (i := 137) (by decide +kernel), List.mem_of_getElem? (i := 458) (by decide +kernel), List.mem_of_getElem? (i := 459) (by decide +kernel)⟩
theorem lw_p12 : lw_okq (⟨"StayingGuests$Dinner", "gatheredOf", "(I)I"⟩, 4) := ⟨⟨by decide +kernel, by decide +kernel⟩, List.mem_of_getElem? (i := 137) (by decide +kernel), List.mem_of_getElem? (i := 475) (by decide +kernel), List.mem_of_getElem? (i := 476) (by decide +kernel)⟩
theorem lw_p13 : lw_okq (⟨"StayingGuests$SoftRows", "waysByOneMore", "(LStayingGuests$House;II)I"⟩, 1) := ⟨⟨by decide +kernel, by decide +kernel⟩, List.mem_of_getElem? (i := 179) (by decide +kernel), List.mem_of_getElem? (i := 513) (by decide +kernel), List.mem_of_getElem? (i := 514) (by decide +kernel)⟩
theorem lw_p14 : lw_okq (⟨"StayingGuests$Tables", "sitsFrom", "(LStayingGuests$House;II)Z"⟩, 1) := ⟨⟨by decide +kernel, by decide +kernel⟩, List.mem_of_getElem? (i := 189) (by decide +kernel), List.mem_of_getElem? (i := 525) (by decide +kernel), List.mem_of_getElem? (i := 526) (by decide +kernel)⟩
theorem lw_p15 : lw_okq (⟨"StayingGuests$Tables", "isFree", "(LStayingGuests$House;II)Z"⟩, 1) := ⟨⟨by decide +kernel, by decide +kernel⟩, List.mem_of_getElem? (i := 189) (by decide +kernel), List.mem_of_getElem? (i := 529) (by decide +kernel), List.mem_of_getElem? (i := 530) (by decide +kernel)⟩
def lw_privs_1 : List (MethodName × Nat) := [(⟨"StayingGuests", "failed", "(I)I"⟩, 11), (⟨"StayingGuests$Text", "goesOn", "(I)Z"⟩, 2), (⟨"StayingGuests$Text", "nextGuest", "()Z"⟩, 2), (⟨"StayingGuests$Text", "nextSign", "(I)Z"⟩, 2), (⟨"StayingGuests$Text", "letter", "(I)Z"⟩, 2), (⟨"StayingGuests$Text", "digitOfGuest", "(I)Z"⟩, 2), (⟨"StayingGuests", "isGuest", "(I)Z"⟩, 11), (⟨"StayingGuests", "isSign", "(I)Z"⟩, 11), (⟨"StayingGuests$House", "dawn", "()I"⟩, 5), (⟨"StayingGuests$House", "firstReady", "()I"⟩, 5), (⟨"StayingGuests$House", "stir", "(I)V"⟩, 5), (⟨"StayingGuests$Dinner", "serve", "(II)V"⟩, 4), (⟨"StayingGuests$Dinner", "gatheredOf", "(I)I"⟩, 4), (⟨"StayingGuests$SoftRows", "waysByOneMore", "(LStayingGuests$House;II)I"⟩, 1), (⟨"StayingGuests$Tables", "sitsFrom", "(LStayingGuests$House;II)Z"⟩, 1), (⟨"StayingGuests$Tables", "isFree", "(LStayingGuests$House;II)Z"⟩, 1)]
theorem lw_r1 : ∀ q ∈ lw_privs_1, lw_okq q := List.forall_mem_cons.mpr ⟨lw_p0, List.forall_mem_cons.mpr ⟨lw_p1, List.forall_mem_cons.mpr ⟨lw_p2, List.forall_mem_cons.mpr ⟨lw_p3, List.forall_mem_cons.mpr ⟨lw_p4, List.forall_mem_cons.mpr ⟨lw_p5, List.forall_mem_cons.mpr ⟨lw_p6, List.forall_mem_cons.mpr ⟨lw_p7, List.forall_mem_cons.mpr ⟨lw_p8, List.forall_mem_cons.mpr ⟨lw_p9, List.forall_mem_cons.mpr ⟨lw_p10, List.forall_mem_cons.mpr ⟨lw_p11, List.forall_mem_cons.mpr ⟨lw_p12, List.forall_mem_cons.mpr ⟨lw_p13, List.forall_mem_cons.mpr ⟨lw_p14, List.forall_mem_cons.mpr ⟨lw_p15, fun _ h => absurd h List.not_mem_nil⟩⟩⟩⟩⟩⟩⟩⟩⟩⟩⟩⟩⟩⟩⟩⟩
theorem lw_p16 : lw_okq (⟨"StayingGuests$Staff", "tryFrom", "(LStayingGuests$House;IIII)V"⟩, 4) := ⟨⟨by decide +kernel, by decide +kernel⟩, List.mem_of_getElem? (i := 200) (by decide +kernel), List.mem_of_getElem? (i := 544) (by decide +kernel), List.mem_of_getElem? (i := 545) (by decide +kernel)⟩
theorem lw_p17 : lw_okq (⟨"StayingGuests$Staff", "keepIfBetter", "(II)V"⟩, 4) := ⟨⟨by decide +kernel, by decide +kernel⟩, List.mem_of_getElem? (i := 200) (by decide +kernel), List.mem_of_getElem? (i := 548) (by decide +kernel), List.mem_of_getElem? (i := 549) (by decide +kernel)⟩
theorem lw_p18 : lw_okq (⟨"StayingGuests", "missTells", "(I)I"⟩, 11) := ⟨⟨by decide +kernel, by decide +kernel⟩, List.mem_of_getElem? (i := 16) (by decide +kernel), List.mem_of_getElem? (i := 636) (by decide +kernel), List.mem_of_getElem? (i := 637) (by decide +kernel)⟩
theorem lw_p19 : lw_okq (⟨"StayingGuests", "begin", "(I)V"⟩, 11) := ⟨⟨by decide +kernel, by decide +kernel⟩, List.mem_of_getElem? (i := 16) (by decide +kernel), List.mem_of_getElem? (i := 640) (by decide +kernel), List.mem_of_getElem? (i := 641) (by decide +kernel)⟩
theorem lw_p20 : lw_okq (⟨"StayingGuests", "colonelTells", "(I)I"⟩, 11) := ⟨⟨by decide +kernel, by decide +kernel⟩, List.mem_of_getElem? (i := 16) (by decide +kernel), List.mem_of_getElem? (i := 644) (by decide +kernel), List.mem_of_getElem? (i := 645) (by decide +kernel)⟩
theorem lw_p21 : lw_okq (⟨"StayingGuests", "brokerTells", "(I)I"⟩, 11) := ⟨⟨by decide +kernel, by decide +kernel⟩, List.mem_of_getElem? (i := 16) (by decide +kernel), List.mem_of_getElem? (i := 648) (by decide +kernel), List.mem_of_getElem? (i := 649) (by decide +kernel)⟩
theorem lw_p22 : lw_okq (⟨"StayingGuestsModel", "against", "(IIII)I"⟩, 37) := ⟨⟨by decide +kernel, by decide +kernel⟩, List.mem_of_getElem? (i := 679) (by decide +kernel), List.mem_of_getElem? (i := 810) (by decide +kernel), List.mem_of_getElem? (i := 811) (by decide +kernel)⟩
theorem lw_p23 : lw_okq (⟨"StayingGuestsModel", "fails", "(I)I"⟩, 37) := ⟨⟨by decide +kernel, by decide +kernel⟩, List.mem_of_getElem? (i := 679) (by decide +kernel), List.mem_of_getElem? (i := 814) (by decide +kernel), List.mem_of_getElem? (i := 815) (by decide +kernel)⟩
theorem lw_p24 : lw_okq (⟨"StayingGuestsModel", "readHotel", "(I)Z"⟩, 37) := ⟨⟨by decide +kernel, by decide +kernel⟩, List.mem_of_getElem? (i := 679) (by decide +kernel), List.mem_of_getElem? (i := 818) (by decide +kernel), List.mem_of_getElem? (i := 819) (by decide +kernel)⟩
theorem lw_p25 : lw_okq (⟨"StayingGuestsModel", "isSign", "(II)Z"⟩, 37) := ⟨⟨by decide +kernel, by decide +kernel⟩, List.mem_of_getElem? (i := 679) (by decide +kernel), List.mem_of_getElem? (i := 822) (by decide +kernel), List.mem_of_getElem? (i := 823) (by decide +kernel)⟩
theorem lw_p26 : lw_okq (⟨"StayingGuestsModel", "readTheSigns", "(I)Z"⟩, 37) := ⟨⟨by decide +kernel, by decide +kernel⟩, List.mem_of_getElem? (i := 679) (by decide +kernel), List.mem_of_getElem? (i := 826) (by decide +kernel), List.mem_of_getElem? (i := 827) (by decide +kernel)⟩
theorem lw_p27 : lw_okq (⟨"StayingGuestsModel", "digit", "(III)I"⟩, 37) := ⟨⟨by decide +kernel, by decide +kernel⟩, List.mem_of_getElem? (i := 679) (by decide +kernel), List.mem_of_getElem? (i := 830) (by decide +kernel), List.mem_of_getElem? (i := 831) (by decide +kernel)⟩
theorem lw_p28 : lw_okq (⟨"StayingGuestsModel", "readGuest", "(I)Z"⟩, 37) := ⟨⟨by decide +kernel, by decide +kernel⟩, List.mem_of_getElem? (i := 679) (by decide +kernel), List.mem_of_getElem? (i := 834) (by decide +kernel), List.mem_of_getElem? (i := 835) (by decide +kernel)⟩
theorem lw_p29 : lw_okq (⟨"StayingGuestsModel", "takeHotel", "()V"⟩, 37) := ⟨⟨by decide +kernel, by decide +kernel⟩, List.mem_of_getElem? (i := 679) (by decide +kernel), List.mem_of_getElem? (i := 838) (by decide +kernel), List.mem_of_getElem? (i := 839) (by decide +kernel)⟩
theorem lw_p30 : lw_okq (⟨"StayingGuestsModel", "isGuest", "(I)Z"⟩, 37) := ⟨⟨by decide +kernel, by decide +kernel⟩, List.mem_of_getElem? (i := 679) (by decide +kernel), List.mem_of_getElem? (i := 846) (by decide +kernel), List.mem_of_getElem? (i := 847) (by decide +kernel)⟩
theorem lw_p31 : lw_okq (⟨"StayingGuestsModel", "isSignOf", "(I)Z"⟩, 37) := ⟨⟨by decide +kernel, by decide +kernel⟩, List.mem_of_getElem? (i := 679) (by decide +kernel), List.mem_of_getElem? (i := 854) (by decide +kernel), List.mem_of_getElem? (i := 855) (by decide +kernel)⟩
def lw_privs_2 : List (MethodName × Nat) := [(⟨"StayingGuests$Staff", "tryFrom", "(LStayingGuests$House;IIII)V"⟩, 4), (⟨"StayingGuests$Staff", "keepIfBetter", "(II)V"⟩, 4), (⟨"StayingGuests", "missTells", "(I)I"⟩, 11), (⟨"StayingGuests", "begin", "(I)V"⟩, 11), (⟨"StayingGuests", "colonelTells", "(I)I"⟩, 11), (⟨"StayingGuests", "brokerTells", "(I)I"⟩, 11), (⟨"StayingGuestsModel", "against", "(IIII)I"⟩, 37), (⟨"StayingGuestsModel", "fails", "(I)I"⟩, 37), (⟨"StayingGuestsModel", "readHotel", "(I)Z"⟩, 37), (⟨"StayingGuestsModel", "isSign", "(II)Z"⟩, 37), (⟨"StayingGuestsModel", "readTheSigns", "(I)Z"⟩, 37), (⟨"StayingGuestsModel", "digit", "(III)I"⟩, 37), (⟨"StayingGuestsModel", "readGuest", "(I)Z"⟩, 37), (⟨"StayingGuestsModel", "takeHotel", "()V"⟩, 37), (⟨"StayingGuestsModel", "isGuest", "(I)Z"⟩, 37), (⟨"StayingGuestsModel", "isSignOf", "(I)Z"⟩, 37)]
theorem lw_r2 : ∀ q ∈ lw_privs_2, lw_okq q := List.forall_mem_cons.mpr ⟨lw_p16, List.forall_mem_cons.mpr ⟨lw_p17, List.forall_mem_cons.mpr ⟨lw_p18, List.forall_mem_cons.mpr ⟨lw_p19, List.forall_mem_cons.mpr ⟨lw_p20, List.forall_mem_cons.mpr ⟨lw_p21, List.forall_mem_cons.mpr ⟨lw_p22, List.forall_mem_cons.mpr ⟨lw_p23, List.forall_mem_cons.mpr ⟨lw_p24, List.forall_mem_cons.mpr ⟨lw_p25, List.forall_mem_cons.mpr ⟨lw_p26, List.forall_mem_cons.mpr ⟨lw_p27, List.forall_mem_cons.mpr ⟨lw_p28, List.forall_mem_cons.mpr ⟨lw_p29, List.forall_mem_cons.mpr ⟨lw_p30, List.forall_mem_cons.mpr ⟨lw_p31, fun _ h => absurd h List.not_mem_nil⟩⟩⟩⟩⟩⟩⟩⟩⟩⟩⟩⟩⟩⟩⟩⟩
theorem lw_p32 : lw_okq (⟨"StayingGuestsModel", "weighsOf", "(II)I"⟩, 37) := ⟨⟨by decide +kernel, by decide +kernel⟩, List.mem_of_getElem? (i := 679) (by decide +kernel), List.mem_of_getElem? (i := 866) (by decide +kernel), List.mem_of_getElem? (i := 867) (by decide +kernel)⟩
theorem lw_p33 : lw_okq (⟨"StayingGuestsModel", "isGiven", "(II)I"⟩, 37) := ⟨⟨by decide +kernel, by decide +kernel⟩, List.mem_of_getElem? (i := 679) (by decide +kernel), List.mem_of_getElem? (i := 884) (by decide +kernel), List.mem_of_getElem? (i := 885) (by decide +kernel)⟩
theorem lw_p34 : lw_okq (⟨"StayingGuestsModel", "dawns", "()I"⟩, 37) := ⟨⟨by decide +kernel, by decide +kernel⟩, List.mem_of_getElem? (i := 679) (by decide +kernel), List.mem_of_getElem? (i := 888) (by decide +kernel), List.mem_of_getElem? (i := 889) (by decide +kernel)⟩
theorem lw_p35 : lw_okq (⟨"StayingGuestsModel", "nextToKnow", "()I"⟩, 37) := ⟨⟨by decide +kernel, by decide +kernel⟩, List.mem_of_getElem? (i := 679) (by decide +kernel), List.mem_of_getElem? (i := 892) (by decide +kernel), List.mem_of_getElem? (i := 893) (by decide +kernel)⟩
theorem lw_p36 : lw_okq (⟨"StayingGuestsModel", "oneNight", "()V"⟩, 37) := ⟨⟨by decide +kernel, by decide +kernel⟩, List.mem_of_getElem? (i := 679) (by decide +kernel), List.mem_of_getElem? (i := 900) (by decide +kernel), List.mem_of_getElem? (i := 901) (by decide +kernel)⟩
theorem lw_p37 : lw_okq (⟨"StayingGuestsModel", "refusesPair", "(II)I"⟩, 37) := ⟨⟨by decide +kernel, by decide +kernel⟩, List.mem_of_getElem? (i := 679) (by decide +kernel), List.mem_of_getElem? (i := 919) (by decide +kernel), List.mem_of_getElem? (i := 920) (by decide +kernel)⟩
theorem lw_p38 : lw_okq (⟨"StayingGuestsModel", "keep", "()V"⟩, 37) := ⟨⟨by decide +kernel, by decide +kernel⟩, List.mem_of_getElem? (i := 679) (by decide +kernel), List.mem_of_getElem? (i := 923) (by decide +kernel), List.mem_of_getElem? (i := 924) (by decide +kernel)⟩
theorem lw_p39 : lw_okq (⟨"StayingGuestsModel", "goDinner", "(II)I"⟩, 37) := ⟨⟨by decide +kernel, by decide +kernel⟩, List.mem_of_getElem? (i := 679) (by decide +kernel), List.mem_of_getElem? (i := 927) (by decide +kernel), List.mem_of_getElem? (i := 928) (by decide +kernel)⟩
theorem lw_p40 : lw_okq (⟨"StayingGuestsModel", "does", "(II)Z"⟩, 37) := ⟨⟨by decide +kernel, by decide +kernel⟩, List.mem_of_getElem? (i := 679) (by decide +kernel), List.mem_of_getElem? (i := 931) (by decide +kernel), List.mem_of_getElem? (i := 932) (by decide +kernel)⟩
theorem lw_p41 : lw_okq (⟨"StayingGuestsModel", "tellDinner", "(I)I"⟩, 37) := ⟨⟨by decide +kernel, by decide +kernel⟩, List.mem_of_getElem? (i := 679) (by decide +kernel), List.mem_of_getElem? (i := 935) (by decide +kernel), List.mem_of_getElem? (i := 936) (by decide +kernel)⟩
theorem lw_p42 : lw_okq (⟨"StayingGuestsModel", "putBack", "()V"⟩, 37) := ⟨⟨by decide +kernel, by decide +kernel⟩, List.mem_of_getElem? (i := 679) (by decide +kernel), List.mem_of_getElem? (i := 939) (by decide +kernel), List.mem_of_getElem? (i := 940) (by decide +kernel)⟩
theorem lw_p43 : lw_okq (⟨"StayingGuestsModel", "heaviest", "(I)I"⟩, 37) := ⟨⟨by decide +kernel, by decide +kernel⟩, List.mem_of_getElem? (i := 679) (by decide +kernel), List.mem_of_getElem? (i := 947) (by decide +kernel), List.mem_of_getElem? (i := 948) (by decide +kernel)⟩
theorem lw_p44 : lw_okq (⟨"StayingGuestsModel", "isSoft", "(II)Z"⟩, 37) := ⟨⟨by decide +kernel, by decide +kernel⟩, List.mem_of_getElem? (i := 679) (by decide +kernel), List.mem_of_getElem? (i := 951) (by decide +kernel), List.mem_of_getElem? (i := 952) (by decide +kernel)⟩
theorem lw_p45 : lw_okq (⟨"StayingGuestsModel", "findTables", "()I"⟩, 37) := ⟨⟨by decide +kernel, by decide +kernel⟩, List.mem_of_getElem? (i := 679) (by decide +kernel), List.mem_of_getElem? (i := 963) (by decide +kernel), List.mem_of_getElem? (i := 964) (by decide +kernel)⟩
theorem lw_p46 : lw_okq (⟨"StayingGuestsModel", "canSit", "(II)Z"⟩, 37) := ⟨⟨by decide +kernel, by decide +kernel⟩, List.mem_of_getElem? (i := 679) (by decide +kernel), List.mem_of_getElem? (i := 970) (by decide +kernel), List.mem_of_getElem? (i := 971) (by decide +kernel)⟩
theorem lw_p47 : lw_okq (⟨"StayingGuestsModel", "canGive", "(I)Z"⟩, 37) := ⟨⟨by decide +kernel, by decide +kernel⟩, List.mem_of_getElem? (i := 679) (by decide +kernel), List.mem_of_getElem? (i := 978) (by decide +kernel), List.mem_of_getElem? (i := 979) (by decide +kernel)⟩
def lw_privs_3 : List (MethodName × Nat) := [(⟨"StayingGuestsModel", "weighsOf", "(II)I"⟩, 37), (⟨"StayingGuestsModel", "isGiven", "(II)I"⟩, 37), (⟨"StayingGuestsModel", "dawns", "()I"⟩, 37), (⟨"StayingGuestsModel", "nextToKnow", "()I"⟩, 37), (⟨"StayingGuestsModel", "oneNight", "()V"⟩, 37), (⟨"StayingGuestsModel", "refusesPair", "(II)I"⟩, 37), (⟨"StayingGuestsModel", "keep", "()V"⟩, 37), (⟨"StayingGuestsModel", "goDinner", "(II)I"⟩, 37), (⟨"StayingGuestsModel", "does", "(II)Z"⟩, 37), (⟨"StayingGuestsModel", "tellDinner", "(I)I"⟩, 37), (⟨"StayingGuestsModel", "putBack", "()V"⟩, 37), (⟨"StayingGuestsModel", "heaviest", "(I)I"⟩, 37), (⟨"StayingGuestsModel", "isSoft", "(II)Z"⟩, 37), (⟨"StayingGuestsModel", "findTables", "()I"⟩, 37), (⟨"StayingGuestsModel", "canSit", "(II)Z"⟩, 37), (⟨"StayingGuestsModel", "canGive", "(I)Z"⟩, 37)]
theorem lw_r3 : ∀ q ∈ lw_privs_3, lw_okq q := List.forall_mem_cons.mpr ⟨lw_p32, List.forall_mem_cons.mpr ⟨lw_p33, List.forall_mem_cons.mpr ⟨lw_p34, List.forall_mem_cons.mpr ⟨lw_p35, List.forall_mem_cons.mpr ⟨lw_p36, List.forall_mem_cons.mpr ⟨lw_p37, List.forall_mem_cons.mpr ⟨lw_p38, List.forall_mem_cons.mpr ⟨lw_p39, List.forall_mem_cons.mpr ⟨lw_p40, List.forall_mem_cons.mpr ⟨lw_p41, List.forall_mem_cons.mpr ⟨lw_p42, List.forall_mem_cons.mpr ⟨lw_p43, List.forall_mem_cons.mpr ⟨lw_p44, List.forall_mem_cons.mpr ⟨lw_p45, List.forall_mem_cons.mpr ⟨lw_p46, List.forall_mem_cons.mpr ⟨lw_p47, fun _ h => absurd h List.not_mem_nil⟩⟩⟩⟩⟩⟩⟩⟩⟩⟩⟩⟩⟩⟩⟩⟩
theorem lw_p48 : lw_okq (⟨"StayingGuestsModel", "tryRow", "()V"⟩, 37) := ⟨⟨by decide +kernel, by decide +kernel⟩, List.mem_of_getElem? (i := 679) (by decide +kernel), List.mem_of_getElem? (i := 982) (by decide +kernel), List.mem_of_getElem? (i := 983) (by decide +kernel)⟩
theorem lw_p49 : lw_okq (⟨"StayingGuestsModel", "areSo", "()Z"⟩, 37) := ⟨⟨by decide +kernel, by decide +kernel⟩, List.mem_of_getElem? (i := 679) (by decide +kernel), List.mem_of_getElem? (i := 998) (by decide +kernel), List.mem_of_getElem? (i := 999) (by decide +kernel)⟩
theorem lw_p50 : lw_okq (⟨"StayingGuestsModel", "lost", "(I)J"⟩, 37) := ⟨⟨by decide +kernel, by decide +kernel⟩, List.mem_of_getElem? (i := 679) (by decide +kernel), List.mem_of_getElem? (i := 1034) (by decide +kernel), List.mem_of_getElem? (i := 1035) (by decide +kernel)⟩
theorem lw_p51 : lw_okq (⟨"StayingGuestsModel", "begins", "(I)V"⟩, 37) := ⟨⟨by decide +kernel, by decide +kernel⟩, List.mem_of_getElem? (i := 679) (by decide +kernel), List.mem_of_getElem? (i := 1046) (by decide +kernel), List.mem_of_getElem? (i := 1047) (by decide +kernel)⟩
def lw_privs_4 : List (MethodName × Nat) := [(⟨"StayingGuestsModel", "tryRow", "()V"⟩, 37), (⟨"StayingGuestsModel", "areSo", "()Z"⟩, 37), (⟨"StayingGuestsModel", "lost", "(I)J"⟩, 37), (⟨"StayingGuestsModel", "begins", "(I)V"⟩, 37)]
theorem lw_r4 : ∀ q ∈ lw_privs_4, lw_okq q := List.forall_mem_cons.mpr ⟨lw_p48, List.forall_mem_cons.mpr ⟨lw_p49, List.forall_mem_cons.mpr ⟨lw_p50, List.forall_mem_cons.mpr ⟨lw_p51, fun _ h => absurd h List.not_mem_nil⟩⟩⟩⟩
def lw_privs : List (MethodName × Nat) := lw_privs_1 ++ (lw_privs_2 ++ (lw_privs_3 ++ (lw_privs_4)))
def lw_tbl : List Cond := k2_sels lw_privs ++ tables_1
theorem lw_privs_ok : ∀ q ∈ lw_privs, lw_okq q := by
  show ∀ q ∈ lw_privs_1 ++ (lw_privs_2 ++ (lw_privs_3 ++ (lw_privs_4))), lw_okq q
  exact List.forall_mem_append.mpr ⟨lw_r1, List.forall_mem_append.mpr ⟨lw_r2, List.forall_mem_append.mpr ⟨lw_r3, lw_r4⟩⟩⟩
def RX0 : String := "StayingGuests$Dinner"
def TX0 : u_T := fun k => match k with
  | 0 => ("StayingGuests$Dinner", "at", "LStayingGuests$House;", true)
  | 1 => ("StayingGuests$Dinner", "firstWrong", "I", false)
  | 2 => ("StayingGuests$Dinner", "dawned", "I", false)
  | _ => ("StayingGuests$Dinner", "dawnedByTable", "I", false)
def tyX0 : Nat → FieldType := fun k => match k with
  | 0 => .object "StayingGuests$House"
  | 1 => .int
  | 2 => .int
  | _ => .int
theorem nmX0 : ∀ a, a < 4 → ∀ b, b < 4 → a ≠ b → (TX0 a).2.1 ≠ (TX0 b).2.1 := by decide +kernel
theorem tyX0_ok : ∀ k, k < 4 → parseFieldDescriptor (TX0 k).2.2.1 = some (tyX0 k) := by decide +kernel
def RX1 : String := "StayingGuests$Guest"
def TX1 : u_T := fun k => match k with
  | 0 => ("StayingGuests$Guest", "kind", "I", false)
  | 1 => ("StayingGuests$Guest", "bears", "I", false)
  | 2 => ("StayingGuests$Guest", "takes", "I", false)
  | 3 => ("StayingGuests$Guest", "table", "I", false)
  | 4 => ("StayingGuests$Guest", "gathered", "I", false)
  | 5 => ("StayingGuests$Guest", "knows", "Z", false)
  | _ => ("StayingGuests$Guest", "shocked", "Z", false)
def tyX1 : Nat → FieldType := fun k => match k with
  | 0 => .int
  | 1 => .int
  | 2 => .int
  | 3 => .int
  | 4 => .int
  | 5 => .boolean
  | _ => .boolean
theorem nmX1 : ∀ a, a < 7 → ∀ b, b < 7 → a ≠ b → (TX1 a).2.1 ≠ (TX1 b).2.1 := by decide +kernel
theorem tyX1_ok : ∀ k, k < 7 → parseFieldDescriptor (TX1 k).2.2.1 = some (tyX1 k) := by decide +kernel
def RX2 : String := "StayingGuests$House"
def TX2 : u_T := fun k => match k with
  | 0 => ("StayingGuests$House", "hints", "[I", true)
  | 1 => ("StayingGuests$House", "rooms", "[LStayingGuests$Guest;", true)
  | 2 => ("StayingGuests$House", "signs", "I", false)
  | 3 => ("StayingGuests$House", "guests", "I", false)
  | _ => ("StayingGuests$House", "night", "I", false)
def tyX2 : Nat → FieldType := fun k => match k with
  | 0 => .array .int
  | 1 => .array (.object "StayingGuests$Guest")
  | 2 => .int
  | 3 => .int
  | _ => .int
theorem nmX2 : ∀ a, a < 5 → ∀ b, b < 5 → a ≠ b → (TX2 a).2.1 ≠ (TX2 b).2.1 := by decide +kernel
theorem tyX2_ok : ∀ k, k < 5 → parseFieldDescriptor (TX2 k).2.2.1 = some (tyX2 k) := by decide +kernel
def RX3 : String := "StayingGuests$Readings"
def TX3 : u_T := fun k => match k with
  | 0 => ("StayingGuests$Readings", "signs", "[I", true)
  | 1 => ("StayingGuests$Readings", "guests", "[I", true)
  | 2 => ("StayingGuests$Readings", "shocked", "[Z", true)
  | _ => ("StayingGuests$Readings", "count", "I", false)
def tyX3 : Nat → FieldType := fun k => match k with
  | 0 => .array .int
  | 1 => .array .int
  | 2 => .array .boolean
  | _ => .int
theorem nmX3 : ∀ a, a < 4 → ∀ b, b < 4 → a ≠ b → (TX3 a).2.1 ≠ (TX3 b).2.1 := by decide +kernel
theorem tyX3_ok : ∀ k, k < 4 → parseFieldDescriptor (TX3 k).2.2.1 = some (tyX3 k) := by decide +kernel
def RX4 : String := "StayingGuests$Sheet"
def TX4 : u_T := fun k => match k with
  | 0 => ("StayingGuests$Sheet", "cells", "[I", true)
  | 1 => ("StayingGuests$Sheet", "has", "Z", false)
  | 2 => ("StayingGuests$Sheet", "lane", "I", false)
  | _ => ("StayingGuests$Sheet", "length", "I", false)
def tyX4 : Nat → FieldType := fun k => match k with
  | 0 => .array .int
  | 1 => .boolean
  | 2 => .int
  | _ => .int
theorem nmX4 : ∀ a, a < 4 → ∀ b, b < 4 → a ≠ b → (TX4 a).2.1 ≠ (TX4 b).2.1 := by decide +kernel
theorem tyX4_ok : ∀ k, k < 4 → parseFieldDescriptor (TX4 k).2.2.1 = some (tyX4 k) := by decide +kernel
def RX5 : String := "StayingGuests$SoftRows"
def TX5 : u_T := fun k => match k with
  | _ => ("StayingGuests$SoftRows", "ways", "[I", true)
def tyX5 : Nat → FieldType := fun k => match k with
  | _ => .array .int
theorem nmX5 : ∀ a, a < 1 → ∀ b, b < 1 → a ≠ b → (TX5 a).2.1 ≠ (TX5 b).2.1 := by decide +kernel
theorem tyX5_ok : ∀ k, k < 1 → parseFieldDescriptor (TX5 k).2.2.1 = some (tyX5 k) := by decide +kernel
def RX6 : String := "StayingGuests$Staff"
def TX6 : u_T := fun k => match k with
  | 0 => ("StayingGuests$Staff", "row", "[I", true)
  | 1 => ("StayingGuests$Staff", "bestRow", "[I", true)
  | 2 => ("StayingGuests$Staff", "bestDawned", "I", false)
  | _ => ("StayingGuests$Staff", "bestHints", "I", false)
def tyX6 : Nat → FieldType := fun k => match k with
  | 0 => .array .int
  | 1 => .array .int
  | 2 => .int
  | _ => .int
theorem nmX6 : ∀ a, a < 4 → ∀ b, b < 4 → a ≠ b → (TX6 a).2.1 ≠ (TX6 b).2.1 := by decide +kernel
theorem tyX6_ok : ∀ k, k < 4 → parseFieldDescriptor (TX6 k).2.2.1 = some (tyX6 k) := by decide +kernel
def RX7 : String := "StayingGuests$Tables"
def TX7 : u_T := fun k => match k with
  | _ => ("StayingGuests$Tables", "row", "[I", true)
def tyX7 : Nat → FieldType := fun k => match k with
  | _ => .array .int
theorem nmX7 : ∀ a, a < 1 → ∀ b, b < 1 → a ≠ b → (TX7 a).2.1 ≠ (TX7 b).2.1 := by decide +kernel
theorem tyX7_ok : ∀ k, k < 1 → parseFieldDescriptor (TX7 k).2.2.1 = some (tyX7 k) := by decide +kernel
def RX8 : String := "StayingGuests$Text"
def TX8 : u_T := fun k => match k with
  | 0 => ("StayingGuests$Text", "draft", "LStayingGuests$House;", true)
  | _ => ("StayingGuests$Text", "part", "I", false)
def tyX8 : Nat → FieldType := fun k => match k with
  | 0 => .object "StayingGuests$House"
  | _ => .int
theorem nmX8 : ∀ a, a < 2 → ∀ b, b < 2 → a ≠ b → (TX8 a).2.1 ≠ (TX8 b).2.1 := by decide +kernel
theorem tyX8_ok : ∀ k, k < 2 → parseFieldDescriptor (TX8 k).2.2.1 = some (tyX8 k) := by decide +kernel
def RX9 : String := "StayingGuests"
def TX9 : u_T := fun k => match k with
  | 0 => ("StayingGuests", "sheets", "[LStayingGuests$Sheet;", true)
  | 1 => ("StayingGuests", "house", "LStayingGuests$House;", true)
  | 2 => ("StayingGuests", "supposed", "LStayingGuests$House;", true)
  | 3 => ("StayingGuests", "text", "LStayingGuests$Text;", true)
  | 4 => ("StayingGuests", "played", "LStayingGuests$Dinner;", true)
  | 5 => ("StayingGuests", "readings", "LStayingGuests$Readings;", true)
  | 6 => ("StayingGuests", "softRows", "LStayingGuests$SoftRows;", true)
  | 7 => ("StayingGuests", "tables", "LStayingGuests$Tables;", true)
  | 8 => ("StayingGuests", "staff", "LStayingGuests$Staff;", true)
  | 9 => ("StayingGuests", "trail", "I", false)
  | _ => ("StayingGuests", "latestFault", "I", false)
def tyX9 : Nat → FieldType := fun k => match k with
  | 0 => .array (.object "StayingGuests$Sheet")
  | 1 => .object "StayingGuests$House"
  | 2 => .object "StayingGuests$House"
  | 3 => .object "StayingGuests$Text"
  | 4 => .object "StayingGuests$Dinner"
  | 5 => .object "StayingGuests$Readings"
  | 6 => .object "StayingGuests$SoftRows"
  | 7 => .object "StayingGuests$Tables"
  | 8 => .object "StayingGuests$Staff"
  | 9 => .int
  | _ => .int
theorem nmX9 : ∀ a, a < 11 → ∀ b, b < 11 → a ≠ b → (TX9 a).2.1 ≠ (TX9 b).2.1 := by decide +kernel
theorem tyX9_ok : ∀ k, k < 11 → parseFieldDescriptor (TX9 k).2.2.1 = some (tyX9 k) := by decide +kernel
def RX10 : String := "StayingGuestsModel"
def TX10 : u_T := fun k => match k with
  | 0 => ("StayingGuestsModel", "fault", "I", false)
  | 1 => ("StayingGuestsModel", "trace", "I", false)
  | 2 => ("StayingGuestsModel", "sorts", "[I", true)
  | 3 => ("StayingGuestsModel", "sheetLong", "[I", true)
  | 4 => ("StayingGuestsModel", "cells", "[I", true)
  | 5 => ("StayingGuestsModel", "signs", "I", false)
  | 6 => ("StayingGuestsModel", "guests", "I", false)
  | 7 => ("StayingGuestsModel", "night", "I", false)
  | 8 => ("StayingGuestsModel", "knowing", "I", false)
  | 9 => ("StayingGuestsModel", "shocked", "I", false)
  | 10 => ("StayingGuestsModel", "hints", "[I", true)
  | 11 => ("StayingGuestsModel", "kind", "[I", true)
  | 12 => ("StayingGuestsModel", "bears", "[I", true)
  | 13 => ("StayingGuestsModel", "takes", "[I", true)
  | 14 => ("StayingGuestsModel", "table", "[I", true)
  | 15 => ("StayingGuestsModel", "gathered", "[I", true)
  | 16 => ("StayingGuestsModel", "at", "I", false)
  | 17 => ("StayingGuestsModel", "readSigns", "I", false)
  | 18 => ("StayingGuestsModel", "readGuests", "I", false)
  | 19 => ("StayingGuestsModel", "readHints", "[I", true)
  | 20 => ("StayingGuestsModel", "read", "[I", true)
  | 21 => ("StayingGuestsModel", "keptTable", "[I", true)
  | 22 => ("StayingGuestsModel", "keptGathered", "[I", true)
  | 23 => ("StayingGuestsModel", "keptKnowing", "I", false)
  | 24 => ("StayingGuestsModel", "keptShocked", "I", false)
  | 25 => ("StayingGuestsModel", "came", "I", false)
  | 26 => ("StayingGuestsModel", "cameByTable", "I", false)
  | 27 => ("StayingGuestsModel", "ways", "[I", true)
  | 28 => ("StayingGuestsModel", "sits", "[I", true)
  | 29 => ("StayingGuestsModel", "row", "[I", true)
  | 30 => ("StayingGuestsModel", "bestRow", "[I", true)
  | 31 => ("StayingGuestsModel", "bestMany", "I", false)
  | 32 => ("StayingGuestsModel", "bestHints", "I", false)
  | 33 => ("StayingGuestsModel", "readings", "I", false)
  | 34 => ("StayingGuestsModel", "readSign", "[I", true)
  | 35 => ("StayingGuestsModel", "readWho", "[I", true)
  | _ => ("StayingGuestsModel", "readShocked", "[I", true)
def tyX10 : Nat → FieldType := fun k => match k with
  | 0 => .int
  | 1 => .int
  | 2 => .array .int
  | 3 => .array .int
  | 4 => .array .int
  | 5 => .int
  | 6 => .int
  | 7 => .int
  | 8 => .int
  | 9 => .int
  | 10 => .array .int
  | 11 => .array .int
  | 12 => .array .int
  | 13 => .array .int
  | 14 => .array .int
  | 15 => .array .int
  | 16 => .int
  | 17 => .int
  | 18 => .int
  | 19 => .array .int
  | 20 => .array .int
  | 21 => .array .int
  | 22 => .array .int
  | 23 => .int
  | 24 => .int
  | 25 => .int
  | 26 => .int
  | 27 => .array .int
  | 28 => .array .int
  | 29 => .array .int
  | 30 => .array .int
  | 31 => .int
  | 32 => .int
  | 33 => .int
  | 34 => .array .int
  | 35 => .array .int
  | _ => .array .int
theorem nmX10 : ∀ a, a < 37 → ∀ b, b < 37 → a ≠ b → (TX10 a).2.1 ≠ (TX10 b).2.1 := by decide +kernel
theorem tyX10_ok : ∀ k, k < 37 → parseFieldDescriptor (TX10 k).2.2.1 = some (tyX10 k) := by decide +kernel
def vwCl : List vw_C := [(RX0, TX0, 4), (RX1, TX1, 7), (RX2, TX2, 5), (RX3, TX3, 4), (RX4, TX4, 4), (RX5, TX5, 1), (RX6, TX6, 4), (RX7, TX7, 1), (RX8, TX8, 2), (RX9, TX9, 11), (RX10, TX10, 37)]
def z_tyq (ci : Nat) : Nat → FieldType := match ci with
  | 0 => tyX0
  | 1 => tyX1
  | 2 => tyX2
  | 3 => tyX3
  | 4 => tyX4
  | 5 => tyX5
  | 6 => tyX6
  | 7 => tyX7
  | 8 => tyX8
  | 9 => tyX9
  | _ => tyX10
end
section
/-! A small machine of numbers: the class's, the law's and the reference's bytecode over a fixed shape of the heap (z_C, a cell's kind) and what the number cells hold (z_M). -/
abbrev z_C : Type := (Nat × List (Nat ⊕ Option Nat)) ⊕ ((Nat × Nat) ⊕ (Nat × List (Option Nat)))
abbrev z_M : Type := Nat → Nat → Int32
abbrev z_V : Type := List (Option Value)
abbrev z_R : Type := Int32 × Int64 × z_M
abbrev z_En : Type := Nat × Instr × Nat × List Nat × Int32 × List Nat
abbrev z_K (ρ : Type) : Type := Option Nat → z_V → List Value → z_M → Option ρ
def z_up (m : z_M) (a k : Nat) (v : Int32) : z_M := fun a' => if a' = a then upd (m a) k v else m a'
def z_g {ρ : Type} (c : Bool) (x : Option ρ) : Option ρ := match c with
  | true => x
  | false => none
def z_b (x : Int32) : Int32 := if x = 0 then 0 else 1
def z_isb (x : Int32) : Bool := decide (x = 0) || decide (x = 1)
def z_okp (sh : List z_C) (a ci k t : Nat) : Bool := match sh[a]? with
  | some (.inl (c, sl)) => Nat.beq c ci && (match sl[k]? with
    | some (.inl t') => Nat.beq t' t
    | _ => false)
  | _ => false
def z_okc (sh : List z_C) (a ci : Nat) : Bool := match sh[a]? with
  | some (.inl (c, _)) => Nat.beq c ci
  | _ => false
def z_ref (sh : List z_C) (a ci k : Nat) : Option Nat := match sh[a]? with
  | some (.inl (c, sl)) => (match Nat.beq c ci with
    | true => (match sl[k]? with
      | some (.inr r) => r
      | _ => none)
    | false => none)
  | _ => none
def z_in (n : Nat) (i : Int32) : Bool := !(decide (i < 0) || Nat.ble n i.toNatClampNeg)
def z_ina (sh : List z_C) (a t : Nat) (i : Int32) : Bool := match sh[a]? with
  | some (.inr (.inl (t', n))) => Nat.beq t' t && z_in n i
  | _ => false
def z_affl : List (Option Nat) → Nat → Nat → Bool
  | [], _, _ => true
  | some x :: r, v, c => Nat.beq x v && z_affl r (v + c) c
  | none :: _, _, _ => false
def z_aff (sh : List z_C) (a c0 c1 n : Nat) : Bool := match sh[a]? with
  | some (.inr (.inr (_, l))) => Nat.beq l.length n && z_affl l (a + c0) c1
  | _ => false
def z_ai (a c0 c1 i : Nat) : Nat := match c1 with
  | 1 => a + c0 + i
  | c => a + c0 + c * i
def z_k2 (o : Option Value) : Option Value := match o with
  | some (.long _) => none
  | some (.double _) => none
  | o => o
def z_st1 : z_V → Nat → Value → z_V
  | [], _, _ => []
  | _ :: r, 0, v => some v :: r
  | o :: r, 1, v => z_k2 o :: z_st1 r 0 v
  | o :: r, i + 2, v => o :: z_st1 r (i + 1) v
def z_st2 : z_V → Nat → Value → z_V
  | [], _, _ => []
  | _ :: [], 0, _ => [none]
  | _ :: _ :: r, 0, v => some v :: none :: r
  | o :: r, 1, v => z_k2 o :: z_st2 r 0 v
  | o :: r, i + 2, v => o :: z_st2 r (i + 1) v
def z_sw {ρ : Type} (x : Int32) (k : Nat → Option ρ) (d : Nat) : List Nat → Option ρ
  | v :: t :: r => if x = nI v then k t else z_sw x k d r
  | _ => k d
def z_lost : Int64 := -9223372036854775808
def z_at : List z_En → Nat → List z_En
  | [], _ => []
  | e :: r, pc => match Nat.beq e.1 pc with
    | true => e :: r
    | false => z_at r pc
def z_hd : List (Nat × List Bool) → Nat → Option (List Bool)
  | [], _ => none
  | e :: r, pc => match Nat.beq e.1 pc with
    | true => some e.2
    | false => z_hd r pc
def z_mask : List Bool → z_V → z_V
  | b :: bs, o :: r => (match b with
    | true => o
    | false => none) :: z_mask bs r
  | _, r => r
def z_pop : Nat → List Value → List Value → Option (List Value × List Value)
  | 0, st, acc => some (acc, st)
  | n + 1, v :: st, acc => z_pop n st (v :: acc)
  | _ + 1, [], _ => none
def z_loc : Nat → List Value → z_V
  | n, [] => List.replicate n none
  | n, .long x :: r => some (.long x) :: none :: z_loc (n - 2) r
  | n, .double x :: r => some (.double x) :: none :: z_loc (n - 2) r
  | n, v :: r => some v :: z_loc (n - 1) r
def z_br {ρ : Type} (c : ClassFile.Cond) (x y : Int32) (t f : Option ρ) : Option ρ := match c with
  | .eq => if x = y then t else f
  | .ne => if x = y then f else t
  | .lt => if x < y then t else f
  | .ge => if y ≤ x then t else f
  | .gt => if y < x then t else f
  | .le => if x ≤ y then t else f
def z_ins {ρ : Type} (sh : List z_C) (L : Nat) (xs : Nat → Int32) (ins : Instr) (lk : List Nat) (cn : Int32) (ls : z_V) (st : List Value) (m : z_M) (k : z_K ρ) : Option ρ :=
  match ins with
  | .aload _ | .aload_n _ => match ls[lk.getD 0 0]? with
    | some (some (.ref a)) => k none ls (.ref a :: st) m
    | _ => none
  | .iload _ | .iload_n _ => match ls[lk.getD 0 0]? with
    | some (some (.int x)) => k none ls (.int x :: st) m
    | _ => none
  | .lload _ | .lload_n _ => match ls[lk.getD 0 0]? with
    | some (some (.long x)) => k none ls (.long x :: st) m
    | _ => none
  | .istore _ | .istore_n _ => match st with
    | .int x :: st => z_g (Nat.blt (lk.getD 0 0) ls.length) (k none (z_st1 ls (lk.getD 0 0) (.int x)) st m)
    | _ => none
  | .astore _ | .astore_n _ => match st with
    | .ref x :: st => z_g (Nat.blt (lk.getD 0 0) ls.length) (k none (z_st1 ls (lk.getD 0 0) (.ref x)) st m)
    | _ => none
  | .lstore _ => match st with
    | .long x :: st => z_g (Nat.blt (lk.getD 0 0 + 1) ls.length) (k none (z_st2 ls (lk.getD 0 0) (.long x)) st m)
    | _ => none
  | .iinc _ _ => match ls[lk.getD 0 0]? with
    | some (some (.int x)) => k none (z_st1 ls (lk.getD 0 0) (.int (x + cn))) st m
    | _ => none
  | .iconst _ | .bipush _ | .sipush _ | .ldc _ | .ldc_w _ => k none ls (.int cn :: st) m
  | .lconst _ => k none ls (.long 0 :: st) m
  | .ldc2_w _ => k none ls (.long z_lost :: st) m
  | .iadd => match st with
    | .int y :: .int x :: st => k none ls (.int (x + y) :: st) m
    | _ => none
  | .isub => match st with
    | .int y :: .int x :: st => k none ls (.int (x - y) :: st) m
    | _ => none
  | .imul => match st with
    | .int y :: .int x :: st => k none ls (.int (x * y) :: st) m
    | _ => none
  | .iand => match st with
    | .int y :: .int x :: st => k none ls (.int (x &&& y) :: st) m
    | _ => none
  | .ior => match st with
    | .int y :: .int x :: st => k none ls (.int (x ||| y) :: st) m
    | _ => none
  | .ixor => match st with
    | .int y :: .int x :: st => k none ls (.int (x ^^^ y) :: st) m
    | _ => none
  | .idiv => match st with
    | .int y :: .int x :: st => z_g (decide (¬ y = 0)) (k none ls (.int (x / y) :: st) m)
    | _ => none
  | .irem => match st with
    | .int y :: .int x :: st => z_g (decide (¬ y = 0)) (k none ls (.int (x - x / y * y) :: st) m)
    | _ => none
  | .ishl => match st with
    | .int y :: .int x :: st => k none ls (.int (x <<< (y &&& 31)) :: st) m
    | _ => none
  | .ishr => match st with
    | .int y :: .int x :: st => k none ls (.int (x >>> (y &&& 31)) :: st) m
    | _ => none
  | .iushr => match st with
    | .int y :: .int x :: st => k none ls (.int ((x.toUInt32 >>> (y.toUInt32 &&& Int32.toUInt32 31)).toInt32) :: st) m
    | _ => none
  | .i2l => match st with
    | .int x :: st => k none ls (.long x.toInt64 :: st) m
    | _ => none
  | .i2b => match st with
    | .int x :: st => k none ls (.int x.toInt8.toInt32 :: st) m
    | _ => none
  | .i2s => match st with
    | .int x :: st => k none ls (.int x.toInt16.toInt32 :: st) m
    | _ => none
  | .ldiv => match st with
    | .long y :: .long x :: st => z_g (decide (¬ y = 0)) (k none ls (.long (x / y) :: st) m)
    | _ => none
  | .lrem => match st with
    | .long y :: .long x :: st => z_g (decide (¬ y = 0)) (k none ls (.long (x - x / y * y) :: st) m)
    | _ => none
  | .lcmp => match st with
    | .long y :: .long x :: st => k none ls (.int (lg_cmp x y) :: st) m
    | _ => none
  | .dup => match st with
    | .int x :: st => k none ls (.int x :: .int x :: st) m
    | .ref x :: st => k none ls (.ref x :: .ref x :: st) m
    | _ => none
  | .dup2 => match st with
    | .int y :: .ref x :: st => k none ls (.int y :: .ref x :: .int y :: .ref x :: st) m
    | _ => none
  | .pop => match st with
    | .int _ :: st => k none ls st m
    | _ => none
  | .goto _ => k (some (lk.getD 0 0)) ls st m
  | .ifCond c _ => match st with
    | .int x :: st => z_br c x 0 (k (some (lk.getD 0 0)) ls st m) (k none ls st m)
    | _ => none
  | .if_icmp c _ => match st with
    | .int y :: .int x :: st => z_br c x y (k (some (lk.getD 0 0)) ls st m) (k none ls st m)
    | _ => none
  | .tableswitch _ _ _ _ | .lookupswitch _ _ => match st with
    | .int x :: st => z_sw x (fun t => k (some t) ls st m) (lk.getD 0 0) lk.tail
    | _ => none
  | .getfield _ => match st with
    | .ref a :: st => (match lk.getD 2 0 with
      | 0 => z_g (z_okp sh a (lk.getD 0 0) (lk.getD 1 0) 0) (k none ls (.int (m a (lk.getD 1 0)) :: st) m)
      | 1 => z_g (z_okp sh a (lk.getD 0 0) (lk.getD 1 0) 1) (k none ls (.int (z_b (m a (lk.getD 1 0))) :: st) m)
      | _ => Option.bind (z_ref sh a (lk.getD 0 0) (lk.getD 1 0)) (fun r => k none ls (.ref r :: st) m))
    | _ => none
  | .putfield _ => match st with
    | .int x :: .ref a :: st => (match lk.getD 2 0 with
      | 0 => z_g (z_okp sh a (lk.getD 0 0) (lk.getD 1 0) 0) (k none ls st (z_up m a (lk.getD 1 0) x))
      | 1 => z_g (z_okp sh a (lk.getD 0 0) (lk.getD 1 0) 1 && z_isb x) (k none ls st (z_up m a (lk.getD 1 0) x))
      | _ => none)
    | _ => none
  | .iaload => match st with
    | .int i :: .ref a :: st => (match lk with
      | [] => z_g (z_ina sh a 0 i) (k none ls (.int (m a i.toNatClampNeg) :: st) m)
      | _ => z_g (Nat.beq a 1000 && z_in L i) (k none ls (.int (xs i.toNatClampNeg) :: st) m))
    | _ => none
  | .arraylength => match st with
    | .ref a :: st => z_g (Nat.beq a 1000) (k none ls (.int (nI L) :: st) m)
    | _ => none
  | .iastore => match st with
    | .int x :: .int i :: .ref a :: st => z_g (z_ina sh a 0 i) (k none ls st (z_up m a i.toNatClampNeg x))
    | _ => none
  | .baload => match st with
    | .int i :: .ref a :: st => z_g (z_ina sh a 1 i) (k none ls (.int (z_b (m a i.toNatClampNeg)) :: st) m)
    | _ => none
  | .bastore => match st with
    | .int x :: .int i :: .ref a :: st => z_g (z_ina sh a 1 i && z_isb x) (k none ls st (z_up m a i.toNatClampNeg x))
    | _ => none
  | .aaload => match st with
    | .int i :: .ref a :: st => z_g (z_aff sh a (lk.getD 0 0) (lk.getD 1 0) (lk.getD 2 0) && z_in (lk.getD 2 0) i) (k none ls (.ref (z_ai a (lk.getD 0 0) (lk.getD 1 0) i.toNatClampNeg) :: st) m)
    | _ => none
  | _ => none
def z_cat (st : List Value) : Nat := (st.map fun v => v.category).sum
def z_rs (rk : Nat) (r : z_R) (st : List Value) : List Value := match rk with
  | 0 => st
  | 2 => .long r.2.1 :: st
  | _ => .int r.1 :: st
def z_copy (sh : List z_C) (a0 a : Nat) (sp dp n : Int32) : Bool := match sh[a0]?, sh[a]? with
  | some (.inr (.inl (0, n0))), some (.inr (.inl (0, n1))) => decide (¬ sp < 0) && decide (¬ dp < 0) && decide (¬ n < 0) && Nat.ble (sp.toNatClampNeg + n.toNatClampNeg) n0 && Nat.ble (dp.toNatClampNeg + n.toNatClampNeg) n1
  | _, _ => false
def z_blk (sh : List z_C) (L : Nat) (xs : Nat → Int32) (code : List z_En) (hd : List (Nat × List Bool)) (rk : Nat) (K : Nat → z_V → List Value → z_M → Option z_R) (C : Nat → List Value → z_M → Option z_R) : Nat → List z_En → z_V → List Value → z_M → Option z_R
  | 0, _, _, _, _ => none
  | _ + 1, [], _, _, _ => none
  | n + 1, e :: cs, ls, st, m =>
    let nx : z_K z_R := fun o ls' st' m' => match o with
      | none => (match z_hd hd (e.1 + e.2.2.1) with
        | some mq => K (e.1 + e.2.2.1) (z_mask mq ls') st' m'
        | none => z_blk sh L xs code hd rk K C n cs ls' st' m')
      | some t => (match z_hd hd t with
        | some mq => K t (z_mask mq ls') st' m'
        | none => z_blk sh L xs code hd rk K C n (z_at code t) ls' st' m')
    match e.2.1 with
    | .ireturn => (match st with
      | [.int v] => (match rk with
        | 1 => some (v, 0, m)
        | 3 => z_g (z_isb v) (some (v, 0, m))
        | _ => none)
      | _ => none)
    | .lreturn => (match st with
      | [.long v] => (match rk with
        | 2 => some (0, v, m)
        | _ => none)
      | _ => none)
    | .return_ => (match st with
      | [] => (match rk with
        | 0 => some (0, 0, m)
        | _ => none)
      | _ => none)
    | .invokevirtual _ => (match z_pop (e.2.2.2.1.getD 1 0) st [] with
      | some (.ref a :: as, rest) => z_g (Nat.ble (z_cat rest) 8 && z_okc sh a (e.2.2.2.1.getD 3 0)) (Option.bind (C (e.2.2.2.1.getD 0 0) (.ref a :: as) m) (fun r => nx none ls (z_rs (e.2.2.2.1.getD 2 0) r rest) r.2.2))
      | _ => none)
    | .invokestatic _ => (match e.2.2.2.1 with
      | [] => (match st with
        | .int n :: .int dp :: .ref a :: .int sp :: .ref a0 :: rest => z_g (Nat.ble (z_cat rest) 8 && z_copy sh a0 a sp dp n) (nx none ls rest (fun q => if q = a then va_cpy (m a0) (m a) sp.toNatClampNeg dp.toNatClampNeg n.toNatClampNeg else m q))
        | _ => none)
      | [_] => (match st with
        | .int y :: .int x :: rest => z_g (Nat.ble (z_cat rest) 8) (nx none ls (.int (if x < y then y else x) :: rest) m)
        | _ => none)
      | lk => (match z_pop (lk.getD 1 0) st [] with
        | some (as, rest) => z_g (Nat.ble (z_cat rest) 8) (Option.bind (C (lk.getD 0 0) as m) (fun r => nx none ls (z_rs (lk.getD 2 0) r rest) r.2.2))
        | _ => none))
    | ins => z_ins sh L xs ins e.2.2.2.1 e.2.2.2.2.1 ls st m nx
/-- a method: name, bytes, locals, type that it returns, code, heads of loops -/
abbrev z_Me : Type := MethodName × ByteArray × Nat × Option FieldType × List z_En × List (Nat × List Bool)
def z_rk (ret : Option FieldType) : Nat := match ret with
  | none => 0
  | some .int => 1
  | some .long => 2
  | some .boolean => 3
  | _ => 9
def z_lp (sh : List z_C) (L : Nat) (xs : Nat → Int32) (C : Nat → List Value → z_M → Option z_R) (me : z_Me) : Nat → Nat → z_V → List Value → z_M → Option z_R
  | 0, _, _, _, _ => none
  | F + 1, pc, ls, st, m => z_blk sh L xs me.2.2.2.2.1 me.2.2.2.2.2 (z_rk me.2.2.2.1) (fun pc ls st m => z_lp sh L xs C me F pc ls st m) C 1000 (z_at me.2.2.2.2.1 pc) ls st m
def z_F : Nat := 200000
def z_go (sh : List z_C) (P : List z_Me) : Nat → Nat → List Value → z_M → Option z_R
  | 0, _, _, _ => none
  | d + 1, j, args, m => match P[j]? with
    | some me => z_g (Nat.ble (z_cat args) me.2.2.1) (z_lp sh 0 (fun _ => 0) (z_go sh P d) me z_F 0 (z_loc me.2.2.1 args) [] m)
    | none => none
end
section
/-! The small machine's values, locals and heap against the machine's. -/
def z_cv (ad : Nat → Nat) (v : Value) : Value := match v with
  | .ref a => .ref (ad a)
  | v => v
def z_vl (ad : Nat → Nat) (s : Nat ⊕ Option Nat) (x : Int32) : Value := match s with
  | .inl 1 => .int (z_b x)
  | .inl _ => .int x
  | .inr none => .null
  | .inr (some r) => .ref (ad r)
def z_rl (ad : Nat → Nat) (l : List (Option Nat)) : Nat → Option Nat := fun j => match l[j]? with
  | some (some r) => some (ad r)
  | _ => none
def z_re (ad : Nat → Nat) (cA : ClassId) (q : z_C) (f : Nat → Int32) : va_E := match q with
  | .inl (ci, sl) => .inr (ci, sl.mapIdx (fun k s => z_vl ad s (f k)))
  | .inr (.inl (1, n)) => .inl (cA, n, .inl (fun j => z_b (f j)))
  | .inr (.inl (_, n)) => .inl (cA, n, .inl f)
  | .inr (.inr (_, l)) => .inl (cA, l.length, .inr (.inr (.inr (.inr (z_rl ad l)))))
def z_rd (ad : Nat → Nat) (cid : Nat → ClassId) (sh : List z_C) (m : z_M) : va_W := sh.mapIdx (fun i q => (ad i, z_re ad (cid i) q (m i)))
theorem z_rd_at {ad : Nat → Nat} {cid : Nat → ClassId} {sh : List z_C} {m : z_M} {i : Nat} {q : z_C} (h : sh[i]? = some q) : (z_rd ad cid sh m)[i]? = some (ad i, z_re ad (cid i) q (m i)) := by
  simp [z_rd, List.getElem?_mapIdx, h]
theorem z_rd_set {ad : Nat → Nat} {cid : Nat → ClassId} {sh : List z_C} {m m' : z_M} {a : Nat} {q : z_C} (h : sh[a]? = some q) (hm : ∀ i, i ≠ a → m' i = m i) : (z_rd ad cid sh m).set a (ad a, z_re ad (cid a) q (m' a)) = z_rd ad cid sh m' := by
  apply List.ext_getElem?
  intro i
  have hlt := (List.getElem?_eq_some_iff.mp h).1
  simp only [z_rd, List.getElem?_set, List.getElem?_mapIdx, List.length_mapIdx]
  by_cases hi : a = i
  · subst hi
    rw [if_pos rfl, if_pos hlt, h]
    rfl
  · simp [hi, hm i (Ne.symm hi)]
theorem z_up_same (m : z_M) (a k : Nat) (v : Int32) : z_up m a k v a = upd (m a) k v := by simp [z_up]
theorem z_up_ne {m : z_M} {a k i : Nat} {v : Int32} (h : i ≠ a) : z_up m a k v i = m i := by simp [z_up, h]
theorem z_up_at (m : z_M) (a k a' k' : Nat) (v : Int32) : z_up m a k v a' k' = if a' = a ∧ k' = k then v else m a' k' := by
  unfold z_up upd
  by_cases h1 : a' = a
  · subst h1
    by_cases h2 : k' = k <;> simp [h2]
  · simp [h1]
theorem z_g_some {ρ : Type} {c : Bool} {x : Option ρ} {r : ρ} (h : z_g c x = some r) : c = true ∧ x = some r := by
  cases c with
  | true => exact ⟨rfl, h⟩
  | false => cases h
theorem z_g_t {ρ : Type} (x : Option ρ) : z_g true x = x := rfl
theorem z_isb_iff {x : Int32} : z_isb x = true ↔ x = 0 ∨ x = 1 := by simp [z_isb]
theorem z_b_of {x : Int32} (h : z_isb x = true) : z_b x = x := by
  rcases z_isb_iff.mp h with rfl | rfl <;> decide
theorem z_isb_b (x : Int32) : z_isb (z_b x) = true := by
  unfold z_b
  split <;> decide
/-! locals -/
def z_as (ad : Nat → Nat) (ls : z_V) : List (Nat × Value) := (List.range ls.length).filterMap (fun i => match ls[i]? with
  | some (some v) => some (i, z_cv ad v)
  | _ => none)
theorem z_as_mem {ad : Nat → Nat} {ls : z_V} {i : Nat} {w : Value} : (i, w) ∈ z_as ad ls ↔ ∃ v, ls[i]? = some (some v) ∧ w = z_cv ad v := by
  unfold z_as
  rw [List.mem_filterMap]
  constructor
  · rintro ⟨j, hj, h⟩
    split at h
    · rename_i v hv
      simp only [Option.some.injEq, Prod.mk.injEq] at h
      obtain ⟨rfl, rfl⟩ := h
      exact ⟨v, hv, rfl⟩
    · cases h
  · rintro ⟨v, hv, rfl⟩
    exact ⟨i, List.mem_range.mpr (List.getElem?_eq_some_iff.mp hv).1, by rw [hv]⟩
def z_L (ad : Nat → Nat) (ls : z_V) (arr : Array Slot) (nL : Nat) : Prop := ls.length = nL ∧ arr.size = nL ∧ lv_wf arr ∧ ∀ (i : Nat) (v : Value), ls[i]? = some (some v) → arr[i]? = some (.val (z_cv ad v))
theorem z_L.has {ad : Nat → Nat} {ls : z_V} {arr : Array Slot} {nL : Nat} (h : z_L ad ls arr nL) : lv_has arr nL (z_as ad ls) := by
  refine ⟨h.2.1, h.2.2.1, fun q hq => ?_⟩
  obtain ⟨i, w⟩ := q
  obtain ⟨v, hv, rfl⟩ := z_as_mem.mp hq
  exact h.2.2.2 i v hv
theorem z_k2_some {o : Option Value} {w : Value} (h : z_k2 o = some w) : o = some w ∧ w.category = 1 := by
  cases o with
  | none => cases h
  | some v => cases v <;> simp [z_k2] at h <;> subst h <;> exact ⟨rfl, rfl⟩
theorem z_st1_len : ∀ (ls : z_V) (i : Nat) (v : Value), (z_st1 ls i v).length = ls.length
  | [], _, _ => rfl
  | _ :: _, 0, _ => rfl
  | _ :: r, 1, v => by simp [z_st1, z_st1_len r 0 v]
  | _ :: r, i + 2, v => by simp [z_st1, z_st1_len r (i + 1) v]
theorem z_st1_get : ∀ (ls : z_V) (i j : Nat) (v w : Value), (z_st1 ls i v)[j]? = some (some w) → (j = i ∧ w = v) ∨ (j ≠ i ∧ ls[j]? = some (some w) ∧ ¬ (j + 1 = i ∧ w.category = 2))
  | [], _, _, _, _, h => by simp [z_st1] at h
  | _ :: r, 0, 0, v, w, h => by
    simp [z_st1] at h
    exact Or.inl ⟨rfl, h.symm⟩
  | _ :: r, 0, j + 1, v, w, h => by
    simp [z_st1] at h
    exact Or.inr ⟨by omega, by simpa using h, by omega⟩
  | o :: r, 1, 0, v, w, h => by
    simp [z_st1] at h
    obtain ⟨rfl, hc⟩ := z_k2_some h
    exact Or.inr ⟨by omega, rfl, fun q => by rw [hc] at q; omega⟩
  | o :: r, 1, j + 1, v, w, h => by
    simp [z_st1] at h
    rcases z_st1_get r 0 j v w h with ⟨rfl, rfl⟩ | ⟨h1, h2, h3⟩
    · exact Or.inl ⟨rfl, rfl⟩
    · exact Or.inr ⟨by omega, by simpa using h2, by omega⟩
  | o :: r, i + 2, 0, v, w, h => by
    simp [z_st1] at h
    exact Or.inr ⟨by omega, by simp [h], by omega⟩
  | o :: r, i + 2, j + 1, v, w, h => by
    simp [z_st1] at h
    rcases z_st1_get r (i + 1) j v w h with ⟨rfl, rfl⟩ | ⟨h1, h2, h3⟩
    · exact Or.inl ⟨rfl, rfl⟩
    · exact Or.inr ⟨by omega, by simpa using h2, fun q => h3 ⟨by omega, q.2⟩⟩
theorem z_cv_cat (ad : Nat → Nat) (v : Value) : (z_cv ad v).category = v.category := by cases v <;> rfl
theorem z_L.st1 {ad : Nat → Nat} {ls : z_V} {arr arr' : Array Slot} {nL i : Nat} {v : Value} (h : z_L ad ls arr nL) (h' : lv_has arr' nL ((i, z_cv ad v) :: (z_as ad ls).filter (fun q => !(q.1 == i) && !(q.1 + 1 == i && q.2.category == 2)))) : z_L ad (z_st1 ls i v) arr' nL := by
  refine ⟨(z_st1_len ls i v).trans h.1, h'.1, h'.2.1, fun j w hj => ?_⟩
  rcases z_st1_get ls i j v w hj with ⟨rfl, rfl⟩ | ⟨h1, h2, h3⟩
  · exact h'.2.2 (j, z_cv ad w) List.mem_cons_self
  · refine h'.2.2 (j, z_cv ad w) (List.mem_cons_of_mem _ (List.mem_filter.mpr ⟨z_as_mem.mpr ⟨w, h2, rfl⟩, ?_⟩))
    have e1 : (j == i) = false := by simp [h1]
    simp only [e1, Bool.not_false, Bool.true_and, Bool.not_eq_true']
    by_cases hq : j + 1 = i
    · have h4 : ¬ w.category = 2 := fun q => h3 ⟨hq, q⟩
      simp [hq, z_cv_cat, h4]
    · simp [hq]
theorem z_st2_len : ∀ (ls : z_V) (i : Nat) (v : Value), (z_st2 ls i v).length = ls.length
  | [], _, _ => rfl
  | _ :: [], 0, _ => rfl
  | _ :: _ :: _, 0, _ => rfl
  | _ :: r, 1, v => by simp [z_st2, z_st2_len r 0 v]
  | _ :: r, i + 2, v => by simp [z_st2, z_st2_len r (i + 1) v]
theorem z_st2_get : ∀ (ls : z_V) (i j : Nat) (v w : Value), i + 1 < ls.length → (z_st2 ls i v)[j]? = some (some w) → (j = i ∧ w = v) ∨ (j ≠ i ∧ j ≠ i + 1 ∧ ls[j]? = some (some w) ∧ ¬ (j + 1 = i ∧ w.category = 2))
  | [], _, _, _, _, hl, h => by simp [z_st2] at h
  | _ :: [], 0, _, _, _, hl, h => by simp at hl
  | _ :: _ :: r, 0, 0, v, w, hl, h => by
    simp [z_st2] at h
    exact Or.inl ⟨rfl, h.symm⟩
  | _ :: _ :: r, 0, 1, v, w, hl, h => by simp [z_st2] at h
  | _ :: _ :: r, 0, j + 2, v, w, hl, h => by
    simp [z_st2] at h
    exact Or.inr ⟨by omega, by omega, by simpa using h, by omega⟩
  | o :: r, 1, 0, v, w, hl, h => by
    simp [z_st2] at h
    obtain ⟨rfl, hc⟩ := z_k2_some h
    exact Or.inr ⟨by omega, by omega, rfl, fun q => by rw [hc] at q; omega⟩
  | o :: r, 1, j + 1, v, w, hl, h => by
    simp [z_st2] at h
    rcases z_st2_get r 0 j v w (by simp at hl; omega) h with ⟨rfl, rfl⟩ | ⟨h1, h1', h2, h3⟩
    · exact Or.inl ⟨rfl, rfl⟩
    · exact Or.inr ⟨by omega, by omega, by simpa using h2, by omega⟩
  | o :: r, i + 2, 0, v, w, hl, h => by
    simp [z_st2] at h
    exact Or.inr ⟨by omega, by omega, by simp [h], by omega⟩
  | o :: r, i + 2, j + 1, v, w, hl, h => by
    simp [z_st2] at h
    rcases z_st2_get r (i + 1) j v w (by simp at hl; omega) h with ⟨rfl, rfl⟩ | ⟨h1, h1', h2, h3⟩
    · exact Or.inl ⟨rfl, rfl⟩
    · exact Or.inr ⟨by omega, by omega, by simpa using h2, fun q => h3 ⟨by omega, q.2⟩⟩
theorem z_L.st2 {ad : Nat → Nat} {ls : z_V} {arr arr' : Array Slot} {nL i : Nat} {v : Value} (h : z_L ad ls arr nL) (hi : i + 1 < nL) (h' : lv_has arr' nL ((i, z_cv ad v) :: (z_as ad ls).filter (fun q => !(q.1 == i) && (!(q.1 == i + 1) && !(q.1 + 1 == i && q.2.category == 2))))) : z_L ad (z_st2 ls i v) arr' nL := by
  refine ⟨(z_st2_len ls i v).trans h.1, h'.1, h'.2.1, fun j w hj => ?_⟩
  rcases z_st2_get ls i j v w (by rw [h.1]; exact hi) hj with ⟨rfl, rfl⟩ | ⟨h1, h1', h2, h3⟩
  · exact h'.2.2 (j, z_cv ad w) List.mem_cons_self
  · refine h'.2.2 (j, z_cv ad w) (List.mem_cons_of_mem _ (List.mem_filter.mpr ⟨z_as_mem.mpr ⟨w, h2, rfl⟩, ?_⟩))
    have e1 : (j == i) = false := by simp [h1]
    have e2 : (j == i + 1) = false := by simp [h1']
    simp only [e1, e2, Bool.not_false, Bool.true_and, Bool.not_eq_true']
    by_cases hq : j + 1 = i
    · have h4 : ¬ w.category = 2 := fun q => h3 ⟨hq, q⟩
      simp [hq, z_cv_cat, h4]
    · simp [hq]
theorem z_mask_len : ∀ (mk : List Bool) (ls : z_V), (z_mask mk ls).length = ls.length
  | [], _ => by simp [z_mask]
  | _ :: _, [] => by simp [z_mask]
  | b :: bs, o :: r => by simp [z_mask, z_mask_len bs r]
theorem z_mask_get : ∀ (mk : List Bool) (ls : z_V) (j : Nat) (w : Value), (z_mask mk ls)[j]? = some (some w) → ls[j]? = some (some w)
  | [], _, _, _, h => by simpa [z_mask] using h
  | _ :: _, [], _, _, h => by simp [z_mask] at h
  | b :: bs, o :: r, 0, w, h => by
    cases b <;> simp [z_mask] at h ⊢
    exact h
  | b :: bs, o :: r, j + 1, w, h => by
    simp [z_mask] at h
    simpa using z_mask_get bs r j w h
theorem z_L.mask {ad : Nat → Nat} {ls : z_V} {arr : Array Slot} {nL : Nat} (mk : List Bool) (h : z_L ad ls arr nL) : z_L ad (z_mask mk ls) arr nL :=
  ⟨(z_mask_len mk ls).trans h.1, h.2.1, h.2.2.1, fun i v hv => h.2.2.2 i v (z_mask_get mk ls i v hv)⟩
end
section
/-! One step of the small machine is one of the machine. -/
def z_w (Tb : List Jvm.Cond) (i : Nat) (x : Jvm.Cond) : Bool := decide (Tb[i]? = some x) && goodWord x
def z_tl (pc : Nat) : Nat → List Int → List Nat
  | _, [] => []
  | v, o :: r => v :: ((pc : Int) + o).toNat :: z_tl pc (v + 1) r
def z_ll (pc : Nat) : List (Int × Int) → List Nat
  | [] => []
  | q :: r => q.1.toNat :: ((pc : Int) + q.2).toNat :: z_ll pc r
def z_lawn : String := "StayingGuestsLaw"
def z_chk (Tb : List Jvm.Cond) (cl : List vw_C) (tyq : Nat → Nat → FieldType) (own : String) (pc : Nat) (ins : Instr) (len : Nat) (lk : List Nat) (cn : Int32) (px : List Nat) : Bool := match ins with
  | .aload i | .iload i | .lload i | .istore i | .astore i | .lstore i => decide (len = 2 ∧ lk.getD 0 0 = i)
  | .aload_n i | .iload_n i | .lload_n i | .istore_n i | .astore_n i => decide (len = 1 ∧ lk.getD 0 0 = (i : Nat))
  | .iinc i n => decide (len = 3 ∧ lk.getD 0 0 = i ∧ Int32.ofInt n = cn)
  | .iconst n => decide (len = 1 ∧ Int32.ofInt n = cn)
  | .bipush n => decide (len = 2 ∧ (Int8.ofInt n).toInt32 = cn)
  | .sipush n => decide (len = 3 ∧ (Int16.ofInt n).toInt32 = cn)
  | .ldc i => decide (len = 2) && z_w Tb (px.getD 0 0) (.constant own i cn)
  | .ldc_w i => decide (len = 3) && z_w Tb (px.getD 0 0) (.constant own i cn)
  | .ldc2_w i => decide (len = 3) && z_w Tb (px.getD 0 0) (.constantLong own i z_lost)
  | .lconst n => decide (len = 1 ∧ (n : Nat) = 0)
  | .iadd | .isub | .imul | .iand | .ior | .ixor | .idiv | .irem | .ishl | .ishr | .iushr | .i2l | .i2b | .i2s | .ldiv | .lrem | .lcmp | .dup | .dup2 | .pop | .iastore | .baload | .bastore | .aaload | .ireturn | .lreturn | .return_ => decide (len = 1)
  | .goto off => decide (len = 3 ∧ (pc : Int) + off = (lk.getD 0 0 : Nat))
  | .ifCond _ off => decide (len = 3 ∧ (pc : Int) + off = (lk.getD 0 0 : Nat))
  | .if_icmp _ off => decide (len = 3 ∧ (pc : Int) + off = (lk.getD 0 0 : Nat))
  | .tableswitch d lo hi offs => decide ((pc : Int) + d = (lk.getD 0 0 : Nat) ∧ 0 ≤ lo ∧ hi = lo + offs.size - 1 ∧ hi < 2147483647 ∧ lk.tail = z_tl pc lo.toNat offs.toList ∧ offs.toList.all (fun o => decide (0 ≤ (pc : Int) + o)) = true)
  | .lookupswitch d ps => decide ((pc : Int) + d = (lk.getD 0 0 : Nat) ∧ (ps.toList.zip (ps.toList.drop 1)).all (fun (a, next) => a.1 < next.1) = true ∧ lk.tail = z_ll pc ps.toList ∧ ps.toList.all (fun o => decide (0 ≤ (pc : Int) + o.2 ∧ 0 ≤ o.1 ∧ o.1 < 2147483648)) = true)
  | .getfield i => decide (len = 3) && (match cl[lk.getD 0 0]? with
    | some q => decide (lk.getD 1 0 < q.2.2) && z_w Tb (px.getD 0 0) (.fieldLink own i (q.2.1 (lk.getD 1 0)).1 (q.2.1 (lk.getD 1 0)).2.1 (q.2.1 (lk.getD 1 0)).2.2.1)
    | none => false)
  | .putfield i => decide (len = 3) && (match cl[lk.getD 0 0]? with
    | some q => decide (lk.getD 1 0 < q.2.2) && z_w Tb (px.getD 0 0) (.fieldLink own i (q.2.1 (lk.getD 1 0)).1 (q.2.1 (lk.getD 1 0)).2.1 (q.2.1 (lk.getD 1 0)).2.2.1) && decide ((lk.getD 2 0 = 2) ∨ (q.2.1 (lk.getD 1 0)).2.2.2 = false ∧ (lk.getD 2 0 = 0 ∧ tyq (lk.getD 0 0) (lk.getD 1 0) = .int ∨ lk.getD 2 0 = 1 ∧ tyq (lk.getD 0 0) (lk.getD 1 0) = .boolean))
    | none => false)
  | .iaload => decide (len = 1 ∧ (lk = [] ∨ own = z_lawn))
  | .arraylength => decide (len = 1 ∧ own = z_lawn)
  | _ => true
theorem z_in_iff {n : Nat} {i : Int32} : z_in n i = true ↔ vp_in i n := by
  unfold z_in vp_in
  rw [Bool.not_eq_true', Bool.or_eq_false_iff, decide_eq_false_iff_not, not_or]
  have hb : Nat.ble n i.toNatClampNeg = false ↔ ¬ n ≤ i.toNatClampNeg := by
    constructor
    · intro h q
      rw [Nat.ble_eq.mpr q] at h
      cases h
    · intro h
      cases hq : Nat.ble n i.toNatClampNeg with
      | false => rfl
      | true => exact absurd (Nat.ble_eq.mp hq) h
  rw [hb]
theorem z_okp_some {sh : List z_C} {a ci k t : Nat} (h : z_okp sh a ci k t = true) : ∃ sl, sh[a]? = some (.inl (ci, sl)) ∧ sl[k]? = some (.inl t) := by
  unfold z_okp at h
  split at h
  · rename_i c' sl hs
    rw [Bool.and_eq_true] at h
    have e1 := Nat.eq_of_beq_eq_true h.1
    subst e1
    have h2 := h.2
    split at h2
    · rename_i t' ht
      have e2 := Nat.eq_of_beq_eq_true h2
      subst e2
      exact ⟨sl, hs, ht⟩
    · cases h2
  · cases h
theorem z_okc_some {sh : List z_C} {a ci : Nat} (h : z_okc sh a ci = true) : ∃ sl, sh[a]? = some (.inl (ci, sl)) := by
  unfold z_okc at h
  split at h
  · rename_i c' sl hs
    have e1 := Nat.eq_of_beq_eq_true h
    subst e1
    exact ⟨sl, hs⟩
  · cases h
theorem z_ref_some {sh : List z_C} {a ci k r : Nat} (h : z_ref sh a ci k = some r) : ∃ sl, sh[a]? = some (.inl (ci, sl)) ∧ sl[k]? = some (.inr (some r)) := by
  unfold z_ref at h
  split at h
  · rename_i c' sl hs
    split at h
    · rename_i hb
      have e1 := Nat.eq_of_beq_eq_true hb
      subst e1
      split at h
      · rename_i r' hr
        subst h
        exact ⟨sl, hs, hr⟩
      · cases h
    · cases h
  · cases h
theorem z_ina_some {sh : List z_C} {a t : Nat} {i : Int32} (h : z_ina sh a t i = true) : ∃ n, sh[a]? = some (.inr (.inl (t, n))) ∧ vp_in i n := by
  unfold z_ina at h
  split at h
  · rename_i t' n hs
    rw [Bool.and_eq_true] at h
    have e1 := Nat.eq_of_beq_eq_true h.1
    subst e1
    exact ⟨n, hs, z_in_iff.mp h.2⟩
  · cases h
theorem z_ai_eq (a c0 c1 j : Nat) : z_ai a c0 c1 j = a + c0 + c1 * j := by
  unfold z_ai
  split <;> simp
theorem z_affl_some : ∀ (l : List (Option Nat)) (v c : Nat), z_affl l v c = true → ∀ j, j < l.length → l[j]? = some (some (v + c * j))
  | [], _, _, _, j, hj => by simp at hj
  | none :: _, _, _, h, _, _ => by simp [z_affl] at h
  | some x :: r, v, c, h, 0, _ => by
    simp [z_affl] at h
    simp [h.1]
  | some x :: r, v, c, h, j + 1, hj => by
    simp [z_affl] at h
    have := z_affl_some r (v + c) c h.2 j (by simpa using hj)
    simp only [List.getElem?_cons_succ, this]
    rw [Nat.mul_succ]
    congr 2
    omega
theorem z_aff_some {sh : List z_C} {a c0 c1 n : Nat} (h : z_aff sh a c0 c1 n = true) : ∃ ci l, sh[a]? = some (.inr (.inr (ci, l))) ∧ l.length = n ∧ ∀ j, j < n → l[j]? = some (some (z_ai a c0 c1 j)) := by
  unfold z_aff at h
  split at h
  · rename_i ci l hs
    rw [Bool.and_eq_true] at h
    have e1 := Nat.eq_of_beq_eq_true h.1
    exact ⟨ci, l, hs, e1, fun j hj => by rw [z_ai_eq]; exact z_affl_some l _ _ h.2 j (by omega)⟩
  · cases h
theorem z_fs_set {ad : Nat → Nat} {sl : List (Nat ⊕ Option Nat)} {f : Nat → Int32} {k : Nat} {s0 : Nat ⊕ Option Nat} {x : Int32} (h : sl[k]? = some s0) : (sl.mapIdx (fun j s => z_vl ad s (f j))).set k (z_vl ad s0 x) = sl.mapIdx (fun j s => z_vl ad s (upd f k x j)) := by
  apply List.ext_getElem?
  intro i
  have hlt := (List.getElem?_eq_some_iff.mp h).1
  simp only [List.getElem?_set, List.getElem?_mapIdx, List.length_mapIdx]
  by_cases hi : k = i
  · subst hi
    rw [if_pos rfl, if_pos hlt, h]
    simp [upd]
  · simp [hi, upd, Ne.symm hi]
theorem z_sw_tl {ρ : Type} {x : Int32} {k : Nat → Option ρ} {d pc : Nat} {r : ρ} : ∀ (offs : List Int) (v : Nat), z_sw x k d (z_tl pc v offs) = some r → (∃ j off, offs[j]? = some off ∧ x = nI (v + j) ∧ k ((pc : Int) + off).toNat = some r) ∨ ((∀ j, j < offs.length → x ≠ nI (v + j)) ∧ k d = some r)
  | [], v, h => Or.inr ⟨fun j hj => by simp at hj, h⟩
  | o :: offs, v, h => by
    simp only [z_tl, z_sw] at h
    split at h
    · rename_i hx
      exact Or.inl ⟨0, o, rfl, hx, h⟩
    · rename_i hx
      rcases z_sw_tl offs (v + 1) h with ⟨j, off, h1, h2, h3⟩ | ⟨h1, h2⟩
      · exact Or.inl ⟨j + 1, off, by simpa using h1, by rw [h2]; congr 1; omega, h3⟩
      · refine Or.inr ⟨fun j hj => ?_, h2⟩
        cases j with
        | zero => exact hx
        | succ j => rw [show v + (j + 1) = v + 1 + j by omega]; exact h1 j (by simpa using hj)
theorem z_nI_of {x : Int32} {n : Nat} (h : x.toInt = (n : Int)) (hn : n < 2147483648) : x = nI n := by
  apply Int32.toInt_inj.mp
  rw [nI_toInt (by omega), h]
theorem z_sw_ll {ρ : Type} {x : Int32} {k : Nat → Option ρ} {d pc : Nat} {dflt : Int} {r : ρ} (hd : (pc : Int) + dflt = (d : Nat)) : ∀ (ps : List (Int × Int)), ps.all (fun o => decide (0 ≤ (pc : Int) + o.2 ∧ 0 ≤ o.1 ∧ o.1 < 2147483648)) = true → z_sw x k d (z_ll pc ps) = some r → ∃ t : Nat, (pc : Int) + Op.lookupswitch.offset ps dflt x.toInt = (t : Int) ∧ k t = some r
  | [], _, h => ⟨d, hd, h⟩
  | q :: ps, hp, h => by
    obtain ⟨a, o⟩ := q
    simp only [List.all_cons, Bool.and_eq_true, decide_eq_true_eq] at hp
    obtain ⟨⟨h1, h2, h3⟩, hp⟩ := hp
    simp only [z_ll, z_sw] at h
    split at h
    · rename_i hx
      refine ⟨((pc : Int) + o).toNat, ?_, h⟩
      have : a = x.toInt := by rw [hx, nI_toInt (by omega)]; omega
      rw [Op.lookupswitch.offset_cons, if_pos this]
      omega
    · rename_i hx
      obtain ⟨t, e1, e2⟩ := z_sw_ll hd ps hp h
      refine ⟨t, ?_, e2⟩
      rw [Op.lookupswitch.offset_cons, if_neg (fun hq => hx (z_nI_of (by omega) (by omega)))]
      exact e1
def z_TY (tys : List (ClassId × FieldType)) (cid : Nat → ClassId) (sh : List z_C) : Prop := ∀ i : Nat, (∀ n t, sh[i]? = some (.inr (.inl (t, n))) → ∃ t0 : Nat, tys[t0]? = some (cid i, if t = 1 then FieldType.boolean else FieldType.int)) ∧ (∀ ci l, sh[i]? = some (.inr (.inr (ci, l))) → ∃ (t0 : Nat) (nm : String), tys[t0]? = some (cid i, FieldType.object nm))
def z_CK (cl : List vw_C) (Ts : List Jvm.Cond) (tyq : Nat → Nat → FieldType) : Prop := ∀ (ci : Nat) (q : vw_C), cl[ci]? = some q → (∀ x ∈ u_ws q.1 q.2.1 q.2.2, x ∈ Ts) ∧ (∀ k, k < q.2.2 → parseFieldDescriptor (q.2.1 k).2.2.1 = some (tyq ci k)) ∧ (∀ a, a < q.2.2 → ∀ b, b < q.2.2 → a ≠ b → (q.2.1 a).2.1 ≠ (q.2.1 b).2.1)
def z_G (p : Program) (s : State) (M : MethodId) (args : Array Value) (c : Code) (cc : ByteArray) (own : String) (D : va_G) (cl : List vw_C) (tys : List (ClassId × FieldType)) (cid : Nat → ClassId) (sh : List z_C) (Tb Ts : List Jvm.Cond) (tyq : Nat → Nat → FieldType) : Prop :=
  p.tables.exec = Jvm.exec ∧ c.code = cc ∧ s.vm.findClass own = some M.cls ∧ (∀ x ∈ Ts, x.before args s = true) ∧ va_K D cl tys s ∧ (∀ x ∈ Tb, goodWord x = true → x ∈ Ts) ∧ z_CK cl Ts tyq ∧ z_TY tys cid sh
def z_H (D : va_G) (cl : List vw_C) (A : Nat → Prop) (H0 : Heap) (ad : Nat → Nat) (cid : Nat → ClassId) (sh : List z_C) (m : z_M) (H : Heap) (locs : List Loc) : Prop := va_P D cl (z_rd ad cid sh m) H ∧ va_D A (z_rd ad cid sh m) ∧ va_S A H0 H locs
def z_Sc (own : String) (A : Nat → Prop) (s : State) (H0 : Heap) (ad : Nat → Nat) (b L : Nat) (xs : Nat → Int32) : Prop := own = z_lawn → va_X b L xs s H0 ∧ b < H0.size ∧ ¬ A b ∧ ad 1000 = b
theorem z_w_in {Tb Ts : List Jvm.Cond} {i : Nat} {x : Jvm.Cond} (h : z_w Tb i x = true) (hT : ∀ x ∈ Tb, goodWord x = true → x ∈ Ts) : x ∈ Ts := by
  unfold z_w at h
  rw [Bool.and_eq_true, decide_eq_true_eq] at h
  exact hT x (List.mem_of_getElem? h.1) h.2
section Zi
variable {p : Program} {l : Launch} {e : Env} {R : Room} {s : State} {M : MethodId} {args : Array Value} {below : List Frame} {meth : Method} {c : Code} {cells slots : Nat} {Q : State → Prop}
variable {cc : ByteArray} {own : String} {D : va_G} {cl : List vw_C} {tys : List (ClassId × FieldType)} {cid : Nat → ClassId} {ad : Nat → Nat} {sh : List z_C} {A : Nat → Prop} {H0 : Heap} {Tb Ts : List Jvm.Cond} {tyq : Nat → Nat → FieldType} {L b nL : Nat} {xs : Nat → Int32}
set_option maxHeartbeats 4000000 in
set_option maxRecDepth 100000 in
theorem z_ins_ok {ρ : Type} (hG : z_G p s M args c cc own D cl tys cid sh Tb Ts tyq) {ins : Instr} (hSc : ins = .arraylength ∨ ins = .iaload → z_Sc own A s H0 ad b L xs) {pc : Nat} {len : Nat} {lk : List Nat} {cn : Int32} {px : List Nat} (hc : z_chk Tb cl tyq own pc ins len lk cn px = true) (hdg : decode cc pc = .ok (ins, len))
    {ls : z_V} {st : List Value} {m : z_M} {k : z_K ρ} {r : ρ} (h : z_ins sh L xs ins lk cn ls st m k = some r) {arr : Array Slot} {H : Heap} {locs : List Loc} (hl : z_L ad ls arr nL) (hH : z_H D cl A H0 ad cid sh m H locs)
    (kk : ∀ (o : Option Nat) (ls' : z_V) (st' : List Value) (m' : z_M) (H' : Heap) (locs' : List Loc) (arr' : Array Slot), k o ls' st' m' = some r → z_L ad ls' arr' nL → z_H D cl A H0 ad cid sh m' H' locs' → W p l e R s M args below meth c H' locs' cells slots Q (F0 M (o.getD (pc + len)) arr' (st'.map (z_cv ad)))) :
    W p l e R s M args below meth c H locs cells slots Q (F0 M pc arr (st.map (z_cv ad))) := by
  obtain ⟨hx, hb, hown, hts, hK, hTb, hCK, hTY⟩ := hG
  obtain ⟨hP, hD, hS⟩ := hH
  have hHH : z_H D cl A H0 ad cid sh m H locs := ⟨hP, hD, hS⟩
  cases ins
  case aload i =>
    simp only [z_chk, decide_eq_true_eq] at hc
    obtain ⟨rfl, hi⟩ := hc
    dsimp only [z_ins] at h
    split at h
    · rename_i x h1
      rw [hi] at h1
      exact lv_aload hx hb hdg (hl.2.2.2 _ _ h1) (kk none ls _ m H locs arr h hl hHH)
    · cases h
  case iload i =>
    simp only [z_chk, decide_eq_true_eq] at hc
    obtain ⟨rfl, hi⟩ := hc
    dsimp only [z_ins] at h
    split at h
    · rename_i x h1
      rw [hi] at h1
      exact lv_iload hx hb hdg (hl.2.2.2 _ _ h1) (kk none ls _ m H locs arr h hl hHH)
    · cases h
  case lload i =>
    simp only [z_chk, decide_eq_true_eq] at hc
    obtain ⟨rfl, hi⟩ := hc
    dsimp only [z_ins] at h
    split at h
    · rename_i x h1
      rw [hi] at h1
      exact lv_lload hx hb hdg (hl.2.2.2 _ _ h1) (kk none ls _ m H locs arr h hl hHH)
    · cases h
  case aload_n i =>
    simp only [z_chk, decide_eq_true_eq] at hc
    obtain ⟨rfl, hi⟩ := hc
    dsimp only [z_ins] at h
    split at h
    · rename_i x h1
      rw [hi] at h1
      exact lv_aload_n hx hb hdg rfl (hl.2.2.2 _ _ h1) (kk none ls _ m H locs arr h hl hHH)
    · cases h
  case iload_n i =>
    simp only [z_chk, decide_eq_true_eq] at hc
    obtain ⟨rfl, hi⟩ := hc
    dsimp only [z_ins] at h
    split at h
    · rename_i x h1
      rw [hi] at h1
      exact lv_iload_n hx hb hdg rfl (hl.2.2.2 _ _ h1) (kk none ls _ m H locs arr h hl hHH)
    · cases h
  case lload_n i =>
    simp only [z_chk, decide_eq_true_eq] at hc
    obtain ⟨rfl, hi⟩ := hc
    dsimp only [z_ins] at h
    split at h
    · rename_i x h1
      rw [hi] at h1
      exact lv_lload_n hx hb hdg rfl (hl.2.2.2 _ _ h1) (kk none ls _ m H locs arr h hl hHH)
    · cases h
  case istore i =>
    simp only [z_chk, decide_eq_true_eq] at hc
    obtain ⟨rfl, hi⟩ := hc
    dsimp only [z_ins] at h
    split at h
    · rename_i x st'
      obtain ⟨h1, h⟩ := z_g_some h
      rw [hi] at h h1
      have h1 := Nat.blt_eq.mp h1
      rw [hl.1] at h1
      exact lv_istore hx hb hdg hl.has h1 rfl (fun ls' h' => kk none _ _ m H locs ls' h (hl.st1 (v := .int x) h') hHH)
    · cases h
  case astore i =>
    simp only [z_chk, decide_eq_true_eq] at hc
    obtain ⟨rfl, hi⟩ := hc
    dsimp only [z_ins] at h
    split at h
    · rename_i x st'
      obtain ⟨h1, h⟩ := z_g_some h
      rw [hi] at h h1
      have h1 := Nat.blt_eq.mp h1
      rw [hl.1] at h1
      exact lv_astore hx hb hdg hl.has h1 rfl (fun ls' h' => kk none _ _ m H locs ls' h (hl.st1 (v := .ref x) h') hHH)
    · cases h
  case istore_n i =>
    simp only [z_chk, decide_eq_true_eq] at hc
    obtain ⟨rfl, hi⟩ := hc
    dsimp only [z_ins] at h
    split at h
    · rename_i x st'
      obtain ⟨h1, h⟩ := z_g_some h
      rw [hi] at h h1
      have h1 := Nat.blt_eq.mp h1
      rw [hl.1] at h1
      exact lv_istore_n hx hb hdg rfl hl.has h1 rfl (fun ls' h' => kk none _ _ m H locs ls' h (hl.st1 (v := .int x) h') hHH)
    · cases h
  case astore_n i =>
    simp only [z_chk, decide_eq_true_eq] at hc
    obtain ⟨rfl, hi⟩ := hc
    dsimp only [z_ins] at h
    split at h
    · rename_i x st'
      obtain ⟨h1, h⟩ := z_g_some h
      rw [hi] at h h1
      have h1 := Nat.blt_eq.mp h1
      rw [hl.1] at h1
      exact lv_astore_n hx hb hdg rfl hl.has h1 rfl (fun ls' h' => kk none _ _ m H locs ls' h (hl.st1 (v := .ref x) h') hHH)
    · cases h
  case lstore i =>
    simp only [z_chk, decide_eq_true_eq] at hc
    obtain ⟨rfl, hi⟩ := hc
    dsimp only [z_ins] at h
    split at h
    · rename_i x st'
      obtain ⟨h1, h⟩ := z_g_some h
      rw [hi] at h h1
      have h1 := Nat.blt_eq.mp h1
      rw [hl.1] at h1
      exact lv_lstore hx hb hdg hl.has h1 rfl (fun ls' h' => kk none _ _ m H locs ls' h (hl.st2 (v := .long x) h1 h') hHH)
    · cases h
  case iinc i n =>
    simp only [z_chk, decide_eq_true_eq] at hc
    obtain ⟨rfl, hi, hn⟩ := hc
    dsimp only [z_ins] at h
    split at h
    · rename_i x h1
      rw [hi] at h1 h
      obtain ⟨q, hq⟩ := List.getElem?_of_mem (z_as_mem (ad := ad).mpr ⟨_, h1, rfl⟩)
      have h2 : i < nL := by
        rw [← hl.1]
        exact (List.getElem?_eq_some_iff.mp h1).1
      exact lv_iinc hx hb hdg hl.has hq (by rw [hn]) h2 rfl (fun ls' h' => kk none _ _ m H locs ls' h (hl.st1 (v := .int (x + cn)) h') hHH)
    · cases h
  case iconst n =>
    simp only [z_chk, decide_eq_true_eq] at hc
    obtain ⟨rfl, hn⟩ := hc
    exact lv_iconst hx hb hdg hn (kk none ls _ m H locs arr h hl hHH)
  case bipush n =>
    simp only [z_chk, decide_eq_true_eq] at hc
    obtain ⟨rfl, hn⟩ := hc
    exact lv_bipush hx hb hdg hn (kk none ls _ m H locs arr h hl hHH)
  case sipush n =>
    simp only [z_chk, decide_eq_true_eq] at hc
    obtain ⟨rfl, hn⟩ := hc
    exact lv_sipush hx hb hdg hn (kk none ls _ m H locs arr h hl hHH)
  case ldc n =>
    simp only [z_chk, Bool.and_eq_true, decide_eq_true_eq] at hc
    obtain ⟨rfl, hn⟩ := hc
    exact lv_ldc hx hb hown (hts _ (z_w_in hn hTb)) hdg (kk none ls _ m H locs arr h hl hHH)
  case ldc_w n =>
    simp only [z_chk, Bool.and_eq_true, decide_eq_true_eq] at hc
    obtain ⟨rfl, hn⟩ := hc
    exact lv_ldcw hx hb hown (hts _ (z_w_in hn hTb)) hdg (kk none ls _ m H locs arr h hl hHH)
  case ldc2_w n =>
    simp only [z_chk, Bool.and_eq_true, decide_eq_true_eq] at hc
    obtain ⟨rfl, hn⟩ := hc
    exact lv_ldc2 hx hb hown (hts _ (z_w_in hn hTb)) hdg (kk none ls _ m H locs arr h hl hHH)
  case lconst n =>
    simp only [z_chk, decide_eq_true_eq] at hc
    obtain ⟨rfl, hn⟩ := hc
    exact lv_lconst hx hb hdg (by rw [hn]; rfl) (kk none ls _ m H locs arr h hl hHH)
  case iadd =>
    simp only [z_chk, decide_eq_true_eq] at hc
    subst hc
    dsimp only [z_ins] at h
    split at h
    · exact lv_iadd hx hb hdg (kk none ls _ m H locs arr h hl hHH)
    · cases h
  case isub =>
    simp only [z_chk, decide_eq_true_eq] at hc
    subst hc
    dsimp only [z_ins] at h
    split at h
    · exact lv_isub hx hb hdg (kk none ls _ m H locs arr h hl hHH)
    · cases h
  case imul =>
    simp only [z_chk, decide_eq_true_eq] at hc
    subst hc
    dsimp only [z_ins] at h
    split at h
    · exact lv_imul hx hb hdg (kk none ls _ m H locs arr h hl hHH)
    · cases h
  case iand =>
    simp only [z_chk, decide_eq_true_eq] at hc
    subst hc
    dsimp only [z_ins] at h
    split at h
    · exact lv_iand hx hb hdg (kk none ls _ m H locs arr h hl hHH)
    · cases h
  case ior =>
    simp only [z_chk, decide_eq_true_eq] at hc
    subst hc
    dsimp only [z_ins] at h
    split at h
    · exact lv_ior hx hb hdg (kk none ls _ m H locs arr h hl hHH)
    · cases h
  case ixor =>
    simp only [z_chk, decide_eq_true_eq] at hc
    subst hc
    dsimp only [z_ins] at h
    split at h
    · exact lv_ixor hx hb hdg (kk none ls _ m H locs arr h hl hHH)
    · cases h
  case ishl =>
    simp only [z_chk, decide_eq_true_eq] at hc
    subst hc
    dsimp only [z_ins] at h
    split at h
    · exact lv_ishl hx hb hdg (kk none ls _ m H locs arr h hl hHH)
    · cases h
  case ishr =>
    simp only [z_chk, decide_eq_true_eq] at hc
    subst hc
    dsimp only [z_ins] at h
    split at h
    · exact lv_ishr hx hb hdg (kk none ls _ m H locs arr h hl hHH)
    · cases h
  case lcmp =>
    simp only [z_chk, decide_eq_true_eq] at hc
    subst hc
    dsimp only [z_ins] at h
    split at h
    · exact W.lcmp hx hb hdg (kk none ls _ m H locs arr h hl hHH)
    · cases h
  case idiv =>
    simp only [z_chk, decide_eq_true_eq] at hc
    subst hc
    dsimp only [z_ins] at h
    split at h
    · obtain ⟨h1, h⟩ := z_g_some h
      exact lv_idiv hx hb hdg (of_decide_eq_true h1) (kk none ls _ m H locs arr h hl hHH)
    · cases h
  case irem =>
    simp only [z_chk, decide_eq_true_eq] at hc
    subst hc
    dsimp only [z_ins] at h
    split at h
    · obtain ⟨h1, h⟩ := z_g_some h
      exact lv_irem hx hb hdg (of_decide_eq_true h1) (kk none ls _ m H locs arr h hl hHH)
    · cases h
  case ldiv =>
    simp only [z_chk, decide_eq_true_eq] at hc
    subst hc
    dsimp only [z_ins] at h
    split at h
    · obtain ⟨h1, h⟩ := z_g_some h
      exact lv_ldiv hx hb hdg (of_decide_eq_true h1) (kk none ls _ m H locs arr h hl hHH)
    · cases h
  case lrem =>
    simp only [z_chk, decide_eq_true_eq] at hc
    subst hc
    dsimp only [z_ins] at h
    split at h
    · obtain ⟨h1, h⟩ := z_g_some h
      exact lv_lrem hx hb hdg (of_decide_eq_true h1) (kk none ls _ m H locs arr h hl hHH)
    · cases h
  case iushr =>
    simp only [z_chk, decide_eq_true_eq] at hc
    subst hc
    dsimp only [z_ins] at h
    split at h
    · exact lv_iushr hx hb hdg rfl (kk none ls _ m H locs arr h hl hHH)
    · cases h
  case i2l =>
    simp only [z_chk, decide_eq_true_eq] at hc
    subst hc
    dsimp only [z_ins] at h
    split at h
    · exact lv_i2l hx hb hdg rfl (kk none ls _ m H locs arr h hl hHH)
    · cases h
  case i2b =>
    simp only [z_chk, decide_eq_true_eq] at hc
    subst hc
    dsimp only [z_ins] at h
    split at h
    · exact lv_i2b hx hb hdg rfl (kk none ls _ m H locs arr h hl hHH)
    · cases h
  case i2s =>
    simp only [z_chk, decide_eq_true_eq] at hc
    subst hc
    dsimp only [z_ins] at h
    split at h
    · exact lv_i2s hx hb hdg rfl (kk none ls _ m H locs arr h hl hHH)
    · cases h
  case dup =>
    simp only [z_chk, decide_eq_true_eq] at hc
    subst hc
    dsimp only [z_ins] at h
    split at h
    · exact lv_dup (va := .int _) hx hb hdg rfl (kk none ls _ m H locs arr h hl hHH)
    · exact lv_dup (va := .ref _) hx hb hdg rfl (kk none ls _ m H locs arr h hl hHH)
    · cases h
  case dup2 =>
    simp only [z_chk, decide_eq_true_eq] at hc
    subst hc
    dsimp only [z_ins] at h
    split at h
    · exact lv_dup2_11 (va := .int _) (vb := .ref _) hx hb hdg rfl rfl (kk none ls _ m H locs arr h hl hHH)
    · cases h
  case pop =>
    simp only [z_chk, decide_eq_true_eq] at hc
    subst hc
    dsimp only [z_ins] at h
    split at h
    · exact lv_pop (va := .int _) hx hb hdg rfl (kk none ls _ m H locs arr h hl hHH)
    · cases h
  case goto off =>
    simp only [z_chk, decide_eq_true_eq] at hc
    obtain ⟨rfl, ht⟩ := hc
    exact lv_goto hx hb hdg ht (kk (some _) ls _ m H locs arr h hl hHH)
  case ifCond cd off =>
    simp only [z_chk, decide_eq_true_eq] at hc
    obtain ⟨rfl, ht⟩ := hc
    dsimp only [z_ins] at h
    split at h
    · cases cd
      case eq =>
        dsimp only [z_br] at h
        exact lv_if_eq hx hb hdg ht (fun q => kk (some _) ls _ m H locs arr (by rw [if_pos q] at h; exact h) hl hHH) (fun q => kk none ls _ m H locs arr (by rw [if_neg q] at h; exact h) hl hHH)
      case ne =>
        dsimp only [z_br] at h
        exact lv_if_ne hx hb hdg ht (fun q => kk (some _) ls _ m H locs arr (by rw [if_neg q] at h; exact h) hl hHH) (fun q => kk none ls _ m H locs arr (by rw [if_pos q] at h; exact h) hl hHH)
      case lt =>
        dsimp only [z_br] at h
        exact lv_if_lt hx hb hdg ht (fun q => kk (some _) ls _ m H locs arr (by rw [if_pos q] at h; exact h) hl hHH) (fun q => kk none ls _ m H locs arr (by rw [if_neg q] at h; exact h) hl hHH)
      case ge =>
        dsimp only [z_br] at h
        exact lv_if_ge hx hb hdg ht (fun q => kk (some _) ls _ m H locs arr (by rw [if_pos q] at h; exact h) hl hHH) (fun q => kk none ls _ m H locs arr (by rw [if_neg q] at h; exact h) hl hHH)
      case gt =>
        dsimp only [z_br] at h
        exact lv_if_gt hx hb hdg ht (fun q => kk (some _) ls _ m H locs arr (by rw [if_pos q] at h; exact h) hl hHH) (fun q => kk none ls _ m H locs arr (by rw [if_neg q] at h; exact h) hl hHH)
      case le =>
        dsimp only [z_br] at h
        exact lv_if_le hx hb hdg ht (fun q => kk (some _) ls _ m H locs arr (by rw [if_pos q] at h; exact h) hl hHH) (fun q => kk none ls _ m H locs arr (by rw [if_neg q] at h; exact h) hl hHH)
    · cases h
  case if_icmp cd off =>
    simp only [z_chk, decide_eq_true_eq] at hc
    obtain ⟨rfl, ht⟩ := hc
    dsimp only [z_ins] at h
    split at h
    · cases cd
      case eq =>
        dsimp only [z_br] at h
        exact lv_icmp_eq hx hb hdg ht (fun q => kk (some _) ls _ m H locs arr (by rw [if_pos q] at h; exact h) hl hHH) (fun q => kk none ls _ m H locs arr (by rw [if_neg q] at h; exact h) hl hHH)
      case ne =>
        dsimp only [z_br] at h
        exact lv_icmp_ne hx hb hdg ht (fun q => kk (some _) ls _ m H locs arr (by rw [if_neg q] at h; exact h) hl hHH) (fun q => kk none ls _ m H locs arr (by rw [if_pos q] at h; exact h) hl hHH)
      case lt =>
        dsimp only [z_br] at h
        exact lv_icmp_lt hx hb hdg ht (fun q => kk (some _) ls _ m H locs arr (by rw [if_pos q] at h; exact h) hl hHH) (fun q => kk none ls _ m H locs arr (by rw [if_neg q] at h; exact h) hl hHH)
      case ge =>
        dsimp only [z_br] at h
        exact lv_icmp_ge hx hb hdg ht (fun q => kk (some _) ls _ m H locs arr (by rw [if_pos q] at h; exact h) hl hHH) (fun q => kk none ls _ m H locs arr (by rw [if_neg q] at h; exact h) hl hHH)
      case gt =>
        dsimp only [z_br] at h
        exact lv_icmp_gt hx hb hdg ht (fun q => kk (some _) ls _ m H locs arr (by rw [if_pos q] at h; exact h) hl hHH) (fun q => kk none ls _ m H locs arr (by rw [if_neg q] at h; exact h) hl hHH)
      case le =>
        dsimp only [z_br] at h
        exact lv_icmp_le hx hb hdg ht (fun q => kk (some _) ls _ m H locs arr (by rw [if_pos q] at h; exact h) hl hHH) (fun q => kk none ls _ m H locs arr (by rw [if_neg q] at h; exact h) hl hHH)
    · cases h
  case tableswitch d lo hi offs =>
    simp only [z_chk, decide_eq_true_eq] at hc
    obtain ⟨hd, h0, h1, h2, h3, h4⟩ := hc
    dsimp only [z_ins] at h
    split at h
    · rename_i x st'
      rw [h3] at h
      have hsz : offs.toList.length = offs.size := Array.length_toList
      rcases z_sw_tl offs.toList lo.toNat h with ⟨j, off, e1, e2, e3⟩ | ⟨e1, e2⟩
      · have hj : j < offs.size := by rw [← hsz]; exact (List.getElem?_eq_some_iff.mp e1).1
        have hxi : x.toInt = lo + j := by
          rw [e2, nI_toInt (by omega)]
          omega
        have hoff := of_decide_eq_true (List.all_eq_true.mp h4 off (List.mem_of_getElem? e1))
        exact lv_tableIn (off := off) (tgt := ((pc : Int) + off).toNat) hx hb hdg (by omega) (by omega) (by rw [show (x.toInt - lo).toNat = j by omega, ← Array.getElem?_toList]; exact e1) (by omega) (kk (some _) ls _ m H locs arr e3 hl hHH)
      · refine lv_tableOut (tgt := lk.getD 0 0) hx hb hdg ?_ hd (kk (some _) ls _ m H locs arr e2 hl hHH)
        by_cases q1 : x.toInt < lo
        · exact Or.inl q1
        · by_cases q2 : hi < x.toInt
          · exact Or.inr q2
          · refine absurd (z_nI_of (n := lo.toNat + (x.toInt - lo).toNat) (by omega) (by omega)) (e1 _ (by omega))
    · cases h
  case lookupswitch d ps =>
    simp only [z_chk, decide_eq_true_eq] at hc
    obtain ⟨hd, h1, h3, h4⟩ := hc
    dsimp only [z_ins] at h
    split at h
    · rename_i x st'
      rw [h3] at h
      obtain ⟨t, e1, e2⟩ := z_sw_ll hd ps.toList h4 h
      exact lv_lookup (tgt := t) hx hb hdg h1 rfl e1 (kk (some _) ls _ m H locs arr e2 hl hHH)
    · cases h
  case getfield idx =>
    simp only [z_chk, Bool.and_eq_true, decide_eq_true_eq] at hc
    obtain ⟨rfl, hc⟩ := hc
    cases hcl : cl[lk.getD 0 0]? with
    | none =>
      rw [hcl] at hc
      cases hc
    | some q =>
      obtain ⟨C, T, N⟩ := q
      rw [hcl] at hc
      simp only [Bool.and_eq_true, decide_eq_true_eq] at hc
      obtain ⟨hkN, hw⟩ := hc
      have hlink := hts _ (z_w_in hw hTb)
      dsimp only [z_ins] at h
      split at h
      · rename_i a st'
        split at h
        · obtain ⟨h1, h⟩ := z_g_some h
          obtain ⟨sl, e1, e2⟩ := z_okp_some h1
          exact va_get hx hb hts (hCK _ _ hcl).1 hown hK hP a (z_rd_at e1) hcl (lk.getD 1 0) hkN hlink (fun _ q => q) (v := .int (m a (lk.getD 1 0))) (by simp only [List.getElem?_mapIdx, e2]; rfl) hdg (kk none ls _ m H locs arr h hl hHH)
        · obtain ⟨h1, h⟩ := z_g_some h
          obtain ⟨sl, e1, e2⟩ := z_okp_some h1
          exact va_get hx hb hts (hCK _ _ hcl).1 hown hK hP a (z_rd_at e1) hcl (lk.getD 1 0) hkN hlink (fun _ q => q) (v := .int (z_b (m a (lk.getD 1 0)))) (by simp only [List.getElem?_mapIdx, e2]; rfl) hdg (kk none ls _ m H locs arr h hl hHH)
        · obtain ⟨rr, h1, h⟩ := Option.bind_eq_some_iff.mp h
          obtain ⟨sl, e1, e2⟩ := z_ref_some h1
          exact va_get hx hb hts (hCK _ _ hcl).1 hown hK hP a (z_rd_at e1) hcl (lk.getD 1 0) hkN hlink (fun _ q => q) (v := .ref (ad rr)) (by simp only [List.getElem?_mapIdx, e2]; rfl) hdg (kk none ls _ m H locs arr h hl hHH)
      · cases h
  case putfield idx =>
    simp only [z_chk, Bool.and_eq_true, decide_eq_true_eq] at hc
    obtain ⟨rfl, hc⟩ := hc
    cases hcl : cl[lk.getD 0 0]? with
    | none =>
      rw [hcl] at hc
      cases hc
    | some q =>
      obtain ⟨C, T, N⟩ := q
      rw [hcl] at hc
      simp only [Bool.and_eq_true, decide_eq_true_eq] at hc
      obtain ⟨⟨hkN, hw⟩, hty⟩ := hc
      have hlink := hts _ (z_w_in hw hTb)
      dsimp only [z_ins] at h
      split at h
      · rename_i x a st'
        split at h
        · rename_i hkd
          obtain ⟨h1, h⟩ := z_g_some h
          obtain ⟨sl, e1, e2⟩ := z_okp_some h1
          have hfin : (T (lk.getD 1 0)).2.2.2 = false := by
            rcases hty with q | q
            · rw [hkd] at q; cases q
            · exact q.1
          have hty : tyq (lk.getD 0 0) (lk.getD 1 0) = .int := by
            rcases hty with q | ⟨-, q | q⟩
            · rw [hkd] at q; cases q
            · exact q.2
            · rw [hkd] at q; cases q.1
          have hlen : lk.getD 1 0 < (sl.mapIdx (fun j s => z_vl ad s (m a j))).length := by
            rw [List.length_mapIdx]
            exact (List.getElem?_eq_some_iff.mp e2).1
          have hset : (z_rd ad cid sh m).set a (ad a, .inr (lk.getD 0 0, (sl.mapIdx (fun j s => z_vl ad s (m a j))).set (lk.getD 1 0) (.int x))) = z_rd ad cid sh (z_up m a (lk.getD 1 0) x) := by
            rw [← z_rd_set e1 (m := m) (fun i hi => z_up_ne hi), z_up_same]
            show _ = (z_rd ad cid sh m).set a (ad a, .inr (lk.getD 0 0, sl.mapIdx (fun j s => z_vl ad s (upd (m a) (lk.getD 1 0) x j))))
            rw [← z_fs_set e2]
            rfl
          refine va_put hx hb hts (hCK _ _ hcl).1 (tyq (lk.getD 0 0)) (hCK _ _ hcl).2.1 (hCK _ _ hcl).2.2 hown hK hP hD hS a (z_rd_at e1) hcl (lk.getD 1 0) hkN hlink (fun _ q => q) hfin (v := .int x) (ty := .int) (by rw [← hty]; exact (hCK _ _ hcl).2.1 _ hkN) (vp_nar_int x) rfl hlen hdg (fun H1 locs1 g1 g2 g3 => ?_)
          rw [show (ad a, (Sum.inr (lk.getD 0 0, (sl.mapIdx (fun j s => z_vl ad s (m a j))).set (lk.getD 1 0) (.int x)) : va_E)) = (ad a, .inr (lk.getD 0 0, (sl.mapIdx (fun j s => z_vl ad s (m a j))).set (lk.getD 1 0) (.int x))) from rfl] at g1 g2
          exact kk none ls _ _ H1 locs1 arr h hl ⟨hset ▸ g1, hset ▸ g2, g3⟩
        · rename_i hkd
          obtain ⟨h1, h⟩ := z_g_some h
          rw [Bool.and_eq_true] at h1
          obtain ⟨h1, hbit⟩ := h1
          obtain ⟨sl, e1, e2⟩ := z_okp_some h1
          have hfin : (T (lk.getD 1 0)).2.2.2 = false := by
            rcases hty with q | q
            · rw [hkd] at q; cases q
            · exact q.1
          have hty : tyq (lk.getD 0 0) (lk.getD 1 0) = .boolean := by
            rcases hty with q | ⟨-, q | q⟩
            · rw [hkd] at q; cases q
            · rw [hkd] at q; cases q.1
            · exact q.2
          have hlen : lk.getD 1 0 < (sl.mapIdx (fun j s => z_vl ad s (m a j))).length := by
            rw [List.length_mapIdx]
            exact (List.getElem?_eq_some_iff.mp e2).1
          have hset : (z_rd ad cid sh m).set a (ad a, .inr (lk.getD 0 0, (sl.mapIdx (fun j s => z_vl ad s (m a j))).set (lk.getD 1 0) (.int x))) = z_rd ad cid sh (z_up m a (lk.getD 1 0) x) := by
            rw [← z_rd_set e1 (m := m) (fun i hi => z_up_ne hi), z_up_same]
            show _ = (z_rd ad cid sh m).set a (ad a, .inr (lk.getD 0 0, sl.mapIdx (fun j s => z_vl ad s (upd (m a) (lk.getD 1 0) x j))))
            rw [← z_fs_set e2]
            show _ = (z_rd ad cid sh m).set a (ad a, .inr (lk.getD 0 0, (sl.mapIdx (fun j s => z_vl ad s (m a j))).set (lk.getD 1 0) (.int (z_b x))))
            rw [z_b_of hbit]
          refine va_put hx hb hts (hCK _ _ hcl).1 (tyq (lk.getD 0 0)) (hCK _ _ hcl).2.1 (hCK _ _ hcl).2.2 hown hK hP hD hS a (z_rd_at e1) hcl (lk.getD 1 0) hkN hlink (fun _ q => q) hfin (v := .int x) (ty := .boolean) (by rw [← hty]; exact (hCK _ _ hcl).2.1 _ hkN) (by rcases z_isb_iff.mp hbit with rfl | rfl <;> decide) (by rcases z_isb_iff.mp hbit with rfl | rfl <;> decide) hlen hdg (fun H1 locs1 g1 g2 g3 => ?_)
          rw [show (ad a, (Sum.inr (lk.getD 0 0, (sl.mapIdx (fun j s => z_vl ad s (m a j))).set (lk.getD 1 0) (.int x)) : va_E)) = (ad a, .inr (lk.getD 0 0, (sl.mapIdx (fun j s => z_vl ad s (m a j))).set (lk.getD 1 0) (.int x))) from rfl] at g1 g2
          exact kk none ls _ _ H1 locs1 arr h hl ⟨hset ▸ g1, hset ▸ g2, g3⟩
        · cases h
      · cases h
  case iaload =>
    simp only [z_chk, decide_eq_true_eq] at hc
    obtain ⟨rfl, hlaw⟩ := hc
    dsimp only [z_ins] at h
    split at h
    · rename_i i a st'
      split at h
      · obtain ⟨h1, h⟩ := z_g_some h
        obtain ⟨n, e1, e2⟩ := z_ina_some h1
        obtain ⟨t0, ht⟩ := (hTY a).1 n 0 e1
        exact va_iald hx hb hK hP a t0 (z_rd_at e1) ht e2 hdg (kk none ls _ m H locs arr h hl hHH)
      · rename_i hne
        obtain ⟨h1, h2⟩ := z_g_some h
        rw [Bool.and_eq_true] at h1
        have ea := Nat.eq_of_beq_eq_true h1.1
        subst ea
        rcases hlaw with q | q
        · exact absurd q (by simpa using hne)
        · obtain ⟨g1, g2, g3, g4⟩ := hSc (Or.inr rfl) q
          show W p l e R s M args below meth c H locs cells slots Q (F0 M pc arr (.int i :: .ref (ad 1000) :: st'.map (z_cv ad)))
          rw [g4]
          exact va_sld hx hb g1 g2 g3 hS (z_in_iff.mp h1.2) hdg (kk none ls _ m H locs arr h2 hl hHH)
    · cases h
  case arraylength =>
    simp only [z_chk, decide_eq_true_eq] at hc
    obtain ⟨rfl, hlaw⟩ := hc
    dsimp only [z_ins] at h
    split at h
    · rename_i a st'
      obtain ⟨h1, h2⟩ := z_g_some h
      have ea := Nat.eq_of_beq_eq_true h1
      subst ea
      obtain ⟨g1, g2, g3, g4⟩ := hSc (Or.inl rfl) hlaw
      show W p l e R s M args below meth c H locs cells slots Q (F0 M pc arr (.ref (ad 1000) :: st'.map (z_cv ad)))
      rw [g4]
      exact va_slen hx hb g1 g2 g3 hS hdg (kk none ls _ m H locs arr h2 hl hHH)
    · cases h
  case iastore =>
    simp only [z_chk, decide_eq_true_eq] at hc
    subst hc
    dsimp only [z_ins] at h
    split at h
    · rename_i x i a st'
      obtain ⟨h1, h⟩ := z_g_some h
      obtain ⟨n, e1, e2⟩ := z_ina_some h1
      obtain ⟨t0, ht⟩ := (hTY a).1 n 0 e1
      refine va_iast hx hb hK hP hD hS a t0 (z_rd_at e1) ht e2 hdg (fun H1 locs1 g1 g2 g3 => ?_)
      have hset : (z_rd ad cid sh m).set a (ad a, .inl (cid a, n, .inl (upd (m a) i.toNatClampNeg x))) = z_rd ad cid sh (z_up m a i.toNatClampNeg x) := by
        rw [← z_rd_set e1 (m := m) (fun i hi => z_up_ne hi), z_up_same]
        rfl
      exact kk none ls _ _ H1 locs1 arr h hl ⟨hset ▸ g1, hset ▸ g2, g3⟩
    · cases h
  case baload =>
    simp only [z_chk, decide_eq_true_eq] at hc
    subst hc
    dsimp only [z_ins] at h
    split at h
    · rename_i i a st'
      obtain ⟨h1, h⟩ := z_g_some h
      obtain ⟨n, e1, e2⟩ := z_ina_some h1
      obtain ⟨t0, ht⟩ := (hTY a).1 n 1 e1
      exact va_zald hx hb hK hP a t0 (z_rd_at e1) ht e2 hdg (kk none ls _ m H locs arr h hl hHH)
    · cases h
  case bastore =>
    simp only [z_chk, decide_eq_true_eq] at hc
    subst hc
    dsimp only [z_ins] at h
    split at h
    · rename_i x i a st'
      obtain ⟨h1, h⟩ := z_g_some h
      rw [Bool.and_eq_true] at h1
      obtain ⟨h1, hbit⟩ := h1
      obtain ⟨n, e1, e2⟩ := z_ina_some h1
      obtain ⟨t0, ht⟩ := (hTY a).1 n 1 e1
      refine va_zast hx hb hK hP hD hS a t0 (z_rd_at e1) ht e2 hdg (fun H1 locs1 g1 g2 g3 => ?_)
      have hset : (z_rd ad cid sh m).set a (ad a, .inl (cid a, n, .inl (upd (fun j => z_b (m a j)) i.toNatClampNeg (vp_nar .boolean x)))) = z_rd ad cid sh (z_up m a i.toNatClampNeg x) := by
        rw [← z_rd_set e1 (m := m) (fun i hi => z_up_ne hi), z_up_same]
        show _ = (z_rd ad cid sh m).set a (ad a, .inl (cid a, n, .inl (fun j => z_b (upd (m a) i.toNatClampNeg x j))))
        congr 6
        funext j
        have hn : vp_nar .boolean x = x := by rcases z_isb_iff.mp hbit with rfl | rfl <;> decide
        unfold upd
        split
        · rw [hn, z_b_of hbit]
        · rfl
      exact kk none ls _ _ H1 locs1 arr h hl ⟨hset ▸ g1, hset ▸ g2, g3⟩
    · cases h
  case aaload =>
    simp only [z_chk, decide_eq_true_eq] at hc
    subst hc
    dsimp only [z_ins] at h
    split at h
    · rename_i i a st'
      obtain ⟨h1, h⟩ := z_g_some h
      rw [Bool.and_eq_true] at h1
      obtain ⟨ci, lq, e1, e2, e3⟩ := z_aff_some h1.1
      have hin := z_in_iff.mp h1.2
      obtain ⟨t0, nm, ht⟩ := (hTY a).2 ci lq e1
      have hlt : i.toNatClampNeg < lk.getD 2 0 := Nat.not_le.mp fun q => hin (Or.inr q)
      refine va_aldq hx hb hK hP a t0 (z_rd_at e1) ht (by rw [e2]; exact hin) hdg ?_
      have hrl : z_rl ad lq i.toNatClampNeg = some (ad (z_ai a (lk.getD 0 0) (lk.getD 1 0) i.toNatClampNeg)) := by
        unfold z_rl
        rw [e3 _ hlt]
      rw [hrl]
      exact kk none ls _ m H locs arr h hl hHH
    · cases h
  all_goals (first | (exact absurd h (by simp [z_ins])) | (dsimp only [z_ins] at h; cases h))
end Zi
end
section
/-! Calls, blocks, methods of the small machine: contracts of the machine's methods. -/
def z_nest (x : Jvm.Cond) : Bool := match x with
  | .methodLinkNest _ _ _ _ => true
  | _ => false
def z_NW (Tb : List Jvm.Cond) (U : State) : Prop := ∀ x ∈ Tb, z_nest x = true → va_Nw x U
theorem z_NW.warm {Tb : List Jvm.Cond} {s U : State} (hW : s.WarmedH U.vm) (h : z_NW Tb s) : z_NW Tb U := by
  intro x hx hn
  have h1 := h x hx hn
  cases x <;> first | exact va_Nw.warmM hW h1 | (exact absurd hn (by simp [z_nest]))
theorem z_NW.same {Tb : List Jvm.Cond} {s U : State} (hv : s.vm = U.vm) (h : z_NW Tb s) : z_NW Tb U := by
  intro x hx hn
  have h1 := h x hx hn
  cases x <;> first | (exact absurd hn (by decide)) | exact va_Nw.same rfl hv h1 | (exact absurd hn (by simp [z_nest]))
def z_wsm (Tb : List Jvm.Cond) (me : z_Me) : List Jvm.Cond := .code me.1 me.2.1 me.2.2.1 me.2.2.2.1 :: Tb.filter goodWord
def z_rm (d : Nat) : Room := { frames := d, cells := 0, slots := 0, locals := 60 * d }
def z_rv (rk : Nat) (r : z_R) : Option Value := match rk with
  | 0 => none
  | 2 => some (.long r.2.1)
  | _ => some (.int r.1)
def z_Pc (D : va_G) (cl : List vw_C) (tys : List (ClassId × FieldType)) (A : Nat → Prop) (ad : Nat → Nat) (cid : Nat → ClassId) (sh : List z_C) (Tb : List Jvm.Cond) (as : List Value) (m : z_M) : Array Value → State → Prop := fun v U => v = (as.map (z_cv ad)).toArray ∧ va_K D cl tys U ∧ va_P D cl (z_rd ad cid sh m) U.heap ∧ va_D A (z_rd ad cid sh m) ∧ z_NW Tb U
def z_Qc (D : va_G) (cl : List vw_C) (A : Nat → Prop) (ad : Nat → Nat) (cid : Nat → ClassId) (sh : List z_C) (rk : Nat) (r : z_R) : Array Value → State → Outcome → State → Prop := fun _ st oc t => oc = .returned (z_rv rk r) ∧ va_P D cl (z_rd ad cid sh r.2.2) t.heap ∧ va_F A st t
theorem z_Pc_blind {D : va_G} {cl : List vw_C} {tys : List (ClassId × FieldType)} {A : Nat → Prop} {ad : Nat → Nat} {cid : Nat → ClassId} {sh : List z_C} {Tb : List Jvm.Cond} {as : List Value} {m : z_M} : FrameBlind (z_Pc D cl tys A ad cid sh Tb as m) := by
  intro a U g mk q
  obtain ⟨q1, q2, q3, q4, q5⟩ := q
  exact ⟨q1, va_K.moved (u := U) (U := U.calling g mk a) (Vm.Alike.refl U.vm) q2, q3, q4, z_NW.same (s := U) rfl q5⟩
theorem z_D_any {A : Nat → Prop} {ad : Nat → Nat} {cid : Nat → ClassId} {sh : List z_C} {m m' : z_M} (h : va_D A (z_rd ad cid sh m)) : va_D A (z_rd ad cid sh m') := by
  have key : ∀ (i : Nat) (q : Nat × va_E), (z_rd ad cid sh m')[i]? = some q → ∃ q', (z_rd ad cid sh m)[i]? = some q' ∧ q'.1 = q.1 := by
    intro i q hq
    simp only [z_rd, List.getElem?_mapIdx, Option.map_eq_some_iff] at hq ⊢
    obtain ⟨x, hx, rfl⟩ := hq
    exact ⟨_, ⟨x, hx, rfl⟩, rfl⟩
  refine ⟨fun i j q1 q2 h1 h2 he => ?_, fun k q hq => ?_⟩
  · obtain ⟨q1', e1, f1⟩ := key i q1 h1
    obtain ⟨q2', e2, f2⟩ := key j q2 h2
    exact h.1 i j q1' q2' e1 e2 (by rw [f1, f2, he])
  · obtain ⟨q', e1, f1⟩ := key k q hq
    rw [← f1]
    exact h.2 k q' e1
theorem z_pop_some : ∀ (n : Nat) (st acc as rest : List Value), z_pop n st acc = some (as, rest) → ∃ bs, as = bs ++ acc ∧ bs.length = n ∧ st = bs.reverse ++ rest
  | 0, st, acc, as, rest, h => by
    simp only [z_pop, Option.some.injEq, Prod.mk.injEq] at h
    exact ⟨[], by simp [h.1], rfl, by simp [h.2]⟩
  | n + 1, [], acc, as, rest, h => by simp [z_pop] at h
  | n + 1, v :: st, acc, as, rest, h => by
    simp only [z_pop] at h
    obtain ⟨bs, e1, e2, e3⟩ := z_pop_some n st (v :: acc) as rest h
    exact ⟨bs ++ [v], by simp [e1], by simp [e2], by simp [e3]⟩
theorem z_cat_map (ad : Nat → Nat) (st : List Value) : ((st.map (z_cv ad)).map fun v => v.category).sum = z_cat st := by
  unfold z_cat
  rw [List.map_map]
  congr 1
  apply List.map_congr_left
  intro v _
  exact z_cv_cat ad v
theorem z_rs_map (ad : Nat → Nat) (rk : Nat) (r : z_R) (rest : List Value) : (z_rv rk r).toList ++ rest.map (z_cv ad) = (z_rs rk r rest).map (z_cv ad) := by
  match rk with
  | 0 => rfl
  | 1 => rfl
  | 2 => rfl
  | n + 3 => rfl
def z_cho : String := "StayingGuests"
def z_chkc (Tb : List Jvm.Cond) (cl : List vw_C) (P : List z_Me) (PX : List (List Nat)) (own : String) (ins : Instr) (len : Nat) (lk : List Nat) (px : List Nat) : Bool := match ins with
  | .invokevirtual i => decide (len = 3) && (match P[lk.getD 0 0]?, PX[lk.getD 0 0]?, cl[lk.getD 3 0]? with
    | some me, some q, some w => z_w Tb (px.getD 0 0) (.methodLink own i me.1) && z_w Tb (q.getD 0 0) (.code me.1 me.2.1 me.2.2.1 me.2.2.2.1) && z_w Tb (q.getD 1 0) (.instanceMethod me.1) && z_w Tb (q.getD 2 0) (.initialized me.1.cls) && z_w Tb (q.getD 3 0) (.selects me.1.cls me.1 me.1) && decide (me.1.cls ≠ "java/lang/invoke/MethodHandle" ∧ me.1.cls ≠ "java/lang/invoke/VarHandle" ∧ (parseMethodDescriptor me.1.desc).map (fun d => d.parameters.length) = some (lk.getD 1 0 - 1) ∧ 1 ≤ lk.getD 1 0 ∧ lk.getD 2 0 = z_rk me.2.2.2.1 ∧ me.2.2.1 ≤ 40 ∧ w.1 = me.1.cls)
    | _, _, _ => false)
  | .invokestatic i => decide (len = 3) && (match lk with
    | [] => z_w Tb (px.getD 0 0) (.methodLink own i arraycopyName) && z_w Tb (px.getD 1 0) (.native arraycopyName) && z_w Tb (px.getD 2 0) (.static arraycopyName) && z_w Tb (px.getD 3 0) (.initialized "java/lang/System")
    | [_] => z_w Tb (px.getD 0 0) (.methodLink own i Lib.Math.max.name) && z_w Tb (px.getD 1 0) (.static Lib.Math.max.name) && z_w Tb (px.getD 2 0) (.initialized "java/lang/Math") && z_w Tb (px.getD 3 0) (.code Lib.Math.max.name Lib.Math.max.code 2 (some .int))
    | lk => (match P[lk.getD 0 0]?, PX[lk.getD 0 0]? with
      | some me, some q => (z_w Tb (px.getD 0 0) (.methodLink own i me.1) || decide (Tb[px.getD 0 0]? = some (.methodLinkNest own i me.1 z_cho))) && z_w Tb (q.getD 0 0) (.code me.1 me.2.1 me.2.2.1 me.2.2.2.1) && z_w Tb (q.getD 1 0) (.static me.1) && z_w Tb (q.getD 2 0) (.initialized me.1.cls) && decide (me.1.cls ≠ "java/lang/invoke/MethodHandle" ∧ me.1.cls ≠ "java/lang/invoke/VarHandle" ∧ (parseMethodDescriptor me.1.desc).map (fun d => d.parameters.length) = some (lk.getD 1 0) ∧ lk.getD 2 0 = z_rk me.2.2.2.1 ∧ me.2.2.1 ≤ 40)
      | _, _ => false))
  | _ => true
def z_C1 (l : Launch) (D : va_G) (cl : List vw_C) (tys : List (ClassId × FieldType)) (A : Nat → Prop) (ad : Nat → Nat) (cid : Nat → ClassId) (sh : List z_C) (Tb : List Jvm.Cond) (P : List z_Me) (d : Nat) (C : Nat → List Value → z_M → Option z_R) : Prop := ∀ (j : Nat) (as : List Value) (m : z_M) (r : z_R), C j as m = some r → ∃ me : z_Me, P[j]? = some me ∧ Met l me.1 (z_wsm Tb me) (z_rm d) (z_Pc D cl tys A ad cid sh Tb as m) (z_Qc D cl A ad cid sh (z_rk me.2.2.2.1) r) 0 0 A
theorem z_good {Tb Ts : List Jvm.Cond} {me : z_Me} {i : Nat} (hw : z_w Tb i (.code me.1 me.2.1 me.2.2.1 me.2.2.2.1) = true) (hTb : ∀ x ∈ Tb, goodWord x = true → x ∈ Ts) : GoodIn Ts (z_wsm Tb me) := by
  intro x hx
  rcases List.mem_cons.mp hx with rfl | hx
  · refine ⟨z_w_in hw hTb, good_of_word ?_⟩
    unfold z_w at hw
    rw [Bool.and_eq_true] at hw
    exact hw.2
  · obtain ⟨h1, h2⟩ := List.mem_filter.mp hx
    exact ⟨hTb x h1 h2, good_of_word h2⟩
section Zb
variable {p : Program} {l : Launch} {e : Env} {R : Room} {s : State} {M : MethodId} {args : Array Value} {below : List Frame} {meth : Method} {c : Code} {cells slots : Nat} {Q : State → Prop}
variable {cc : ByteArray} {own : String} {D : va_G} {cl : List vw_C} {tys : List (ClassId × FieldType)} {cid : Nat → ClassId} {ad : Nat → Nat} {sh : List z_C} {A : Nat → Prop} {H0 : Heap} {Tb Ts : List Jvm.Cond} {tyq : Nat → Nat → FieldType} {L b nL : Nat} {xs : Nat → Int32} {P : List z_Me} {PX : List (List Nat)} {d : Nat} {C : Nat → List Value → z_M → Option z_R}
theorem z_callk {pc : Nat} {arr : Array Slot} {rest st0 : List Value} {a : Array Value} {rk : Nat} {r : z_R} {H : Heap} {locs : List Loc} (hr : va_Run p l e R s M args below meth c H locs cells slots 0 0 (F0 M pc arr st0) rest (z_Qc D cl A ad cid sh rk r a) A) (hS : va_S A H0 H locs)
    (kk : ∀ (H1 : Heap) (locs1 : List Loc), va_P D cl (z_rd ad cid sh r.2.2) H1 → va_S A H0 H1 locs1 → W p l e R s M args below meth c H1 locs1 cells slots Q (F0 M (pc + 3) arr ((z_rv rk r).toList ++ rest))) : W p l e R s M args below meth c H locs cells slots Q (F0 M pc arr st0) := by
  intro T hT X
  obtain ⟨v, st₀, t, T', L', h0, X', hL, e1, e2, ⟨hv, hp, hz, hk⟩, stp⟩ := hr T hT X
  have hv := Outcome.returned.inj hv
  subst hv
  rw [h0] at hz hk
  obtain ⟨t2, a1, b1⟩ := kk T'.heap (locs ++ L') (by rw [e1]; exact hp)
    ⟨Nat.le_trans hS.1 (by rw [e1]; exact hz), fun q h1 h2 => by rw [e1, hk q (Nat.lt_of_lt_of_le h1 hS.1) h2]; exact hS.2.1 q h1 h2, fun q hq => by
      rcases List.mem_append.mp hq with h | h
      · exact hS.2.2 q h
      · exact hL q h⟩ T' rfl X'
  exact ⟨t2, stp t2 a1, b1⟩
set_option maxHeartbeats 4000000 in
set_option maxRecDepth 100000 in
theorem z_stat (hG : z_G p s M args c cc own D cl tys cid sh Tb Ts tyq) (hml : c.maxLocals = nL) (hNW : z_NW Tb s) (hRm : d + 1 ≤ R.frames ∧ 60 * d + 60 ≤ R.locals) (hcs : cells ≤ R.cells ∧ slots ≤ R.slots) (hC1 : z_C1 l D cl tys A ad cid sh Tb P d C)
    {pc idx : Nat} {len : Nat} {lk px : List Nat} (hc : z_chkc Tb cl P PX own (.invokestatic idx) len lk px = true) (hlk : lk ≠ []) (hlk2 : ∀ a, lk ≠ [a]) (hdg : decode cc pc = .ok (.invokestatic idx, len)) {st as rest : List Value} {m : z_M} {r0 : z_R} (hp : z_pop (lk.getD 1 0) st [] = some (as, rest)) (hcat : Nat.ble (z_cat rest) 8 = true) (hc2 : C (lk.getD 0 0) as m = some r0)
    {arr : Array Slot} {H : Heap} {locs : List Loc} (hsz : arr.size = nL) (hH : z_H D cl A H0 ad cid sh m H locs)
    (kk : ∀ (H' : Heap) (locs' : List Loc), z_H D cl A H0 ad cid sh r0.2.2 H' locs' → W p l e R s M args below meth c H' locs' cells slots Q (F0 M (pc + len) arr ((z_rs (lk.getD 2 0) r0 rest).map (z_cv ad)))) : W p l e R s M args below meth c H locs cells slots Q (F0 M pc arr (st.map (z_cv ad))) := by
  obtain ⟨hx, hb, hown, hts, hK, hTb, hCK, hTY⟩ := hG
  obtain ⟨hP, hD, hS⟩ := hH
  obtain ⟨me, hme, hM⟩ := hC1 _ _ _ _ hc2
  obtain ⟨bs, e1, e2, e3⟩ := z_pop_some _ _ _ _ _ hp
  rw [List.append_nil] at e1
  subst e1
  match lk, hlk, hlk2 with
  | [], hlk, _ => exact absurd rfl hlk
  | [a], _, hlk2 => exact absurd rfl (hlk2 a)
  | a :: b' :: lk'', _, _ =>
    simp only [z_chkc, Bool.and_eq_true, decide_eq_true_eq, hme] at hc
    obtain ⟨rfl, hc⟩ := hc
    cases hpx : PX[(a :: b' :: lk'').getD 0 0]? with
    | none =>
      rw [hpx] at hc
      cases hc
    | some q =>
      rw [hpx] at hc
      simp only [Bool.and_eq_true, decide_eq_true_eq, Bool.or_eq_true] at hc
      obtain ⟨⟨⟨⟨hlink, hcode⟩, hstat⟩, hini⟩, hm1, hm2, hpar, hrk, hmx⟩ := hc
      have hGI := z_good hcode hTb
      have hR2 : (z_rm d).frames + 1 ≤ R.frames ∧ 8 + (me.2.2.1 + 11) + (z_rm d).locals ≤ R.locals := ⟨hRm.1, by
        show 8 + (me.2.2.1 + 11) + 60 * d ≤ R.locals
        omega⟩
      have hpre : PreS s H (z_Pc D cl tys A ad cid sh Tb as m) (as.map (z_cv ad)) := ⟨z_Pc_blind, fun U hU hW => ⟨rfl, va_K.moved hW.alike hK, by rw [hU]; exact hP, hD, hNW.warm hW⟩⟩
      have hroom : 2 * (F0 M pc arr (st.map (z_cv ad))).monitorRoom + ((rest.map (z_cv ad)).map fun v => v.category).sum ≤ 8 := lv_room (by rw [z_cat_map]; exact Nat.le_of_ble_eq_true hcat)
      have hstk : (F0 M pc arr (st.map (z_cv ad))).stack = (as.map (z_cv ad)).reverse ++ rest.map (z_cv ad) := by
        show st.map (z_cv ad) = _
        rw [e3, List.map_append, List.map_reverse]
      have hlen : (as.map (z_cv ad)).length = (a :: b' :: lk'').getD 1 0 := by rw [List.length_map, e2]
      have run : va_Run p l e R s M args below meth c H locs cells slots 0 0 (F0 M pc arr (st.map (z_cv ad))) (rest.map (z_cv ad)) (z_Qc D cl A ad cid sh (z_rk me.2.2.2.1) r0 (as.map (z_cv ad)).toArray) A := by
        rcases hlink with hlink | hlink
        · exact va_runS (Ts := Ts) (own := own) (nL := nL) ⟨hx, hb, hml, hown, hts⟩ hM ⟨callB_of ((a :: b' :: lk'').getD 1 0) hts hGI rfl rfl rfl (hts _ (z_w_in hini hTb)) (hts _ (z_w_in hlink hTb)) ⟨hm1, hm2, hpar⟩ hR2, hts _ (z_w_in hstat hTb)⟩ hpre rfl hlen hsz hstk hroom hdg hcs
        · exact va_runSN (Ts := Ts) (own := own) (nL := nL) ⟨hx, hb, hml, hown, hts⟩ hM ⟨va_cnB ((a :: b' :: lk'').getD 1 0) hts hGI rfl rfl rfl (hNW _ (List.mem_of_getElem? hlink) rfl) (hts _ (z_w_in hini hTb)) ⟨hm1, hm2, hpar⟩ hR2, hts _ (z_w_in hstat hTb), trivial⟩ hpre rfl hlen hsz hstk hroom hdg hcs
      refine z_callk run hS (fun H1 locs1 g1 g2 => ?_)
      rw [z_rs_map, ← hrk]
      exact kk H1 locs1 ⟨g1, z_D_any hD, g2⟩
set_option maxHeartbeats 4000000 in
set_option maxRecDepth 100000 in
theorem z_virt (hG : z_G p s M args c cc own D cl tys cid sh Tb Ts tyq) (hml : c.maxLocals = nL) (hNW : z_NW Tb s) (hRm : d + 1 ≤ R.frames ∧ 60 * d + 60 ≤ R.locals) (hcs : cells ≤ R.cells ∧ slots ≤ R.slots) (hC1 : z_C1 l D cl tys A ad cid sh Tb P d C)
    {pc idx : Nat} {len : Nat} {lk px : List Nat} (hc : z_chkc Tb cl P PX own (.invokevirtual idx) len lk px = true) (hdg : decode cc pc = .ok (.invokevirtual idx, len)) {st as rest : List Value} {o : Nat} {m : z_M} {r0 : z_R} (hp : z_pop (lk.getD 1 0) st [] = some (.ref o :: as, rest)) (hcat : Nat.ble (z_cat rest) 8 = true) (hoc : z_okc sh o (lk.getD 3 0) = true) (hc2 : C (lk.getD 0 0) (.ref o :: as) m = some r0)
    {arr : Array Slot} {H : Heap} {locs : List Loc} (hsz : arr.size = nL) (hH : z_H D cl A H0 ad cid sh m H locs)
    (kk : ∀ (H' : Heap) (locs' : List Loc), z_H D cl A H0 ad cid sh r0.2.2 H' locs' → W p l e R s M args below meth c H' locs' cells slots Q (F0 M (pc + len) arr ((z_rs (lk.getD 2 0) r0 rest).map (z_cv ad)))) : W p l e R s M args below meth c H locs cells slots Q (F0 M pc arr (st.map (z_cv ad))) := by
  obtain ⟨hx, hb, hown, hts, hK, hTb, hCK, hTY⟩ := hG
  obtain ⟨hP, hD, hS⟩ := hH
  obtain ⟨me, hme, hM⟩ := hC1 _ _ _ _ hc2
  obtain ⟨bs, e1, e2, e3⟩ := z_pop_some _ _ _ _ _ hp
  rw [List.append_nil] at e1
  subst e1
  simp only [z_chkc, Bool.and_eq_true, decide_eq_true_eq, hme] at hc
  obtain ⟨rfl, hc⟩ := hc
  cases hpx : PX[lk.getD 0 0]? with
  | none =>
    rw [hpx] at hc
    cases hc
  | some q =>
    cases hcw : cl[lk.getD 3 0]? with
    | none =>
      rw [hpx, hcw] at hc
      cases hc
    | some w =>
      rw [hpx, hcw] at hc
      simp only [Bool.and_eq_true, decide_eq_true_eq] at hc
      obtain ⟨⟨⟨⟨⟨hlink, hcode⟩, hinst⟩, hini⟩, hsel⟩, hm1, hm2, hpar, hna, hrk, hmx, hwc⟩ := hc
      have hGI := z_good hcode hTb
      have hR2 : (z_rm d).frames + 1 ≤ R.frames ∧ 8 + (me.2.2.1 + 11) + (z_rm d).locals ≤ R.locals := ⟨hRm.1, by
        show 8 + (me.2.2.1 + 11) + 60 * d ≤ R.locals
        omega⟩
      obtain ⟨sl, hso⟩ := z_okc_some hoc
      have hrec := va_recv hK hP hcw (z_rd_at hso)
      rw [hwc] at hrec
      have hpre : PreV s H me.1.cls (ad o) (z_Pc D cl tys A ad cid sh Tb (.ref o :: as) m) (as.map (z_cv ad)) := ⟨z_Pc_blind, hrec, fun U hU hW => ⟨rfl, va_K.moved hW.alike hK, by rw [hU]; exact hP, hD, hNW.warm hW⟩⟩
      have hroom : 2 * (F0 M pc arr (st.map (z_cv ad))).monitorRoom + ((rest.map (z_cv ad)).map fun v => v.category).sum ≤ 8 := lv_room (by rw [z_cat_map]; exact Nat.le_of_ble_eq_true hcat)
      have hstk : (F0 M pc arr (st.map (z_cv ad))).stack = (as.map (z_cv ad)).reverse ++ .ref (ad o) :: rest.map (z_cv ad) := by
        show st.map (z_cv ad) = _
        rw [e3, List.map_append, List.map_reverse, List.map_cons, List.reverse_cons, List.append_assoc]
        rfl
      have hlen : (as.map (z_cv ad)).length = lk.getD 1 0 - 1 := by
        rw [List.length_map]
        rw [List.length_cons] at e2
        omega
      have run : va_Run p l e R s M args below meth c H locs cells slots 0 0 (F0 M pc arr (st.map (z_cv ad))) (rest.map (z_cv ad)) (z_Qc D cl A ad cid sh (z_rk me.2.2.2.1) r0 (Value.ref (ad o) :: as.map (z_cv ad)).toArray) A :=
        va_runV (Ts := Ts) (own := own) (nL := nL) ⟨hx, hb, hml, hown, hts⟩ hM ⟨callB_of (lk.getD 1 0 - 1) hts hGI rfl rfl rfl (hts _ (z_w_in hini hTb)) (hts _ (z_w_in hlink hTb)) ⟨hm1, hm2, hpar⟩ hR2, hts _ (z_w_in hinst hTb), hts _ (z_w_in hsel hTb)⟩ hpre rfl hlen hsz hstk hroom hdg hcs
      refine z_callk run hS (fun H1 locs1 g1 g2 => ?_)
      rw [z_rs_map, ← hrk]
      exact kk H1 locs1 ⟨g1, z_D_any hD, g2⟩
end Zb
end
section
def z_chn : List z_En → Bool
  | e :: f :: r => Nat.beq f.1 (e.1 + e.2.2.1) && z_chn (f :: r)
  | _ => true
theorem z_chn_tail {e : z_En} {r : List z_En} (h : z_chn (e :: r) = true) : z_chn r = true := by
  cases r with
  | nil => rfl
  | cons f r =>
    simp only [z_chn, Bool.and_eq_true] at h
    exact h.2
theorem z_chn_suf {cs code : List z_En} (hs : cs <:+ code) (h : z_chn code = true) : z_chn cs = true := by
  obtain ⟨pre, rfl⟩ := hs
  induction pre with
  | nil => exact h
  | cons a pre ih => exact ih (z_chn_tail h)
theorem z_at_suf : ∀ (code : List z_En) (t : Nat), z_at code t <:+ code
  | [], _ => List.suffix_refl _
  | e :: r, t => by
    unfold z_at
    split
    · exact List.suffix_refl _
    · exact (z_at_suf r t).trans (List.suffix_cons e r)
theorem z_at_pc : ∀ (code : List z_En) (t : Nat) (e : z_En) (cs : List z_En), z_at code t = e :: cs → e.1 = t
  | [], _, _, _, h => by simp [z_at] at h
  | f :: r, t, e, cs, h => by
    unfold z_at at h
    split at h
    · rename_i hb
      cases h
      exact Nat.eq_of_beq_eq_true hb
    · exact z_at_pc r t e cs h
theorem z_copy_some {sh : List z_C} {a0 a : Nat} {sp dp n : Int32} (h : z_copy sh a0 a sp dp n = true) : ∃ n0 n1, sh[a0]? = some (.inr (.inl (0, n0))) ∧ sh[a]? = some (.inr (.inl (0, n1))) ∧ ¬ sp < 0 ∧ ¬ dp < 0 ∧ ¬ n < 0 ∧ sp.toNatClampNeg + n.toNatClampNeg ≤ n0 ∧ dp.toNatClampNeg + n.toNatClampNeg ≤ n1 := by
  unfold z_copy at h
  split at h
  · rename_i n0 n1 h1 h2
    simp only [Bool.and_eq_true, decide_eq_true_eq] at h
    exact ⟨n0, n1, h1, h2, h.1.1.1.1, h.1.1.1.2, h.1.1.2, Nat.le_of_ble_eq_true h.1.2, Nat.le_of_ble_eq_true h.2⟩
  · cases h
section Zc
variable {p : Program} {l : Launch} {e : Env} {R : Room} {s : State} {M : MethodId} {args : Array Value} {below : List Frame} {meth : Method} {c : Code} {cells slots : Nat} {Q : State → Prop}
variable {cc : ByteArray} {own : String} {D : va_G} {cl : List vw_C} {tys : List (ClassId × FieldType)} {cid : Nat → ClassId} {ad : Nat → Nat} {sh : List z_C} {A : Nat → Prop} {H0 : Heap} {Tb Ts : List Jvm.Cond} {tyq : Nat → Nat → FieldType} {L b nL : Nat} {xs : Nat → Int32} {P : List z_Me} {PX : List (List Nat)} {d : Nat} {C : Nat → List Value → z_M → Option z_R}
/-- what a method's return asks -/
def z_Ret (p : Program) (l : Launch) (e : Env) (R : Room) (s : State) (M : MethodId) (args : Array Value) (below : List Frame) (meth : Method) (c : Code) (cells slots : Nat) (Q : State → Prop) (cc : ByteArray) (D : va_G) (cl : List vw_C) (A : Nat → Prop) (H0 : Heap) (ad : Nat → Nat) (cid : Nat → ClassId) (sh : List z_C) (rk : Nat) (r : z_R) : Prop :=
  (∀ (pc : Nat) (v : Int32) (m : z_M) (H : Heap) (locs : List Loc) (arr : Array Slot), decode cc pc = .ok (.ireturn, 1) → (rk = 1 ∨ rk = 3 ∧ z_isb v = true) → r = (v, 0, m) → z_H D cl A H0 ad cid sh m H locs → W p l e R s M args below meth c H locs cells slots Q (F0 M pc arr [.int v])) ∧
  (∀ (pc : Nat) (v : Int64) (m : z_M) (H : Heap) (locs : List Loc) (arr : Array Slot), decode cc pc = .ok (.lreturn, 1) → rk = 2 → r = (0, v, m) → z_H D cl A H0 ad cid sh m H locs → W p l e R s M args below meth c H locs cells slots Q (F0 M pc arr [.long v])) ∧
  (∀ (pc : Nat) (m : z_M) (H : Heap) (locs : List Loc) (arr : Array Slot), decode cc pc = .ok (.return_, 1) → rk = 0 → r = (0, 0, m) → z_H D cl A H0 ad cid sh m H locs → W p l e R s M args below meth c H locs cells slots Q (F0 M pc arr []))
def z_ech (Tb : List Jvm.Cond) (cl : List vw_C) (tyq : Nat → Nat → FieldType) (P : List z_Me) (PX : List (List Nat)) (own : String) (cc : ByteArray) (e : z_En) : Prop := z_chk Tb cl tyq own e.1 e.2.1 e.2.2.1 e.2.2.2.1 e.2.2.2.2.1 e.2.2.2.2.2 = true ∧ z_chkc Tb cl P PX own e.2.1 e.2.2.1 e.2.2.2.1 e.2.2.2.2.2 = true ∧ decode cc e.1 = .ok (e.2.1, e.2.2.1)
set_option maxHeartbeats 4000000 in
set_option maxRecDepth 100000 in
theorem z_blk_ok (hG : z_G p s M args c cc own D cl tys cid sh Tb Ts tyq) (hSc : z_Sc own A s H0 ad b L xs) (hml : c.maxLocals = nL) (hNW : z_NW Tb s) (hRm : d + 1 ≤ R.frames ∧ 60 * d + 60 ≤ R.locals) (hcs : cells ≤ R.cells ∧ slots ≤ R.slots) (hC1 : z_C1 l D cl tys A ad cid sh Tb P d C)
    {code : List z_En} {hd : List (Nat × List Bool)} {rk : Nat} {K : Nat → z_V → List Value → z_M → Option z_R} {r : z_R} (hE : ∀ x ∈ code, z_ech Tb cl tyq P PX own cc x) (hch : z_chn code = true)
    (hK : ∀ (pc : Nat) (ls : z_V) (st : List Value) (m : z_M) (arr : Array Slot) (H : Heap) (locs : List Loc), K pc ls st m = some r → z_L ad ls arr nL → z_H D cl A H0 ad cid sh m H locs → W p l e R s M args below meth c H locs cells slots Q (F0 M pc arr (st.map (z_cv ad))))
    (hRet : z_Ret p l e R s M args below meth c cells slots Q cc D cl A H0 ad cid sh rk r) :
    ∀ (n : Nat) (cs : List z_En) (ls : z_V) (st : List Value) (m : z_M) (arr : Array Slot) (H : Heap) (locs : List Loc) (pc : Nat), cs <:+ code → (∀ x cs', cs = x :: cs' → x.1 = pc) → z_blk sh L xs code hd rk K C n cs ls st m = some r → z_L ad ls arr nL → z_H D cl A H0 ad cid sh m H locs → W p l e R s M args below meth c H locs cells slots Q (F0 M pc arr (st.map (z_cv ad))) := by
  intro n
  induction n with
  | zero =>
    intro cs ls st m arr H locs pc _ _ h
    simp [z_blk] at h
  | succ n ih =>
    intro cs ls st m arr H locs pc hsuf hpc h hl hH
    cases cs with
    | nil => simp [z_blk] at h
    | cons x cs =>
      obtain ⟨pc', ins, len, lk, cn, px⟩ := x
      obtain rfl : pc' = pc := hpc _ _ rfl
      obtain ⟨hc1, hc2, hdg⟩ := hE _ (hsuf.subset List.mem_cons_self)
      have hsuf' : cs <:+ code := (List.suffix_cons _ cs).trans hsuf
      have hnext : ∀ y cs', cs = y :: cs' → y.1 = pc' + len := by
        intro y cs' hy
        subst hy
        have h1 := z_chn_suf hsuf hch
        simp only [z_chn, Bool.and_eq_true] at h1
        exact Nat.eq_of_beq_eq_true h1.1
      have hnx : ∀ (o : Option Nat) (ls' : z_V) (st' : List Value) (m' : z_M) (H' : Heap) (locs' : List Loc) (arr' : Array Slot), (match o with
          | none => (match z_hd hd (pc' + len) with
            | some mq => K (pc' + len) (z_mask mq ls') st' m'
            | none => z_blk sh L xs code hd rk K C n cs ls' st' m')
          | some t => (match z_hd hd t with
            | some mq => K t (z_mask mq ls') st' m'
            | none => z_blk sh L xs code hd rk K C n (z_at code t) ls' st' m')) = some r → z_L ad ls' arr' nL → z_H D cl A H0 ad cid sh m' H' locs' → W p l e R s M args below meth c H' locs' cells slots Q (F0 M (o.getD (pc' + len)) arr' (st'.map (z_cv ad))) := by
        intro o ls' st' m' H' locs' arr' hk hl' hH'
        cases o with
        | none =>
          dsimp only at hk
          split at hk
          · exact hK _ _ _ _ _ _ _ hk (hl'.mask _) hH'
          · exact ih cs ls' st' m' arr' H' locs' (pc' + len) hsuf' hnext hk hl' hH'
        | some t =>
          dsimp only at hk
          split at hk
          · exact hK _ _ _ _ _ _ _ hk (hl'.mask _) hH'
          · exact ih (z_at code t) ls' st' m' arr' H' locs' t (z_at_suf code t) (fun y cs' hy => z_at_pc code t y cs' hy) hk hl' hH'
      dsimp only [z_ech] at hc1 hc2 hdg
      unfold z_blk at h
      dsimp only at h
      split at h
      · -- ireturn
        have hlen : len = 1 := by simpa [z_chk] using hc1
        subst hlen
        split at h
        · split at h
          · exact hRet.1 _ _ m H locs arr hdg (Or.inl rfl) (Option.some.inj h).symm hH
          · obtain ⟨g1, g2⟩ := z_g_some h
            exact hRet.1 _ _ m H locs arr hdg (Or.inr ⟨rfl, g1⟩) (Option.some.inj g2).symm hH
          · cases h
        · cases h
      · have hlen : len = 1 := by simpa [z_chk] using hc1
        subst hlen
        split at h
        · split at h
          · exact hRet.2.1 _ _ m H locs arr hdg rfl (Option.some.inj h).symm hH
          · cases h
        · cases h
      · have hlen : len = 1 := by simpa [z_chk] using hc1
        subst hlen
        split at h
        · split at h
          · exact hRet.2.2 _ m H locs arr hdg rfl (Option.some.inj h).symm hH
          · cases h
        · cases h
      · -- invokevirtual
        split at h
        · rename_i a as rest hp
          obtain ⟨g1, h⟩ := z_g_some h
          rw [Bool.and_eq_true] at g1
          obtain ⟨r0, g2, h⟩ := Option.bind_eq_some_iff.mp h
          exact z_virt hG hml hNW hRm hcs hC1 hc2 hdg hp g1.1 g1.2 g2 hl.2.1 hH (fun H' locs' hH' => hnx none ls _ _ H' locs' arr h hl hH')
        · cases h
      · -- invokestatic
        split at h
        · split at h
          · rename_i n' dp a sp a0 rest
            obtain ⟨g1, h⟩ := z_g_some h
            rw [Bool.and_eq_true] at g1
            obtain ⟨n0, n1, e1, e2, e3, e4, e5, e6, e7⟩ := z_copy_some g1.2
            simp only [z_chkc, Bool.and_eq_true, decide_eq_true_eq] at hc2
            obtain ⟨rfl, ⟨⟨q1, q2⟩, q3⟩, q4⟩ := hc2
            have hGG := hG
            obtain ⟨hx, hb, hown, hts, hKK, hTb, hCK, hTY⟩ := hG
            obtain ⟨hP, hD, hS⟩ := hH
            obtain ⟨t0, ht0⟩ := (hTY a0).1 n0 0 e1
            obtain ⟨t1, ht1⟩ := (hTY a).1 n1 0 e2
            have hnw : nativeFrameWords "java/lang/System" "arraycopy" 5 ≤ 30 := by decide +kernel
            have hcat := Nat.le_of_ble_eq_true g1.1
            have hrest := z_cat_map ad rest
            refine va_copyi hx hb (hml.trans hl.2.1.symm) hown (hts _ (z_w_in q1 hTb)) (hts _ (z_w_in q2 hTb)) (hts _ (z_w_in q3 hTb)) (hts _ (z_w_in q4 hTb)) hKK hP hD hS a0 a t0 t1 (z_rd_at e1) (z_rd_at e2) ht0 ht1 rfl e3 e4 e5 e6 e7 (fun _ _ => rfl) (by omega) (by rw [hrest]; omega) hdg (fun H1 locs1 k1 k2 k3 => ?_)
            have hset : (z_rd ad cid sh m).set a (ad a, .inl (cid a, n1, .inl (va_cpy (m a0) (m a) sp.toNatClampNeg dp.toNatClampNeg n'.toNatClampNeg))) = z_rd ad cid sh (fun q => if q = a then va_cpy (m a0) (m a) sp.toNatClampNeg dp.toNatClampNeg n'.toNatClampNeg else m q) := by
              rw [← z_rd_set e2 (m := m) (fun i hi => if_neg hi), if_pos rfl]
              rfl
            exact hnx none ls _ _ H1 locs1 arr h hl ⟨hset ▸ k1, hset ▸ k2, k3⟩
          · cases h
        · split at h
          · rename_i y x rest
            obtain ⟨g1, h⟩ := z_g_some h
            simp only [z_chkc, Bool.and_eq_true, decide_eq_true_eq] at hc2
            obtain ⟨rfl, ⟨⟨q1, q2⟩, q3⟩, q4⟩ := hc2
            obtain ⟨hx, hb, hown, hts, hKK, hTb, hCK, hTY⟩ := hG
            have hcat := Nat.le_of_ble_eq_true g1
            have hrest := z_cat_map ad rest
            exact va_mmax hx hb (hml.trans hl.2.1.symm) hown (hts _ (z_w_in q1 hTb)) (hts _ (z_w_in q2 hTb)) (hts _ (z_w_in q3 hTb)) (hts _ (z_w_in q4 hTb)) (by omega) (by rw [hrest]; omega) hcs.1 hcs.2 hdg (hnx none ls _ _ H locs arr h hl hH)
          · cases h
        · rename_i hlk hlk2
          split at h
          · rename_i as rest hp
            obtain ⟨g1, h⟩ := z_g_some h
            obtain ⟨r0, g2, h⟩ := Option.bind_eq_some_iff.mp h
            exact z_stat hG hml hNW hRm hcs hC1 hc2 (fun q => hlk q) (fun a q => hlk2 a q) hdg hp g1 g2 hl.2.1 hH (fun H' locs' hH' => hnx none ls _ _ H' locs' arr h hl hH')
          · cases h
      · exact z_ins_ok hG (fun _ => hSc) hc1 hdg h hl hH hnx
end Zc
end
section
/-! Methods: what the small machine answers, the machine answers. -/
def z_mok (Tb : List Jvm.Cond) (cl : List vw_C) (tyq : Nat → Nat → FieldType) (P : List z_Me) (PX : List (List Nat)) (me : z_Me) : Prop :=
  plainName me.1.cls = true ∧ (∀ x ∈ me.2.2.2.2.1, z_ech Tb cl tyq P PX me.1.cls me.2.1 x) ∧ z_chn me.2.2.2.2.1 = true ∧ (me.2.2.2.1 = none ∨ me.2.2.2.1 = some .int ∨ me.2.2.2.1 = some .long ∨ me.2.2.2.1 = some .boolean) ∧ me.1.cls ≠ z_lawn
section Zd
variable {p : Program} {l : Launch} {e : Env} {R : Room} {s : State} {M : MethodId} {args : Array Value} {below : List Frame} {meth : Method} {c : Code} {cells slots : Nat} {Q : State → Prop}
variable {own : String} {D : va_G} {cl : List vw_C} {tys : List (ClassId × FieldType)} {cid : Nat → ClassId} {ad : Nat → Nat} {sh : List z_C} {A : Nat → Prop} {H0 : Heap} {Tb Ts : List Jvm.Cond} {tyq : Nat → Nat → FieldType} {L b nL : Nat} {xs : Nat → Int32} {P : List z_Me} {PX : List (List Nat)} {d : Nat} {C : Nat → List Value → z_M → Option z_R}
theorem z_lp_ok {me : z_Me} (hG : z_G p s M args c me.2.1 me.1.cls D cl tys cid sh Tb Ts tyq) (hSc : z_Sc me.1.cls A s H0 ad b L xs) (hml : c.maxLocals = nL) (hNW : z_NW Tb s) (hRm : d + 1 ≤ R.frames ∧ 60 * d + 60 ≤ R.locals) (hcs : cells ≤ R.cells ∧ slots ≤ R.slots) (hC1 : z_C1 l D cl tys A ad cid sh Tb P d C)
    (hE : ∀ x ∈ me.2.2.2.2.1, z_ech Tb cl tyq P PX me.1.cls me.2.1 x) (hch : z_chn me.2.2.2.2.1 = true) {r : z_R} (hRet : z_Ret p l e R s M args below meth c cells slots Q me.2.1 D cl A H0 ad cid sh (z_rk me.2.2.2.1) r) :
    ∀ (F pc : Nat) (ls : z_V) (st : List Value) (m : z_M) (arr : Array Slot) (H : Heap) (locs : List Loc), z_lp sh L xs C me F pc ls st m = some r → z_L ad ls arr nL → z_H D cl A H0 ad cid sh m H locs → W p l e R s M args below meth c H locs cells slots Q (F0 M pc arr (st.map (z_cv ad))) := by
  intro F
  induction F with
  | zero =>
    intro pc ls st m arr H locs h
    simp [z_lp] at h
  | succ F ih =>
    intro pc ls st m arr H locs h hl hH
    unfold z_lp at h
    exact z_blk_ok hG hSc hml hNW hRm hcs hC1 hE hch (fun pc ls st m arr H locs hk hl hH => ih pc ls st m arr H locs hk hl hH) hRet 1000 _ ls st m arr H locs pc (z_at_suf _ _) (fun y cs' hy => z_at_pc _ _ y cs' hy) h hl hH
theorem z_loc_get : ∀ (as : List Value) (n i0 i : Nat) (v : Value), (z_loc n as)[i]? = some (some v) → (i0 + i, z_cv ad v) ∈ lv_args i0 (as.map (z_cv ad))
  | [], n, i0, i, v, h => by
    simp only [z_loc] at h
    have := List.mem_of_getElem? h
    simp at this
  | w :: r, n, i0, i, v, h => by
    have two : ∀ w : Value, w.category = 2 → (some w :: none :: z_loc (n - 2) r)[i]? = some (some v) → (i0 + i, z_cv ad v) ∈ lv_args i0 ((w :: r).map (z_cv ad)) := by
      intro w hw h
      simp only [List.map_cons, lv_args, z_cv_cat, hw, if_true]
      match i, h with
      | 0, h =>
        simp at h
        subst h
        exact List.mem_cons_self
      | 1, h => simp at h
      | i + 2, h =>
        have := z_loc_get r (n - 2) (i0 + 2) i v (by simpa using h)
        rw [show i0 + 2 + i = i0 + (i + 2) by omega] at this
        exact List.mem_cons_of_mem _ this
    have one : w.category = 1 → (some w :: z_loc (n - 1) r)[i]? = some (some v) → (i0 + i, z_cv ad v) ∈ lv_args i0 ((w :: r).map (z_cv ad)) := by
      intro hw h
      simp only [List.map_cons, lv_args, z_cv_cat, hw]
      match i, h with
      | 0, h =>
        simp at h
        subst h
        exact List.mem_cons_self
      | i + 1, h =>
        have := z_loc_get r (n - 1) (i0 + 1) i v (by simpa using h)
        rw [show i0 + 1 + i = i0 + (i + 1) by omega] at this
        exact List.mem_cons_of_mem _ this
    cases w <;> first | exact one rfl h | exact two _ rfl h
theorem z_loc_len : ∀ (as : List Value) (n : Nat), z_cat as ≤ n → (z_loc n as).length = n
  | [], n, _ => by simp [z_loc]
  | w :: r, n, h => by
    have hc : z_cat (w :: r) = w.category + z_cat r := by simp [z_cat]
    rw [hc] at h
    have h1 := z_loc_len r (n - 1)
    have h2 := z_loc_len r (n - 2)
    cases w <;> simp only [Value.category] at h <;> simp only [z_loc, List.length_cons] <;> first | (rw [h1 (by omega)]; omega) | (rw [h2 (by omega)]; omega)
theorem z_sl_len : ∀ as : List Value, (lg_sl as).length = z_cat as
  | [] => rfl
  | w :: r => by
    have h := z_sl_len r
    simp only [lg_sl, List.flatMap_cons, List.length_append] at h ⊢
    rw [h]
    have hc : z_cat (w :: r) = w.category + z_cat r := by simp [z_cat]
    rw [hc]
    rcases lv_cat w with q | q <;> simp [q]
theorem z_L_entry {n : Nat} {as : List Value} (h : z_cat as ≤ n) : z_L ad (z_loc n as) ((lg_sl (as.map (z_cv ad)) ++ List.replicate (n - (lg_sl (as.map (z_cv ad))).length) Slot.unset).toArray) n := by
  have hc : z_cat (as.map (z_cv ad)) = z_cat as := z_cat_map ad as
  have hl := lv_entry (as.map (z_cv ad)) (n := n) (by rw [z_sl_len, hc]; exact h)
  refine ⟨z_loc_len as n h, hl.1, hl.2.1, fun i v hv => ?_⟩
  have := z_loc_get (ad := ad) as n 0 i v hv
  rw [Nat.zero_add] at this
  exact hl.2.2 _ this
set_option maxHeartbeats 4000000 in
theorem z_go_ok (hM : ∀ (j : Nat) (me : z_Me), P[j]? = some me → z_mok Tb cl tyq P PX me) (hCK : z_CK cl (Tb.filter goodWord) tyq) (hTY : z_TY tys cid sh) :
    ∀ d : Nat, z_C1 l D cl tys A ad cid sh Tb P d (z_go sh P d) := by
  intro d
  induction d with
  | zero =>
    intro j as m r h
    simp [z_go] at h
  | succ d ih =>
    intro j as m r h
    unfold z_go at h
    split at h
    · rename_i me hme
      obtain ⟨g1, h⟩ := z_g_some h
      refine ⟨me, hme, ?_⟩
      obtain ⟨hpl, hE, hch, hret, hlaw⟩ := hM j me hme
      refine Met.ofW (cc := me.2.1) (maxL := me.2.2.1) (ret := me.2.2.2.1) hpl rfl ?_
      intro p e s M args below meth c s₁ B hml hv
      obtain ⟨rfl, hK, hP, hD, hNW⟩ := hv
      have hts := atoms_spec (ws := z_wsm Tb me) B.pre
      have hown : s.vm.findClass me.1.cls = some M.cls := findClass_of_methodNamed B.named
      have hTb : ∀ x ∈ Tb, goodWord x = true → x ∈ z_wsm Tb me := fun x hx hg => List.mem_cons_of_mem _ (List.mem_filter.mpr ⟨hx, hg⟩)
      have hG : z_G p s M ((as.map (z_cv ad)).toArray) c me.2.1 me.1.cls D cl tys cid sh Tb (z_wsm Tb me) tyq := ⟨B.exec, B.bytes, hown, hts, hK, hTb, fun ci q hq => ⟨fun x hx => List.mem_cons_of_mem _ ((hCK ci q hq).1 x hx), (hCK ci q hq).2⟩, hTY⟩
      have hlocks := B.notSynchronized
      have hr := B.returns
      rw [lg_entry_eq]
      have hRet : z_Ret p l e (headSpec (z_wsm Tb me) (z_rm (d + 1))).room s M ((as.map (z_cv ad)).toArray) below meth c 0 0 (MQ below (z_Qc D cl A ad cid sh (z_rk me.2.2.2.1) r) ((as.map (z_cv ad)).toArray) s 0 0 A) me.2.1 D cl A s.heap ad cid sh (z_rk me.2.2.2.1) r := by
        refine ⟨fun pc v m' H locs arr hdg hk hrr hH => ?_, fun pc v m' H locs arr hdg hk hrr hH => ?_, fun pc m' H locs arr hdg hk hrr hH => ?_⟩
        · subst hrr
          rcases hret with q | q | q | q
          · rw [q] at hk
            rcases hk with hk | hk
            · exact absurd hk (by decide)
            · exact absurd hk.1 (by decide)
          · rw [q]
            exact W.iret B.exec B.bytes (by rw [hr, q]) (fun t ht hW => ⟨rfl, by rw [ht]; exact hH.1, hH.2.2.F ht⟩) hH.2.2.2.2 hdg
          · rw [q] at hk
            rcases hk with hk | hk
            · exact absurd hk (by decide)
            · exact absurd hk.1 (by decide)
          · rw [q] at hk
            rcases hk with hk | hk
            · exact absurd hk (by decide)
            · rw [q]
              exact W.zret (ty := .boolean) B.exec B.bytes (by rw [hr, q]) (by rcases z_isb_iff.mp hk.2 with rfl | rfl <;> decide) (fun t ht hW => ⟨rfl, by rw [ht]; exact hH.1, hH.2.2.F ht⟩) hH.2.2.2.2 hdg
        · subst hrr
          rcases hret with q | q | q | q
          · rw [q] at hk
            exact absurd hk (by decide)
          · rw [q] at hk
            exact absurd hk (by decide)
          · rw [q]
            exact W.lret B.exec B.bytes (by rw [hr, q]) (fun t ht hW => ⟨rfl, by rw [ht]; exact hH.1, hH.2.2.F ht⟩) hH.2.2.2.2 hdg
          · rw [q] at hk
            exact absurd hk (by decide)
        · subst hrr
          rcases hret with q | q | q | q
          · rw [q]
            exact W.vret B.exec B.bytes (by rw [hr, q]) (fun t ht hW => ⟨rfl, by rw [ht]; exact hH.1, hH.2.2.F ht⟩) hH.2.2.2.2 hdg
          · rw [q] at hk
            exact absurd hk (by decide)
          · rw [q] at hk
            exact absurd hk (by decide)
          · rw [q] at hk
            exact absurd hk (by decide)
      exact z_lp_ok (b := 0) (st := []) hG (fun q => absurd q hlaw) hml hNW ⟨Nat.le_refl _, by show 60 * d + 60 ≤ 60 * (d + 1); omega⟩ ⟨Nat.zero_le _, Nat.zero_le _⟩ ih hE hch hRet z_F 0 _ m _ s.heap [] h (z_L_entry (Nat.le_of_ble_eq_true g1)) ⟨hP, hD, va_S.rf⟩
    · cases h
end Zd
end
section
/-! The makers: a machine whose shape grows. -/
abbrev z_S : Type := List z_C × z_M
def z_dsl (tyq : Nat → Nat → FieldType) (ci N : Nat) : List (Nat ⊕ Option Nat) := (List.range N).map (fun k => match tyq ci k with
  | .int => .inl 0
  | .boolean => .inl 1
  | _ => .inr none)
def z_rok (n : Nat) (v : Value) : Bool := match v with
  | .ref a => Nat.blt a n || Nat.beq a 1000
  | _ => true
def z_lok (n : Nat) (ls : z_V) : Bool := ls.all (fun o => match o with
  | some v => z_rok n v
  | none => true)
def z_crf (n : Nat) (q : z_C) : Bool := match q with
  | .inl (_, sl) => sl.all (fun s => match s with
    | .inr (some r) => Nat.blt r n
    | _ => true)
  | .inr (.inr (_, l)) => l.all (fun o => match o with
    | some r => Nat.blt r n
    | none => true)
  | _ => true
def z_clr (m : z_M) (n : Nat) : z_M := fun a => if a = n then (fun _ => 0) else m a
def z_fty (cl : List vw_C) (t : Nat) : FieldType := match t with
  | 0 => .int
  | 1 => .boolean
  | t + 2 => .object ((cl[t]?.map (fun q => q.1)).getD "")
def z_alo (n : Nat) (ls : z_V) (st : List Value) (sh : List z_C) : Bool := z_lok n ls && st.all (z_rok n) && sh.all (z_crf n) && Nat.blt n 1000
def z_ablk (L : Nat) (xs : Nat → Int32) (cl : List vw_C) (tyq : Nat → Nat → FieldType) (FS : List Nat) (code : List z_En) (stop : Nat) (C : Nat → List Value → z_S → Option z_S) : Nat → List z_En → z_V → List Value → z_S → Option (z_V × List Value × z_S)
  | 0, _, _, _, _ => none
  | _ + 1, [], _, _, _ => none
  | n + 1, e :: cs, ls, st, S => match Nat.beq e.1 stop with
    | true => some (ls, st, S)
    | false => match e.2.1 with
      | .new _ => (match cl[e.2.2.2.1.getD 0 0]? with
        | some q => z_g (z_alo S.1.length ls st S.1) (z_ablk L xs cl tyq FS code stop C n cs ls (.ref S.1.length :: st) (S.1 ++ [.inl (e.2.2.2.1.getD 0 0, z_dsl tyq (e.2.2.2.1.getD 0 0) q.2.2)], z_clr S.2 S.1.length))
        | none => none)
      | .newarray _ => (match st with
        | .int x :: st => z_g (z_alo S.1.length ls st S.1 && decide (¬ x < 0) && Nat.ble x.toNatClampNeg 1000 && decide (FS[S.1.length]? = some (e.2.2.2.1.getD 0 0)) && Nat.ble (e.2.2.2.1.getD 0 0) 1) (z_ablk L xs cl tyq FS code stop C n cs ls (.ref S.1.length :: st) (S.1 ++ [.inr (.inl (e.2.2.2.1.getD 0 0, x.toNatClampNeg))], z_clr S.2 S.1.length))
        | _ => none)
      | .anewarray _ => (match st with
        | .int x :: st => z_g (z_alo S.1.length ls st S.1 && decide (¬ x < 0) && Nat.ble x.toNatClampNeg 1000 && decide (FS[S.1.length]? = some (e.2.2.2.1.getD 0 0 + 2)) && Nat.blt (e.2.2.2.1.getD 0 0) 50) (z_ablk L xs cl tyq FS code stop C n cs ls (.ref S.1.length :: st) (S.1 ++ [.inr (.inr (e.2.2.2.1.getD 0 0, List.replicate x.toNatClampNeg none))], z_clr S.2 S.1.length))
        | _ => none)
      | .aastore => (match st with
        | .ref v :: .int i :: .ref a :: st => (match S.1[a]?, S.1[v]? with
          | some (.inr (.inr (ci, l))), some (.inl (cv, _)) => z_g (Nat.beq ci cv && z_in l.length i && decide (FS[a]? = some (ci + 2)) && Nat.blt ci 50 && (cl[ci]?).isSome) (z_ablk L xs cl tyq FS code stop C n cs ls st (S.1.set a (.inr (.inr (ci, l.set i.toNatClampNeg (some v)))), S.2))
          | _, _ => none)
        | _ => none)
      | .invokespecial _ => (match e.2.2.2.1 with
        | [] => (match st with
          | .ref _ :: st => z_g (Nat.ble (z_cat st) 8) (z_ablk L xs cl tyq FS code stop C n cs ls st S)
          | _ => none)
        | lk => (match st with
          | .ref o :: st => z_g (Nat.ble (z_cat st) 8 && z_lok S.1.length ls && st.all (z_rok S.1.length)) (Option.bind (C (lk.getD 0 0) [.ref o] S) (fun S' => z_ablk L xs cl tyq FS code stop C n cs ls st S'))
          | _ => none))
      | .putfield i => (match e.2.2.2.1.getD 2 0, st with
        | 2, .ref v :: .ref a :: st => (match S.1[a]? with
          | some (.inl (ci, sl)) => (match sl[e.2.2.2.1.getD 1 0]? with
            | some (.inr _) => z_g (Nat.beq ci (e.2.2.2.1.getD 0 0)) (z_ablk L xs cl tyq FS code stop C n cs ls st (S.1.set a (.inl (ci, sl.set (e.2.2.2.1.getD 1 0) (.inr (some v)))), S.2))
            | _ => none)
          | _ => none)
        | _, _ => none)
      | ins => z_ins S.1 L xs ins e.2.2.2.1 e.2.2.2.2.1 ls st S.2 (fun o ls' st' m' => match o with
        | none => z_ablk L xs cl tyq FS code stop C n cs ls' st' (S.1, m')
        | some t => z_ablk L xs cl tyq FS code stop C n (z_at code t) ls' st' (S.1, m'))
def z_stop : List z_En → Nat
  | [] => 0
  | [e] => e.1
  | _ :: r => z_stop r
def z_ago (cl : List vw_C) (tyq : Nat → Nat → FieldType) (FS : List Nat) (P : List z_Me) : Nat → Nat → List Value → z_S → Option z_S
  | 0, _, _, _ => none
  | d + 1, j, as, S => match P[j]? with
    | some me => z_g (Nat.ble (z_cat as) me.2.2.1 && as.all (z_rok S.1.length) && decide (me.1.name = "<init>")) (Option.bind (z_ablk 0 (fun _ => 0) cl tyq FS me.2.2.2.2.1 (z_stop me.2.2.2.2.1) (z_ago cl tyq FS P d) 2000 (z_at me.2.2.2.2.1 0) (z_loc me.2.2.1 as) [] S) (fun q => match q.2.1 with
      | [] => some q.2.2
      | _ => none))
    | none => none
/-! addresses that grow -/
def z_agr (n : Nat) (ad ad' : Nat → Nat) : Prop := ∀ i, i < n ∨ i = 1000 → ad' i = ad i
theorem z_rok_cv {n : Nat} {ad ad' : Nat → Nat} (h : z_agr n ad ad') {v : Value} (hv : z_rok n v = true) : z_cv ad' v = z_cv ad v := by
  cases v <;> try rfl
  rename_i a
  simp only [z_rok, Bool.or_eq_true] at hv
  show Value.ref (ad' a) = Value.ref (ad a)
  rw [h a (hv.elim (fun q => Or.inl (Nat.blt_eq.mp q)) (fun q => Or.inr (Nat.eq_of_beq_eq_true q)))]
theorem z_rok_map {n : Nat} {ad ad' : Nat → Nat} (h : z_agr n ad ad') {st : List Value} (hv : st.all (z_rok n) = true) : st.map (z_cv ad') = st.map (z_cv ad) :=
  List.map_congr_left (fun v hq => z_rok_cv h (List.all_eq_true.mp hv v hq))
theorem z_L.ad {n : Nat} {ad ad' : Nat → Nat} (h : z_agr n ad ad') {ls : z_V} {arr : Array Slot} {nL : Nat} (hv : z_lok n ls = true) (hl : z_L ad ls arr nL) : z_L ad' ls arr nL := by
  refine ⟨hl.1, hl.2.1, hl.2.2.1, fun i v hi => ?_⟩
  have h1 := List.all_eq_true.mp hv _ (List.mem_of_getElem? hi)
  rw [z_rok_cv h h1]
  exact hl.2.2.2 i v hi
theorem z_re_ad {n : Nat} {ad ad' : Nat → Nat} (h : z_agr n ad ad') {q : z_C} (hq : z_crf n q = true) (cA : ClassId) (f : Nat → Int32) : z_re ad' cA q f = z_re ad cA q f := by
  rcases q with ⟨ci, sl⟩ | ⟨t, k⟩ | ⟨ci, l⟩
  · show Sum.inr (ci, sl.mapIdx (fun k s => z_vl ad' s (f k))) = Sum.inr (ci, sl.mapIdx (fun k s => z_vl ad s (f k)))
    congr 2
    apply List.ext_getElem?
    intro i
    simp only [List.getElem?_mapIdx]
    cases hs : sl[i]? with
    | none => rfl
    | some s0 =>
      have h1 := List.all_eq_true.mp hq s0 (List.mem_of_getElem? hs)
      rcases s0 with t | r
      · rcases t with _ | _ | t <;> rfl
      · cases r with
        | none => rfl
        | some r =>
          show some (Value.ref (ad' r)) = some (Value.ref (ad r))
          rw [h r (Or.inl (Nat.blt_eq.mp h1))]
  · rcases t with _ | _ | t <;> rfl
  · show Sum.inl (cA, l.length, Sum.inr (Sum.inr (Sum.inr (Sum.inr (z_rl ad' l))))) = Sum.inl (cA, l.length, Sum.inr (Sum.inr (Sum.inr (Sum.inr (z_rl ad l)))))
    have hf : z_rl ad' l = z_rl ad l := by
      funext j
      unfold z_rl
      cases hs : l[j]? with
      | none => rfl
      | some o =>
        cases o with
        | none => rfl
        | some r =>
          have h1 := List.all_eq_true.mp hq (some r) (List.mem_of_getElem? hs)
          show some (ad' r) = some (ad r)
          rw [h r (Or.inl (Nat.blt_eq.mp h1))]
    rw [hf]
theorem z_rd_ad {ad ad' : Nat → Nat} {cid : Nat → ClassId} {sh : List z_C} {m m' : z_M} (h : z_agr sh.length ad ad') (hq : sh.all (z_crf sh.length) = true) (hm : ∀ i, i < sh.length → m' i = m i) : z_rd ad' cid sh m' = z_rd ad cid sh m := by
  apply List.ext_getElem?
  intro i
  simp only [z_rd, List.getElem?_mapIdx]
  cases hs : sh[i]? with
  | none => rfl
  | some c =>
    have hi := (List.getElem?_eq_some_iff.mp hs).1
    have h1 := List.all_eq_true.mp hq c (List.mem_of_getElem? hs)
    simp only [Option.map_some]
    rw [z_re_ad h h1, hm i hi, h i (Or.inl hi)]
theorem z_rd_new {ad ad' : Nat → Nat} {cid : Nat → ClassId} {sh : List z_C} {m : z_M} {q : Nat} {c : z_C} (hq : sh.all (z_crf sh.length) = true) (h : z_agr sh.length ad ad') (hn : ad' sh.length = q) : z_rd ad' cid (sh ++ [c]) (z_clr m sh.length) = z_rd ad cid sh m ++ [(q, z_re ad' (cid sh.length) c (fun _ => 0))] := by
  have h1 : z_rd ad' cid sh (z_clr m sh.length) = z_rd ad cid sh m := z_rd_ad h hq (fun i hi => if_neg (Nat.ne_of_lt hi))
  rw [← h1]
  unfold z_rd
  rw [List.mapIdx_append]
  simp [z_clr, hn]
theorem z_rd_setc {ad : Nat → Nat} {cid : Nat → ClassId} {sh : List z_C} {m : z_M} {a : Nat} {q c : z_C} (h : sh[a]? = some q) : (z_rd ad cid sh m).set a (ad a, z_re ad (cid a) c (m a)) = z_rd ad cid (sh.set a c) m := by
  apply List.ext_getElem?
  intro i
  have hlt := (List.getElem?_eq_some_iff.mp h).1
  simp only [z_rd, List.getElem?_set, List.getElem?_mapIdx, List.length_mapIdx]
  by_cases hi : a = i
  · subst hi
    rw [if_pos rfl, if_pos hlt, if_pos rfl, if_pos hlt]
    rfl
  · simp [hi]
def z_csl (c : z_C) : Nat := match c with
  | .inl (_, sl) => sl.length
  | .inr (.inl (_, n)) => n
  | .inr (.inr (_, l)) => l.length
def z_slo (sh : List z_C) : Nat := (sh.map z_csl).sum
theorem z_slo_push (sh : List z_C) (c : z_C) : z_slo (sh ++ [c]) = z_slo sh + z_csl c := by simp [z_slo]
theorem z_slo_set {sh : List z_C} {a : Nat} {q c : z_C} (h : sh[a]? = some q) (hc : z_csl c = z_csl q) : z_slo (sh.set a c) = z_slo sh := by
  unfold z_slo
  congr 1
  apply List.ext_getElem?
  intro i
  have hlt := (List.getElem?_eq_some_iff.mp h).1
  simp only [List.getElem?_map, List.getElem?_set]
  by_cases hi : a = i
  · subst hi
    rw [if_pos rfl, if_pos hlt, h]
    simp [hc]
  · simp [hi]
theorem z_TY_push {tys : List (ClassId × FieldType)} {cid : Nat → ClassId} {sh : List z_C} {c : z_C} (h : z_TY tys cid sh) (h1 : ∀ n t, c = .inr (.inl (t, n)) → ∃ t0 : Nat, tys[t0]? = some (cid sh.length, if t = 1 then FieldType.boolean else FieldType.int)) (h2 : ∀ ci l, c = .inr (.inr (ci, l)) → ∃ (t0 : Nat) (nm : String), tys[t0]? = some (cid sh.length, FieldType.object nm)) : z_TY tys cid (sh ++ [c]) := by
  intro i
  rcases Nat.lt_trichotomy i sh.length with hi | hi | hi
  · rw [List.getElem?_append_left hi]
    exact h i
  · subst hi
    rw [List.getElem?_append_right (Nat.le_refl _), Nat.sub_self]
    exact ⟨fun n t e => h1 n t (Option.some.inj e), fun ci l e => h2 ci l (Option.some.inj e)⟩
  · rw [List.getElem?_eq_none (by simp; omega)]
    exact ⟨fun n t e => (by cases e), fun ci l e => (by cases e)⟩
theorem z_TY_set {tys : List (ClassId × FieldType)} {cid : Nat → ClassId} {sh : List z_C} {c : z_C} {a : Nat} (h : z_TY tys cid sh) (h1 : ∀ n t, c ≠ .inr (.inl (t, n))) (h2 : ∀ ci l, c = .inr (.inr (ci, l)) → ∃ (t0 : Nat) (nm : String), tys[t0]? = some (cid a, FieldType.object nm)) : z_TY tys cid (sh.set a c) := by
  intro i
  rw [List.getElem?_set]
  by_cases hi : a = i
  · subst hi
    rw [if_pos rfl]
    by_cases hl : a < sh.length
    · rw [if_pos hl]
      exact ⟨fun n t e => absurd (Option.some.inj e) (h1 n t), fun ci l e => h2 ci l (Option.some.inj e)⟩
    · rw [if_neg hl]
      exact ⟨fun n t e => (by cases e), fun ci l e => (by cases e)⟩
  · rw [if_neg hi]
    exact h i
end
section
theorem z_sw_k {ρ : Type} {x : Int32} {k : Nat → Option ρ} {d : Nat} {r : ρ} : ∀ l : List Nat, z_sw x k d l = some r → ∃ t, k t = some r
  | [], h => ⟨d, h⟩
  | [_], h => ⟨d, h⟩
  | v :: t :: l, h => by
    simp only [z_sw] at h
    split at h
    · exact ⟨t, h⟩
    · exact z_sw_k l h
theorem z_br_k {ρ : Type} {c : ClassFile.Cond} {x y : Int32} {t f : Option ρ} {r : ρ} (h : z_br c x y t f = some r) : t = some r ∨ f = some r := by
  unfold z_br at h
  split at h <;> split at h <;> first | exact Or.inl h | exact Or.inr h
set_option maxHeartbeats 4000000 in
theorem z_ins_k {ρ : Type} {sh : List z_C} {L : Nat} {xs : Nat → Int32} {ins : Instr} {lk : List Nat} {cn : Int32} {ls : z_V} {st : List Value} {m : z_M} {k : z_K ρ} {r : ρ} (h : z_ins sh L xs ins lk cn ls st m k = some r) : ∃ o ls' st' m', k o ls' st' m' = some r := by
  unfold z_ins at h
  split at h
  all_goals first
    | (cases h; done)
    | exact ⟨_, _, _, _, h⟩
    | (split at h <;> first
      | (cases h; done)
      | exact ⟨_, _, _, _, h⟩
      | exact ⟨_, _, _, _, (z_g_some h).2⟩
      | (obtain ⟨t, h⟩ := z_sw_k _ h; exact ⟨_, _, _, _, h⟩)
      | (rcases z_br_k h with h | h <;> exact ⟨_, _, _, _, h⟩)
      | (split at h <;> first
        | (cases h; done)
        | exact ⟨_, _, _, _, h⟩
        | exact ⟨_, _, _, _, (z_g_some h).2⟩
        | (obtain ⟨t, _, h⟩ := Option.bind_eq_some_iff.mp h; exact ⟨_, _, _, _, h⟩)))
def z_CM (C : Nat → List Value → z_S → Option z_S) : Prop := ∀ (j : Nat) (as : List Value) (S S' : z_S), C j as S = some S' → S.1.length ≤ S'.1.length ∧ z_slo S.1 ≤ z_slo S'.1
set_option maxHeartbeats 4000000 in
theorem z_ablk_mono {L : Nat} {xs : Nat → Int32} {cl : List vw_C} {tyq : Nat → Nat → FieldType} {FS : List Nat} {code : List z_En} {stop : Nat} {C : Nat → List Value → z_S → Option z_S} (hC : z_CM C) : ∀ (n : Nat) (cs : List z_En) (ls : z_V) (st : List Value) (S : z_S) (q : z_V × List Value × z_S), z_ablk L xs cl tyq FS code stop C n cs ls st S = some q → S.1.length ≤ q.2.2.1.length ∧ z_slo S.1 ≤ z_slo q.2.2.1 := by
  intro n
  induction n with
  | zero =>
    intro cs ls st S q h
    simp [z_ablk] at h
  | succ n ih =>
    intro cs ls st S q h
    cases cs with
    | nil => simp [z_ablk] at h
    | cons e cs =>
      have push : ∀ (c : z_C) (cs' : List z_En) (ls' : z_V) (st' : List Value) (m' : z_M), z_ablk L xs cl tyq FS code stop C n cs' ls' st' (S.1 ++ [c], m') = some q → S.1.length ≤ q.2.2.1.length ∧ z_slo S.1 ≤ z_slo q.2.2.1 := by
        intro c cs' ls' st' m' hq
        have := ih _ _ _ _ _ hq
        rw [z_slo_push, List.length_append] at this
        exact ⟨by simp at this; omega, by omega⟩
      unfold z_ablk at h
      split at h
      · cases h
        exact ⟨Nat.le_refl _, Nat.le_refl _⟩
      · split at h
        · split at h
          · exact push _ _ _ _ _ (z_g_some h).2
          · cases h
        · split at h
          · exact push _ _ _ _ _ (z_g_some h).2
          · cases h
        · split at h
          · exact push _ _ _ _ _ (z_g_some h).2
          · cases h
        · split at h
          · split at h
            · rename_i ci l cv sl h1 h2
              have := ih _ _ _ _ _ (z_g_some h).2
              rw [z_slo_set h1 (by simp [z_csl]), List.length_set] at this
              exact this
            · cases h
          · cases h
        · split at h
          · split at h
            · exact ih _ _ _ _ _ (z_g_some h).2
            · cases h
          · split at h
            · obtain ⟨S', h1, h2⟩ := Option.bind_eq_some_iff.mp (z_g_some h).2
              have a1 := hC _ _ _ _ h1
              have a2 := ih _ _ _ _ _ h2
              exact ⟨Nat.le_trans a1.1 a2.1, Nat.le_trans a1.2 a2.2⟩
            · cases h
        · split at h
          · split at h
            · split at h
              · rename_i ci sl h1 _ s0 h2
                have := ih _ _ _ _ _ (z_g_some h).2
                rw [z_slo_set h1 (by simp [z_csl]), List.length_set] at this
                exact this
              · cases h
            · cases h
          · cases h
        · obtain ⟨o, ls', st', m', h⟩ := z_ins_k h
          cases o with
          | none => exact ih cs ls' st' (S.1, m') q h
          | some t => exact ih (z_at code t) ls' st' (S.1, m') q h
def z_AO (Tb : List Jvm.Cond) (U : State) : Prop := ∀ C : String, Jvm.Cond.arrayOver (.object C) ∈ Tb → va_AO C U
def z_rma (d mc ms : Nat) : Room := { frames := d, cells := mc, slots := ms, locals := 60 * d }
def z_PcA (D : va_G) (cl : List vw_C) (tys : List (ClassId × FieldType)) (A : Nat → Prop) (ad : Nat → Nat) (cid : Nat → ClassId) (Tb : List Jvm.Cond) (as : List Value) (S : z_S) : Array Value → State → Prop := fun v U => v = (as.map (z_cv ad)).toArray ∧ va_K D cl tys U ∧ va_P D cl (z_rd ad cid S.1 S.2) U.heap ∧ va_D A (z_rd ad cid S.1 S.2) ∧ z_NW Tb U ∧ z_AO Tb U ∧ ∀ q : Nat, U.heap.size ≤ q → A q
def z_QcA (D : va_G) (cl : List vw_C) (A : Nat → Prop) (ad : Nat → Nat) (cid : Nat → ClassId) (S S' : z_S) : Array Value → State → Outcome → State → Prop := fun _ st oc t => oc = .returned none ∧ (∃ ad' : Nat → Nat, z_agr S.1.length ad ad' ∧ va_P D cl (z_rd ad' cid S'.1 S'.2) t.heap ∧ va_D A (z_rd ad' cid S'.1 S'.2)) ∧ va_F A st t
theorem z_PcA_blind {D : va_G} {cl : List vw_C} {tys : List (ClassId × FieldType)} {A : Nat → Prop} {ad : Nat → Nat} {cid : Nat → ClassId} {Tb : List Jvm.Cond} {as : List Value} {S : z_S} : FrameBlind (z_PcA D cl tys A ad cid Tb as S) := by
  intro a U g mk q
  obtain ⟨q1, q2, q3, q4, q5, q6, q7⟩ := q
  exact ⟨q1, va_K.moved (u := U) (U := U.calling g mk a) (Vm.Alike.refl U.vm) q2, q3, q4, z_NW.same (s := U) rfl q5, fun C hC => va_AO.moved (u := U) (U := U.calling g mk a) (Vm.Alike.refl U.vm) (q6 C hC), q7⟩
def z_chka (Tb : List Jvm.Cond) (cl : List vw_C) (tyq : Nat → Nat → FieldType) (P : List z_Me) (PX : List (List Nat)) (own : String) (ins : Instr) (len : Nat) (lk : List Nat) (px : List Nat) : Bool := match ins with
  | .new i => decide (len = 3) && (match cl[lk.getD 0 0]? with
    | some q => z_w Tb (px.getD 0 0) (.classLink own i q.1) && z_w Tb (px.getD 1 0) (.instantiable q.1 q.2.2) && z_w Tb (px.getD 2 0) (.initialized q.1)
    | none => false)
  | .newarray t => decide (len = 2 ∧ (t = .int ∧ lk.getD 0 0 = 0 ∨ t = .boolean ∧ lk.getD 0 0 = 1)) && z_w Tb (px.getD 0 0) (.arrayClass (newarray.typeOf t))
  | .anewarray i => decide (len = 3) && (match cl[lk.getD 0 0]? with
    | some q => z_w Tb (px.getD 0 0) (.classLink own i q.1) && decide (Tb[px.getD 1 0]? = some (.arrayOver (.object q.1)))
    | none => false)
  | .aastore => decide (len = 1)
  | .putfield _ => (match cl[lk.getD 0 0]? with
    | some q => decide (lk.getD 2 0 = 2 → (q.2.1 (lk.getD 1 0)).2.2.2 = true ∧ (q.2.1 (lk.getD 1 0)).1 = own) && (match tyq (lk.getD 0 0) (lk.getD 1 0) with
      | .object _ => true
      | .array _ => true
      | _ => decide (lk.getD 2 0 ≠ 2))
    | none => false)
  | .invokespecial i => decide (len = 3) && (match lk with
    | [] => z_w Tb (px.getD 0 0) (.methodLink own i objectInit) && z_w Tb (px.getD 1 0) (.instanceMethod objectInit) && z_w Tb (px.getD 2 0) (.code objectInit ⟨#[0xb1]⟩ 1 none)
    | lk => (match P[lk.getD 0 0]?, PX[lk.getD 0 0]? with
      | some me, some q => (z_w Tb (px.getD 0 0) (.methodLink own i me.1) || decide (Tb[px.getD 0 0]? = some (.methodLinkNest own i me.1 z_cho))) && z_w Tb (q.getD 0 0) (.code me.1 me.2.1 me.2.2.1 me.2.2.2.1) && z_w Tb (q.getD 1 0) (.instanceMethod me.1) && z_w Tb (q.getD 2 0) (.initialized me.1.cls) && decide (me.1.cls ≠ "java/lang/invoke/MethodHandle" ∧ me.1.cls ≠ "java/lang/invoke/VarHandle" ∧ (parseMethodDescriptor me.1.desc).map (fun d => d.parameters.length) = some 0 ∧ me.1.name = "<init>" ∧ me.2.2.2.1 = none ∧ me.2.2.1 ≤ 40)
      | _, _ => false))
  | _ => true
def z_ty4 (cl : List vw_C) (tyq : Nat → Nat → FieldType) : Prop := ∀ (ci : Nat) (q : vw_C), cl[ci]? = some q → ∀ k, k < q.2.2 → (match tyq ci k with
  | .int => true
  | .boolean => true
  | .object _ => true
  | .array _ => true
  | _ => false) = true
def z_FSok (cl : List vw_C) (tys : List (ClassId × FieldType)) (cid : Nat → ClassId) (FS : List Nat) : Prop := ∀ (k t : Nat), FS[k]? = some t → t ≠ 99 → ∃ t0 : Nat, tys[t0]? = some (cid k, z_fty cl t)
end
section
def z_CA (l : Launch) (D : va_G) (cl : List vw_C) (tys : List (ClassId × FieldType)) (A : Nat → Prop) (cid : Nat → ClassId) (Tb : List Jvm.Cond) (P : List z_Me) (d : Nat) (C : Nat → List Value → z_S → Option z_S) : Prop := ∀ (j : Nat) (as : List Value) (S S' : z_S), C j as S = some S' → z_TY tys cid S.1 → z_TY tys cid S'.1 ∧ ∃ me : z_Me, P[j]? = some me ∧ ∀ ad : Nat → Nat, Met l me.1 (z_wsm Tb me) (z_rma d (S'.1.length - S.1.length) (z_slo S'.1 - z_slo S.1)) (z_PcA D cl tys A ad cid Tb as S) (z_QcA D cl A ad cid S S') (S'.1.length - S.1.length) (z_slo S'.1 - z_slo S.1) A
def z_fix (ad : Nat → Nat) (n q : Nat) : Nat → Nat := fun i => if i = n then q else ad i
theorem z_fix_agr {ad : Nat → Nat} {n q : Nat} (h : n < 1000) : z_agr n ad (z_fix ad n q) := fun i hi => if_neg (by omega)
theorem z_agr_trans {n k : Nat} {a b c : Nat → Nat} (h1 : z_agr n a b) (h2 : z_agr k b c) (hk : n ≤ k) : z_agr n a c := fun i hi => (h2 i (by omega)).trans (h1 i hi)
theorem z_dsl_at {tyq : Nat → Nat → FieldType} {ci N k : Nat} {ad : Nat → Nat} (hk : k < N) (h4 : (match tyq ci k with
  | .int => true
  | .boolean => true
  | .object _ => true
  | .array _ => true
  | _ => false) = true) : defaultValue (tyq ci k) = vp_V ((z_dsl tyq ci N).mapIdx (fun j s => z_vl ad s 0)) k := by
  unfold vp_V z_dsl
  rw [List.getD_eq_getElem?_getD, List.getElem?_mapIdx, List.getElem?_map, List.getElem?_range hk]
  cases hq : tyq ci k <;> rw [hq] at h4 <;> first | (cases h4; done) | (simp [hq, z_vl, defaultValue, z_b])
section Ze
variable {p : Program} {l : Launch} {e : Env} {R : Room} {s : State} {M : MethodId} {args : Array Value} {below : List Frame} {meth : Method} {c : Code} {Q : State → Prop}
variable {cc : ByteArray} {own : String} {D : va_G} {cl : List vw_C} {tys : List (ClassId × FieldType)} {cid : Nat → ClassId} {A : Nat → Prop} {H0 : Heap} {Tb Ts : List Jvm.Cond} {tyq : Nat → Nat → FieldType} {nL : Nat} {P : List z_Me} {PX : List (List Nat)} {d : Nat} {FS : List Nat} {C : Nat → List Value → z_S → Option z_S} {L : Nat} {xs : Nat → Int32}
theorem z_callA {cells slots mc ms pc : Nat} {arr : Array Slot} {rest st0 : List Value} {a : Array Value} {ad : Nat → Nat} {S S' : z_S} {H : Heap} {locs : List Loc} (hr : va_Run p l e R s M args below meth c H locs cells slots mc ms (F0 M pc arr st0) rest (z_QcA D cl A ad cid S S' a) A) (hS : va_S A H0 H locs)
    (kk : ∀ (ad' : Nat → Nat) (H1 : Heap) (locs1 : List Loc), z_agr S.1.length ad ad' → va_P D cl (z_rd ad' cid S'.1 S'.2) H1 → va_D A (z_rd ad' cid S'.1 S'.2) → va_S A H0 H1 locs1 → W p l e R s M args below meth c H1 locs1 (cells + mc) (slots + ms) Q (F0 M (pc + 3) arr rest)) : W p l e R s M args below meth c H locs cells slots Q (F0 M pc arr st0) := by
  intro T hT X
  obtain ⟨v, st₀, t, T', L', h0, X', hL, e1, e2, ⟨hv, ⟨ad', ha, hp, hd⟩, hz, hk⟩, stp⟩ := hr T hT X
  have hv := Outcome.returned.inj hv
  subst hv
  rw [h0] at hz hk
  obtain ⟨t2, a1, b1⟩ := kk ad' T'.heap (locs ++ L') ha (by rw [e1]; exact hp) hd
    ⟨Nat.le_trans hS.1 (by rw [e1]; exact hz), fun q h1 h2 => by rw [e1, hk q (Nat.lt_of_lt_of_le h1 hS.1) h2]; exact hS.2.1 q h1 h2, fun q hq => by
      rcases List.mem_append.mp hq with h | h
      · exact hS.2.2 q h
      · exact hL q h⟩ T' rfl X'
  exact ⟨t2, stp t2 a1, b1⟩
set_option maxHeartbeats 8000000 in
set_option maxRecDepth 100000 in
theorem z_ablk_ok (hG : ∀ sh, z_TY tys cid sh → z_G p s M args c cc own D cl tys cid sh Tb Ts tyq) (hml : c.maxLocals = nL) (hNW : z_NW Tb s) (hAO : z_AO Tb s) (hA : ∀ q : Nat, H0.size ≤ q → A q) (h4 : z_ty4 cl tyq) (hFS : z_FSok cl tys cid FS) (hRm : d + 1 ≤ R.frames ∧ 60 * d + 60 ≤ R.locals) (hCM : z_CM C) (hCA : z_CA l D cl tys A cid Tb P d C)
    {code : List z_En} {stop : Nat} (hE : ∀ x ∈ code, z_ech Tb cl tyq P PX own cc x ∧ z_chka Tb cl tyq P PX own x.2.1 x.2.2.1 x.2.2.2.1 x.2.2.2.2.2 = true) (hch : z_chn code = true) (hSc : ∀ x ∈ code, x.2.1 = .arraylength ∨ x.2.1 = .iaload → own ≠ z_lawn) (hin : (∀ x ∈ code, ∀ i, x.2.1 ≠ .putfield i) ∨ meth.name = "<init>") {lsF : z_V} {stF : List Value} {SF : z_S} :
    ∀ (n : Nat) (cs : List z_En) (ls : z_V) (st : List Value) (S : z_S) (ad : Nat → Nat) (arr : Array Slot) (H : Heap) (locs : List Loc) (pc cells slots : Nat), cs <:+ code → (∀ x cs', cs = x :: cs' → x.1 = pc) → z_ablk L xs cl tyq FS code stop C n cs ls st S = some (lsF, stF, SF) → z_TY tys cid S.1 → z_L ad ls arr nL → z_H D cl A H0 ad cid S.1 S.2 H locs → cells + (SF.1.length - S.1.length) ≤ R.cells → slots + (z_slo SF.1 - z_slo S.1) ≤ R.slots →
      (∀ (ad' : Nat → Nat) (arr' : Array Slot) (H' : Heap) (locs' : List Loc), z_agr S.1.length ad ad' → z_TY tys cid SF.1 → z_L ad' lsF arr' nL → z_H D cl A H0 ad' cid SF.1 SF.2 H' locs' → W p l e R s M args below meth c H' locs' (cells + (SF.1.length - S.1.length)) (slots + (z_slo SF.1 - z_slo S.1)) Q (F0 M stop arr' (stF.map (z_cv ad')))) → W p l e R s M args below meth c H locs cells slots Q (F0 M pc arr (st.map (z_cv ad))) := by
  intro n
  induction n with
  | zero =>
    intro cs ls st S ad arr H locs pc cells slots _ _ h
    simp [z_ablk] at h
  | succ n ih =>
    intro cs ls st S ad arr H locs pc cells slots hsuf hpc h hTY hl hH hbc hbs kk
    cases cs with
    | nil => simp [z_ablk] at h
    | cons x cs =>
      obtain ⟨pc', ins, len, lk, cn, px⟩ := x
      obtain rfl : pc' = pc := hpc _ _ rfl
      have hmem := hsuf.subset List.mem_cons_self
      obtain ⟨⟨hc1, hc2, hdg⟩, hc3⟩ := hE _ hmem
      dsimp only at hc1 hc2 hdg hc3
      have hsuf' : cs <:+ code := (List.suffix_cons _ cs).trans hsuf
      have hnext : ∀ y cs', cs = y :: cs' → y.1 = pc' + len := by
        intro y cs' hy
        subst hy
        have h1 := z_chn_suf hsuf hch
        simp only [z_chn, Bool.and_eq_true] at h1
        exact Nat.eq_of_beq_eq_true h1.1
      have hGG := hG S.1 hTY
      obtain ⟨hx, hb, hown, hts, hK, hTb, hCK, -⟩ := hGG
      have hHH := hH
      obtain ⟨hP, hD, hS⟩ := hH
      -- a new cell
      have born : ∀ (cq : z_C) (q : Nat) (H1 : Heap) (st' : List Value), z_alo S.1.length ls st' S.1 = true → z_ablk L xs cl tyq FS code stop C n cs ls (.ref S.1.length :: st') (S.1 ++ [cq], z_clr S.2 S.1.length) = some (lsF, stF, SF) → z_TY tys cid (S.1 ++ [cq]) → va_P D cl (z_rd ad cid S.1 S.2 ++ [(q, z_re (z_fix ad S.1.length q) (cid S.1.length) cq (fun _ => 0))]) H1 → va_D A (z_rd ad cid S.1 S.2 ++ [(q, z_re (z_fix ad S.1.length q) (cid S.1.length) cq (fun _ => 0))]) → va_S A H0 H1 locs → W p l e R s M args below meth c H1 locs (cells + 1) (slots + z_csl cq) Q (F0 M (pc' + len) arr (.ref q :: st'.map (z_cv ad))) := by
        intro cq q H1 st' hal hrun hT g1 g2 g3
        simp only [z_alo, Bool.and_eq_true] at hal
        obtain ⟨⟨⟨a1, a2⟩, a3⟩, a4⟩ := hal
        have a4 := Nat.blt_eq.mp a4
        have hag : z_agr S.1.length ad (z_fix ad S.1.length q) := z_fix_agr a4
        have hn : z_fix ad S.1.length q S.1.length = q := if_pos rfl
        have hrd := z_rd_new (cid := cid) (m := S.2) (c := cq) a3 hag hn
        rw [← hrd] at g1 g2
        have hmono := z_ablk_mono hCM _ _ _ _ _ _ hrun
        dsimp only at hmono
        rw [z_slo_push, List.length_append] at hmono
        simp only [List.length_cons, List.length_nil] at hmono
        have key := ih cs ls (.ref S.1.length :: st') (S.1 ++ [cq], z_clr S.2 S.1.length) (z_fix ad S.1.length q) arr H1 locs (pc' + len) (cells + 1) (slots + z_csl cq) hsuf' hnext hrun hT (hl.ad hag a1) ⟨g1, g2, g3⟩ (by simp only [List.length_append, List.length_cons, List.length_nil]; omega) (by rw [z_slo_push]; omega) (fun ad' arr' H' locs' b1 b2 b3 b4 => by
          have e1 : cells + 1 + (SF.1.length - (S.1 ++ [cq]).length) = cells + (SF.1.length - S.1.length) := by
            simp only [List.length_append, List.length_cons, List.length_nil]
            omega
          have e2 : slots + z_csl cq + (z_slo SF.1 - z_slo (S.1 ++ [cq])) = slots + (z_slo SF.1 - z_slo S.1) := by
            rw [z_slo_push]
            omega
          rw [e1, e2]
          exact kk ad' arr' H' locs' (z_agr_trans hag b1 (by simp)) b2 b3 b4)
        rw [List.map_cons, z_rok_map hag a2] at key
        have e3 : z_cv (z_fix ad S.1.length q) (.ref S.1.length) = .ref q := by
          show Value.ref (z_fix ad S.1.length q S.1.length) = _
          rw [hn]
        rw [e3] at key
        exact key
      unfold z_ablk at h
      dsimp only at h
      split at h
      · rename_i hstop
        have hst := Nat.eq_of_beq_eq_true hstop
        subst hst
        simp only [Option.some.injEq, Prod.mk.injEq] at h
        obtain ⟨rfl, rfl, rfl⟩ := h
        have := kk ad arr H locs (fun _ _ => rfl) hTY hl hHH
        rw [Nat.sub_self, Nat.sub_self, Nat.add_zero, Nat.add_zero] at this
        exact this
      · split at h
        · -- new
          rename_i idx
          split at h
          · rename_i q hq
            obtain ⟨C', T, N⟩ := q
            obtain ⟨g1, h⟩ := z_g_some h
            simp only [z_chka, Bool.and_eq_true, decide_eq_true_eq, hq] at hc3
            obtain ⟨rfl, ⟨q1, q2⟩, q3⟩ := hc3
            have hmono := z_ablk_mono hCM _ _ _ _ _ _ h
            dsimp only at hmono
            rw [z_slo_push, List.length_append] at hmono
            simp only [List.length_cons, List.length_nil] at hmono
            have hN : z_csl (.inl (lk.getD 0 0, z_dsl tyq (lk.getD 0 0) N)) = N := by simp [z_csl, z_dsl]
            refine va_new hx hb hts (hCK _ _ hq).1 (tyq (lk.getD 0 0)) (hCK _ _ hq).2.1 hown (hts _ (z_w_in q1 hTb)) (hts _ (z_w_in q2 hTb)) (hts _ (z_w_in q3 hTb)) hK hP hD hS hA hq (fs := (z_dsl tyq (lk.getD 0 0) N).mapIdx (fun j s => z_vl ad s 0)) (fun j hj => z_dsl_at hj (h4 _ _ hq j hj)) (by omega) (by show slots + N ≤ R.slots; omega) hdg (fun q H1 k1 k2 k3 => ?_)
            have hre : ∀ q : Nat, z_re (z_fix ad S.1.length q) (cid S.1.length) (.inl (lk.getD 0 0, z_dsl tyq (lk.getD 0 0) N)) (fun _ => 0) = .inr (lk.getD 0 0, (z_dsl tyq (lk.getD 0 0) N).mapIdx (fun j s => z_vl ad s 0)) := by
              intro q
              have a4 : S.1.length < 1000 := by
                simp only [z_alo, Bool.and_eq_true] at g1
                exact Nat.blt_eq.mp g1.2
              refine (z_re_ad (z_fix_agr a4) ?_ _ _).trans rfl
              show (z_dsl tyq (lk.getD 0 0) N).all _ = true
              rw [List.all_eq_true]
              intro s0 hs0
              obtain ⟨k, -, rfl⟩ := List.mem_map.mp hs0
              cases tyq (lk.getD 0 0) k <;> rfl
            have := born (.inl (lk.getD 0 0, z_dsl tyq (lk.getD 0 0) N)) q H1 st g1 h (z_TY_push hTY (fun _ _ hh => by cases hh) (fun _ _ hh => by cases hh)) (by rw [hre]; exact k1) (by rw [hre]; exact k2) k3
            rw [hN] at this
            exact this
          · cases h
        · -- newarray
          rename_i at'
          split at h
          · rename_i x st'
            obtain ⟨g1, hrun⟩ := z_g_some h
            simp only [Bool.and_eq_true, decide_eq_true_eq] at g1
            obtain ⟨⟨⟨⟨g1, g2⟩, g3⟩, g4⟩, g5⟩ := g1
            simp only [z_chka, Bool.and_eq_true, decide_eq_true_eq] at hc3
            obtain ⟨⟨rfl, hty⟩, q1⟩ := hc3
            have g3 := Nat.le_of_ble_eq_true g3
            have g5 := Nat.le_of_ble_eq_true g5
            have hmono := z_ablk_mono hCM _ _ _ _ _ _ hrun
            dsimp only at hmono
            rw [z_slo_push, List.length_append] at hmono
            simp only [List.length_cons, List.length_nil, z_csl] at hmono
            obtain ⟨t0, ht0⟩ := hFS _ _ g4 (by omega)
            have hcA : ∀ (cA : ClassId) (ty : FieldType), z_fty cl (lk.getD 0 0) = ty → (ty = .int ∨ ty = .boolean) → va_K D cl (tys ++ [(cA, ty)]) s → cA = cid S.1.length := by
              intro cA ty hz hty' hKK
              have r1 := (hKK.2 tys.length (cA, ty) (by simp)).2
              have r2 := (hK.2 t0 _ ht0).2
              rw [hz] at r2
              rcases hty' with rfl | rfl <;> exact Option.some.inj (r1.symm.trans r2)
            rcases hty with ⟨rfl, hlk0⟩ | ⟨rfl, hlk0⟩
            · have hT2 : z_TY tys cid (S.1 ++ [.inr (.inl (lk.getD 0 0, x.toNatClampNeg))]) := z_TY_push hTY (fun n' t' hh => by
                cases hh
                rw [hlk0] at ht0 ⊢
                exact ⟨t0, ht0⟩) (fun _ _ hh => by cases hh)
              refine va_newa (ty := .int) hx hb (hts _ (z_w_in q1 hTb)) rfl hK hP hD hS hA (a0 := (x.toNatClampNeg, .inl (fun _ => 0))) (N' := x.toNatClampNeg) (fun cA => rfl) g2 rfl (by show x.toNatClampNeg * componentBytes .int ≤ _; simp [componentBytes]; omega) (by omega) (by omega) hdg (fun q cA H1 kK k1 k2 k3 => ?_)
              have hcid := hcA cA .int (by rw [hlk0]; rfl) (Or.inl rfl) kK
              subst hcid
              rw [hlk0] at hrun hT2
              exact born (.inr (.inl (0, x.toNatClampNeg))) q H1 st' g1 hrun hT2 k1 k2 k3
            · have hT2 : z_TY tys cid (S.1 ++ [.inr (.inl (lk.getD 0 0, x.toNatClampNeg))]) := z_TY_push hTY (fun n' t' hh => by
                cases hh
                rw [hlk0] at ht0 ⊢
                exact ⟨t0, ht0⟩) (fun _ _ hh => by cases hh)
              refine va_newa (ty := .boolean) hx hb (hts _ (z_w_in q1 hTb)) rfl hK hP hD hS hA (a0 := (x.toNatClampNeg, .inl (fun _ => 0))) (N' := x.toNatClampNeg) (fun cA => rfl) g2 rfl (by show x.toNatClampNeg * componentBytes .boolean ≤ _; simp [componentBytes]; omega) (by omega) (by omega) hdg (fun q cA H1 kK k1 k2 k3 => ?_)
              have hcid := hcA cA .boolean (by rw [hlk0]; rfl) (Or.inr rfl) kK
              subst hcid
              rw [hlk0] at hrun hT2
              exact born (.inr (.inl (1, x.toNatClampNeg))) q H1 st' g1 hrun hT2 k1 k2 k3
          · cases h
        · -- anewarray
          rename_i idx
          split at h
          · rename_i x st'
            obtain ⟨g1, hrun⟩ := z_g_some h
            simp only [Bool.and_eq_true, decide_eq_true_eq] at g1
            obtain ⟨⟨⟨⟨g1, g2⟩, g3⟩, g4⟩, g5⟩ := g1
            have g3 := Nat.le_of_ble_eq_true g3
            have g5 := Nat.blt_eq.mp g5
            simp only [z_chka, Bool.and_eq_true, decide_eq_true_eq] at hc3
            obtain ⟨rfl, hc3⟩ := hc3
            cases hq : cl[lk.getD 0 0]? with
            | none =>
              rw [hq] at hc3
              cases hc3
            | some qc =>
              rw [hq] at hc3
              simp only [Bool.and_eq_true, decide_eq_true_eq] at hc3
              obtain ⟨q1, q2⟩ := hc3
              have hmono := z_ablk_mono hCM _ _ _ _ _ _ hrun
              dsimp only at hmono
              rw [z_slo_push, List.length_append] at hmono
              simp only [List.length_cons, List.length_nil, z_csl, List.length_replicate] at hmono
              obtain ⟨t0, ht0⟩ : ∃ t0 : Nat, tys[t0]? = some (cid S.1.length, FieldType.object qc.1) := by
                obtain ⟨t0, ht0⟩ := hFS _ _ g4 (by omega)
                refine ⟨t0, ?_⟩
                rw [ht0]
                show some (cid S.1.length, FieldType.object ((cl[lk.getD 0 0]?.map (fun q => q.1)).getD "")) = _
                rw [hq]
                rfl
              refine va_newq hx hb hown (hts _ (z_w_in q1 hTb)) (hAO _ (List.mem_of_getElem? q2)) hK hP hD hS hA (N' := x.toNatClampNeg) g2 rfl (by omega) (by omega) (by omega) hdg (fun q cA H1 kK k1 k2 k3 => ?_)
              have hcid : cA = cid S.1.length := by
                obtain ⟨_, _, _, _, _, r1⟩ := (kK.2 tys.length (cA, .object qc.1) (by simp)).2
                obtain ⟨_, _, _, _, _, r2⟩ := (hK.2 t0 _ ht0).2
                exact Option.some.inj (r1.symm.trans r2)
              subst hcid
              have hre : ∀ q : Nat, z_re (z_fix ad S.1.length q) (cid S.1.length) (.inr (.inr (lk.getD 0 0, List.replicate x.toNatClampNeg none))) (fun _ => 0) = .inl (cid S.1.length, x.toNatClampNeg, .inr (.inr (.inr (.inr (fun _ => none))))) := by
                intro q
                show Sum.inl (cid S.1.length, (List.replicate x.toNatClampNeg (none : Option Nat)).length, Sum.inr (Sum.inr (Sum.inr (Sum.inr (z_rl (z_fix ad S.1.length q) (List.replicate x.toNatClampNeg none)))))) = _
                have hf : z_rl (z_fix ad S.1.length q) (List.replicate x.toNatClampNeg none) = fun _ => none := by
                  funext j
                  unfold z_rl
                  rw [List.getElem?_replicate]
                  by_cases hj : j < x.toNatClampNeg
                  · rw [if_pos hj]
                  · rw [if_neg hj]
                rw [List.length_replicate, hf]
              have := born (.inr (.inr (lk.getD 0 0, List.replicate x.toNatClampNeg none))) q H1 st' g1 hrun (z_TY_push hTY (fun _ _ hh => by cases hh) (fun _ _ hh => ⟨t0, _, ht0⟩)) (by rw [hre]; exact k1) (by rw [hre]; exact k2) k3
              simp only [z_csl, List.length_replicate] at this
              exact this
          · cases h
        · -- aastore
          have hlen : len = 1 := by simpa [z_chka] using hc3
          subst hlen
          split at h
          · rename_i v i a st'
            split at h
            · rename_i ci lq cv sl e1 e2
              obtain ⟨g1, hrun⟩ := z_g_some h
              simp only [Bool.and_eq_true, decide_eq_true_eq] at g1
              obtain ⟨⟨⟨⟨g1, g2⟩, g3⟩, g4⟩, g5⟩ := g1
              have g1 := Nat.eq_of_beq_eq_true g1
              subst g1
              have g4 := Nat.blt_eq.mp g4
              obtain ⟨rc, hrc⟩ := Option.isSome_iff_exists.mp g5
              have hin' := z_in_iff.mp g2
              have hlt : i.toNatClampNeg < lq.length := Nat.not_le.mp fun q => hin' (Or.inr q)
              obtain ⟨t0, ht0⟩ : ∃ t0 : Nat, tys[t0]? = some (cid a, FieldType.object rc.1) := by
                obtain ⟨t0, ht0⟩ := hFS _ _ g3 (by omega)
                refine ⟨t0, ?_⟩
                rw [ht0]
                simp [z_fty, hrc]
              refine va_astq hx hb hK hP hD hS a t0 v ci (z_rd_at e1) ht0 (z_rd_at e2) hrc hin' hdg (fun H1 locs1 k1 k2 k3 => ?_)
              have hset : (z_rd ad cid S.1 S.2).set a (ad a, .inl (cid a, lq.length, .inr (.inr (.inr (.inr (va_up (z_rl ad lq) i.toNatClampNeg (some (ad v)))))))) = z_rd ad cid (S.1.set a (.inr (.inr (ci, lq.set i.toNatClampNeg (some v))))) S.2 := by
                rw [← z_rd_setc e1]
                show _ = (z_rd ad cid S.1 S.2).set a (ad a, Sum.inl (cid a, (lq.set i.toNatClampNeg (some v)).length, Sum.inr (Sum.inr (Sum.inr (Sum.inr (z_rl ad (lq.set i.toNatClampNeg (some v))))))))
                have hf : va_up (z_rl ad lq) i.toNatClampNeg (some (ad v)) = z_rl ad (lq.set i.toNatClampNeg (some v)) := by
                  funext j
                  unfold va_up z_rl
                  by_cases hj : j = i.toNatClampNeg
                  · subst hj
                    rw [if_pos rfl, List.getElem?_set, if_pos rfl, if_pos hlt]
                  · rw [if_neg hj, List.getElem?_set, if_neg (Ne.symm hj)]
                rw [List.length_set, hf]
              have hsl : z_slo (S.1.set a (.inr (.inr (ci, lq.set i.toNatClampNeg (some v))))) = z_slo S.1 := z_slo_set e1 (by simp [z_csl])
              refine ih cs ls st' (S.1.set a (.inr (.inr (ci, lq.set i.toNatClampNeg (some v)))), S.2) ad arr H1 locs1 (pc' + 1) cells slots hsuf' hnext hrun (z_TY_set hTY (fun _ _ hh => by cases hh) (fun _ _ hh => ⟨t0, _, ht0⟩)) hl ⟨hset ▸ k1, hset ▸ k2, k3⟩ (by dsimp only; rw [List.length_set]; exact hbc) (by dsimp only; rw [hsl]; exact hbs) (fun ad' arr' H' locs' b1 b2 b3 b4 => ?_)
              dsimp only at b1 ⊢
              rw [List.length_set] at b1 ⊢
              rw [hsl]
              exact kk ad' arr' H' locs' b1 b2 b3 b4
            · cases h
          · cases h
        · -- invokespecial
          rename_i idx
          split at h
          · split at h
            · rename_i o st'
              obtain ⟨g1, h⟩ := z_g_some h
              have g1 := Nat.le_of_ble_eq_true g1
              simp only [z_chka, Bool.and_eq_true, decide_eq_true_eq] at hc3
              obtain ⟨rfl, ⟨q1, q2⟩, q3⟩ := hc3
              have hcat := z_cat_map ad st'
              refine W.objInit hx hb hown (hts _ (z_w_in q1 hTb)) (hts _ (z_w_in q2 hTb)) (hts _ (z_w_in q3 hTb)) (g := F0 M pc' arr (.ref (ad o) :: st'.map (z_cv ad))) rfl (hl.2.1.trans hml.symm) (a := ad o) (rest := st'.map (z_cv ad)) rfl hdg (by omega) (by show 2 * 0 + _ + 12 ≤ _; rw [hcat]; omega) ?_
              exact ih cs ls st' S ad arr H locs (pc' + 3) cells slots hsuf' hnext h hTY hl hHH hbc hbs kk
            · cases h
          · rename_i hlk
            split at h
            · rename_i o st'
              obtain ⟨g1, h⟩ := z_g_some h
              simp only [Bool.and_eq_true] at g1
              obtain ⟨⟨g1, g2⟩, g3⟩ := g1
              obtain ⟨S', h1, h2⟩ := Option.bind_eq_some_iff.mp h
              obtain ⟨hT', me, hme, hM⟩ := hCA _ _ _ _ h1 hTY
              have hm1 := hCM _ _ _ _ h1
              have hm2 := z_ablk_mono hCM _ _ _ _ _ _ h2
              dsimp only at hm2
              cases lk with
              | nil => exact absurd rfl hlk
              | cons a lk' =>
                simp only [z_chka, Bool.and_eq_true, decide_eq_true_eq, hme] at hc3
                obtain ⟨rfl, hc3⟩ := hc3
                cases hpx : PX[(a :: lk').getD 0 0]? with
                | none =>
                  rw [hpx] at hc3
                  cases hc3
                | some q =>
                  rw [hpx] at hc3
                  simp only [Bool.and_eq_true, decide_eq_true_eq, Bool.or_eq_true] at hc3
                  obtain ⟨⟨⟨⟨hlink, hcode⟩, hinst⟩, hini⟩, hm3, hm4, hpar, hnm, hret, hmx⟩ := hc3
                  have hGI := z_good hcode hTb
                  have hR2 : (z_rma d (S'.1.length - S.1.length) (z_slo S'.1 - z_slo S.1)).frames + 1 ≤ R.frames ∧ 8 + (me.2.2.1 + 11) + (z_rma d (S'.1.length - S.1.length) (z_slo S'.1 - z_slo S.1)).locals ≤ R.locals := ⟨hRm.1, by
                    show 8 + (me.2.2.1 + 11) + 60 * d ≤ R.locals
                    omega⟩
                  have hpre : PreS s H (z_PcA D cl tys A ad cid Tb [.ref o] S) (.ref (ad o) :: []) := ⟨z_PcA_blind, fun U hU hW => ⟨rfl, va_K.moved hW.alike hK, by rw [hU]; exact hP, hD, hNW.warm hW, fun C' hC' => va_AO.moved hW.alike (hAO C' hC'), fun q hq => hA q (Nat.le_trans hS.1 (by rw [hU] at hq; exact hq))⟩⟩
                  have hroom : 2 * (F0 M pc' arr ((.ref o :: st').map (z_cv ad))).monitorRoom + ((st'.map (z_cv ad)).map fun v => v.category).sum ≤ 8 := lv_room (by rw [z_cat_map]; exact Nat.le_of_ble_eq_true g1)
                  have hcs : cells + (S'.1.length - S.1.length) ≤ R.cells ∧ slots + (z_slo S'.1 - z_slo S.1) ≤ R.slots := ⟨by omega, by omega⟩
                  have hM' := hM ad
                  rw [show z_wsm Tb me = .code me.1 me.2.1 me.2.2.1 none :: Tb.filter goodWord from by rw [← hret]; rfl] at hM'
                  rw [show z_wsm Tb me = .code me.1 me.2.1 me.2.2.1 none :: Tb.filter goodWord from by rw [← hret]; rfl] at hGI
                  have run : va_Run p l e R s M args below meth c H locs cells slots (S'.1.length - S.1.length) (z_slo S'.1 - z_slo S.1) (F0 M pc' arr ((.ref o :: st').map (z_cv ad))) (st'.map (z_cv ad)) (z_QcA D cl A ad cid S S' (Value.ref (ad o) :: []).toArray) A := by
                    rcases hlink with hlink | hlink
                    · exact va_runI (Ts := Ts) (own := own) (nL := nL) ⟨hx, hb, hml, hown, hts⟩ hM' ⟨callB_of 0 hts hGI rfl rfl rfl (hts _ (z_w_in hini hTb)) (hts _ (z_w_in hlink hTb)) ⟨hm3, hm4, hpar⟩ hR2, hnm, hts _ (z_w_in hinst hTb)⟩ hpre rfl rfl hl.2.1 rfl hroom hdg hcs
                    · exact va_runIN (Ts := Ts) (own := own) (nL := nL) ⟨hx, hb, hml, hown, hts⟩ hM' ⟨va_cnB 0 hts hGI rfl rfl rfl (hNW _ (List.mem_of_getElem? hlink) rfl) (hts _ (z_w_in hini hTb)) ⟨hm3, hm4, hpar⟩ hR2, hnm, hts _ (z_w_in hinst hTb)⟩ hpre rfl rfl hl.2.1 rfl hroom hdg hcs
                  refine z_callA run hS (fun ad1 H1 locs1 k0 k1 k2 k3 => ?_)
                  have key := ih cs ls st' S' ad1 arr H1 locs1 (pc' + 3) (cells + (S'.1.length - S.1.length)) (slots + (z_slo S'.1 - z_slo S.1)) hsuf' hnext h2 hT' (hl.ad k0 g2) ⟨k1, k2, k3⟩ (by omega) (by omega) (fun ad' arr' H' locs' b1 b2 b3 b4 => by
                    have e1 : cells + (S'.1.length - S.1.length) + (SF.1.length - S'.1.length) = cells + (SF.1.length - S.1.length) := by omega
                    have e2 : slots + (z_slo S'.1 - z_slo S.1) + (z_slo SF.1 - z_slo S'.1) = slots + (z_slo SF.1 - z_slo S.1) := by omega
                    rw [e1, e2]
                    exact kk ad' arr' H' locs' (z_agr_trans k0 b1 hm1.1) b2 b3 b4)
                  rw [z_rok_map k0 g3] at key
                  exact key
            · cases h
        · -- putfield
          rename_i idx
          split at h
          · rename_i v a st' hkd
            split at h
            · rename_i ci sl e1
              split at h
              · rename_i r0 e2
                obtain ⟨g1, hrun⟩ := z_g_some h
                have g1 := Nat.eq_of_beq_eq_true g1
                subst g1
                simp only [z_chk, Bool.and_eq_true, decide_eq_true_eq] at hc1
                obtain ⟨rfl, hc1⟩ := hc1
                cases hcl : cl[lk.getD 0 0]? with
                | none =>
                  rw [hcl] at hc1
                  cases hc1
                | some q =>
                  obtain ⟨C', T, N⟩ := q
                  rw [hcl] at hc1
                  simp only [Bool.and_eq_true, decide_eq_true_eq] at hc1
                  obtain ⟨⟨hkN, hw⟩, -⟩ := hc1
                  simp only [z_chka, hcl, Bool.and_eq_true, decide_eq_true_eq] at hc3
                  obtain ⟨hc3, hty⟩ := hc3
                  obtain ⟨hfin, hdecl⟩ := hc3 hkd
                  have hname : meth.name = "<init>" := by
                    rcases hin with q | q
                    · exact absurd rfl (q _ hmem idx)
                    · exact q
                  have hlink := hts _ (z_w_in hw hTb)
                  have hlen : lk.getD 1 0 < (sl.mapIdx (fun j s => z_vl ad s (S.2 a j))).length := by
                    rw [List.length_mapIdx]
                    exact (List.getElem?_eq_some_iff.mp e2).1
                  have hnf : narrow (tyq (lk.getD 0 0) (lk.getD 1 0)) (.ref (ad v)) = .ref (ad v) ∧ fits (tyq (lk.getD 0 0) (lk.getD 1 0)) (.ref (ad v)) = true := by
                    revert hty
                    cases tyq (lk.getD 0 0) (lk.getD 1 0) <;> intro hty <;> first | exact ⟨rfl, rfl⟩ | exact absurd hkd (of_decide_eq_true hty)
                  have hset : (z_rd ad cid S.1 S.2).set a (ad a, .inr (lk.getD 0 0, (sl.mapIdx (fun j s => z_vl ad s (S.2 a j))).set (lk.getD 1 0) (.ref (ad v)))) = z_rd ad cid (S.1.set a (.inl (lk.getD 0 0, sl.set (lk.getD 1 0) (.inr (some v))))) S.2 := by
                    rw [← z_rd_setc e1]
                    congr 2
                    show Sum.inr (lk.getD 0 0, _) = Sum.inr (lk.getD 0 0, (sl.set (lk.getD 1 0) (.inr (some v))).mapIdx (fun j s => z_vl ad s (S.2 a j)))
                    congr 2
                    apply List.ext_getElem?
                    intro i
                    have hlt := (List.getElem?_eq_some_iff.mp e2).1
                    simp only [List.getElem?_set, List.getElem?_mapIdx, List.length_mapIdx]
                    by_cases hi : lk.getD 1 0 = i
                    · rw [if_pos hi, if_pos hi]
                      subst hi
                      rw [if_pos hlt, if_pos hlt]
                      rfl
                    · rw [if_neg hi, if_neg hi]
                  refine va_putF hx hb hts (hCK _ _ hcl).1 (tyq (lk.getD 0 0)) (hCK _ _ hcl).2.1 (hCK _ _ hcl).2.2 hown hK hP hD hS a (z_rd_at e1) hcl (lk.getD 1 0) hkN hlink (fun _ q => q) hfin hname hdecl (v := .ref (ad v)) (ty := tyq (lk.getD 0 0) (lk.getD 1 0)) ((hCK _ _ hcl).2.1 _ hkN) hnf.1 hnf.2 hlen hdg (fun H1 locs1 k1 k2 k3 => ?_)
                  have hsl : z_slo (S.1.set a (.inl (lk.getD 0 0, sl.set (lk.getD 1 0) (.inr (some v))))) = z_slo S.1 := z_slo_set e1 (by simp [z_csl])
                  refine ih cs ls st' (S.1.set a (.inl (lk.getD 0 0, sl.set (lk.getD 1 0) (.inr (some v)))), S.2) ad arr H1 locs1 (pc' + 3) cells slots hsuf' hnext hrun (z_TY_set hTY (fun _ _ hh => by cases hh) (fun _ _ hh => by cases hh)) hl ⟨hset ▸ k1, hset ▸ k2, k3⟩ (by dsimp only; rw [List.length_set]; exact hbc) (by dsimp only; rw [hsl]; exact hbs) (fun ad' arr' H' locs' b1 b2 b3 b4 => ?_)
                  dsimp only at b1 ⊢
                  rw [List.length_set] at b1 ⊢
                  rw [hsl]
                  exact kk ad' arr' H' locs' b1 b2 b3 b4
              · cases h
            · cases h
          · cases h
        · refine z_ins_ok (b := 0) (hG S.1 hTY) (fun hq1 hq2 => absurd hq2 (hSc _ hmem hq1)) hc1 hdg h hl hHH ?_
          · intro o ls' st' m' H' locs' arr' hk hl' hH'
            cases o with
            | none => exact ih cs ls' st' (S.1, m') ad arr' H' locs' (pc' + len) cells slots hsuf' hnext hk hTY hl' hH' hbc hbs kk
            | some t => exact ih (z_at code t) ls' st' (S.1, m') ad arr' H' locs' t cells slots (z_at_suf code t) (fun y cs' hy => z_at_pc code t y cs' hy) hk hTY hl' hH' hbc hbs kk
end Ze
end
section
/-! Makers: contracts -/
def z_moka (Tb : List Jvm.Cond) (cl : List vw_C) (tyq : Nat → Nat → FieldType) (P : List z_Me) (PX : List (List Nat)) (me : z_Me) : Prop :=
  plainName me.1.cls = true ∧ (∀ x ∈ me.2.2.2.2.1, z_ech Tb cl tyq P PX me.1.cls me.2.1 x ∧ z_chka Tb cl tyq P PX me.1.cls x.2.1 x.2.2.1 x.2.2.2.1 x.2.2.2.2.2 = true) ∧ z_chn me.2.2.2.2.1 = true ∧ me.2.2.2.1 = none ∧ me.1.cls ≠ z_lawn ∧ me.1.name = "<init>" ∧ decode me.2.1 (z_stop me.2.2.2.2.1) = .ok (.return_, 1)
theorem z_ago_mono {cl : List vw_C} {tyq : Nat → Nat → FieldType} {FS : List Nat} {P : List z_Me} : ∀ d : Nat, z_CM (z_ago cl tyq FS P d) := by
  intro d
  induction d with
  | zero =>
    intro j as S S' h
    simp [z_ago] at h
  | succ d ih =>
    intro j as S S' h
    unfold z_ago at h
    split at h
    · obtain ⟨q, h1, h2⟩ := Option.bind_eq_some_iff.mp (z_g_some h).2
      have := z_ablk_mono ih _ _ _ _ _ _ h1
      split at h2
      · cases h2
        exact this
      · cases h2
    · cases h
section Zf
variable {l : Launch} {D : va_G} {cl : List vw_C} {tys : List (ClassId × FieldType)} {cid : Nat → ClassId} {A : Nat → Prop} {Tb : List Jvm.Cond} {tyq : Nat → Nat → FieldType} {P : List z_Me} {PX : List (List Nat)} {FS : List Nat}
/-- the shape's kinds stay along a run of makers -/
def z_CT (tys : List (ClassId × FieldType)) (cid : Nat → ClassId) (C : Nat → List Value → z_S → Option z_S) : Prop := ∀ (j : Nat) (as : List Value) (S S' : z_S), C j as S = some S' → z_TY tys cid S.1 → z_TY tys cid S'.1
set_option maxHeartbeats 4000000 in
theorem z_ablk_ty {L : Nat} {xs : Nat → Int32} {code : List z_En} {stop : Nat} {C : Nat → List Value → z_S → Option z_S} (hFS : z_FSok cl tys cid FS) (hC : z_CT tys cid C) : ∀ (n : Nat) (cs : List z_En) (ls : z_V) (st : List Value) (S : z_S) (q : z_V × List Value × z_S), z_ablk L xs cl tyq FS code stop C n cs ls st S = some q → z_TY tys cid S.1 → z_TY tys cid q.2.2.1 := by
  intro n
  induction n with
  | zero =>
    intro cs ls st S q h
    simp [z_ablk] at h
  | succ n ih =>
    intro cs ls st S q h hT
    cases cs with
    | nil => simp [z_ablk] at h
    | cons e cs =>
      unfold z_ablk at h
      split at h
      · cases h
        exact hT
      · split at h
        · split at h
          · exact ih _ _ _ _ _ (z_g_some h).2 (z_TY_push hT (fun _ _ hh => by cases hh) (fun _ _ hh => by cases hh))
          · cases h
        · split at h
          · obtain ⟨g1, h⟩ := z_g_some h
            simp only [Bool.and_eq_true, decide_eq_true_eq] at g1
            have g5 := Nat.le_of_ble_eq_true g1.2
            obtain ⟨t0, ht0⟩ := hFS _ _ g1.1.2 (by omega)
            refine ih _ _ _ _ _ h (z_TY_push hT (fun n' t' hh => ?_) (fun _ _ hh => by cases hh))
            simp only [Sum.inr.injEq, Sum.inl.injEq, Prod.mk.injEq] at hh
            obtain ⟨rfl, rfl⟩ := hh
            refine ⟨t0, ?_⟩
            rw [ht0]
            rcases (show e.2.2.2.1.getD 0 0 = 0 ∨ e.2.2.2.1.getD 0 0 = 1 by omega) with q | q <;> rw [q] <;> rfl
          · cases h
        · split at h
          · obtain ⟨g1, h⟩ := z_g_some h
            simp only [Bool.and_eq_true, decide_eq_true_eq] at g1
            have g5 := Nat.blt_eq.mp g1.2
            obtain ⟨t0, ht0⟩ := hFS _ _ g1.1.2 (by omega)
            exact ih _ _ _ _ _ h (z_TY_push hT (fun n' t' hh => by cases hh) (fun _ _ hh => ⟨t0, _, ht0⟩))
          · cases h
        · split at h
          · split at h
            · rename_i ci l cv sl h1 h2
              obtain ⟨g1, h⟩ := z_g_some h
              exact ih _ _ _ _ _ h (z_TY_set hT (fun _ _ hh => by cases hh) (fun _ _ hh => (hT _).2 _ _ h1))
            · cases h
          · cases h
        · split at h
          · split at h
            · exact ih _ _ _ _ _ (z_g_some h).2 hT
            · cases h
          · split at h
            · obtain ⟨S', h1, h2⟩ := Option.bind_eq_some_iff.mp (z_g_some h).2
              exact ih _ _ _ _ _ h2 (hC _ _ _ _ h1 hT)
            · cases h
        · split at h
          · split at h
            · split at h
              · exact ih _ _ _ _ _ (z_g_some h).2 (z_TY_set hT (fun _ _ hh => by cases hh) (fun _ _ hh => by cases hh))
              · cases h
            · cases h
          · cases h
        · obtain ⟨o, ls', st', m', h⟩ := z_ins_k h
          cases o with
          | none => exact ih cs ls' st' (S.1, m') q h hT
          | some t => exact ih (z_at code t) ls' st' (S.1, m') q h hT
theorem z_ago_ty (hFS : z_FSok cl tys cid FS) : ∀ d : Nat, z_CT tys cid (z_ago cl tyq FS P d) := by
  intro d
  induction d with
  | zero =>
    intro j as S S' h
    simp [z_ago] at h
  | succ d ih =>
    intro j as S S' h hT
    unfold z_ago at h
    split at h
    · obtain ⟨q, h1, h2⟩ := Option.bind_eq_some_iff.mp (z_g_some h).2
      have := z_ablk_ty hFS ih _ _ _ _ _ _ h1 hT
      split at h2
      · cases h2
        exact this
      · cases h2
    · cases h
set_option maxHeartbeats 4000000 in
theorem z_ago_ok (hM : ∀ (j : Nat) (me : z_Me), P[j]? = some me → me.1.name = "<init>" → z_moka Tb cl tyq P PX me) (hCK : z_CK cl (Tb.filter goodWord) tyq) (h4 : z_ty4 cl tyq) (hFS : z_FSok cl tys cid FS) :
    ∀ d : Nat, z_CA l D cl tys A cid Tb P d (z_ago cl tyq FS P d) := by
  intro d
  induction d with
  | zero =>
    intro j as S S' h
    simp [z_ago] at h
  | succ d ih =>
    intro j as S S' h hT
    refine ⟨z_ago_ty hFS _ _ _ _ _ h hT, ?_⟩
    unfold z_ago at h
    cases hme : P[j]? with
    | none =>
      rw [hme] at h
      cases h
    | some me =>
    rw [hme] at h
    dsimp only at h
    obtain ⟨g1, h⟩ := z_g_some h
    rw [Bool.and_eq_true, Bool.and_eq_true, decide_eq_true_eq] at g1
    refine ⟨me, rfl, fun ad => ?_⟩
    obtain ⟨hpl, hE, hch, hret, hlaw, hname, hdr⟩ := hM j me hme g1.2
    obtain ⟨⟨lsF, stF, SF⟩, h1, h2⟩ := Option.bind_eq_some_iff.mp h
    dsimp only at h2
    split at h2
    · have h2 := Option.some.inj h2
      subst h2
      refine Met.ofW (cc := me.2.1) (maxL := me.2.2.1) (ret := me.2.2.2.1) hpl rfl ?_
      intro p e s M args below meth c s₁ B hml hv
      obtain ⟨rfl, hK, hP, hD, hNW, hAO, hA⟩ := hv
      have hts := atoms_spec (ws := z_wsm Tb me) B.pre
      have hown : s.vm.findClass me.1.cls = some M.cls := findClass_of_methodNamed B.named
      have hTb : ∀ x ∈ Tb, goodWord x = true → x ∈ z_wsm Tb me := fun x hx hg => List.mem_cons_of_mem _ (List.mem_filter.mpr ⟨hx, hg⟩)
      have hin : meth.name = "<init>" := (name_of_methodNamed B.named B.method).1.trans hname
      have hlocks := B.notSynchronized
      have hr := B.returns
      rw [hret] at hr
      rw [lg_entry_eq]
      have hm := z_ablk_mono (z_ago_mono d) _ _ _ _ _ _ h1
      dsimp only at hm
      refine z_ablk_ok (H0 := s.heap) (Ts := z_wsm Tb me) (cc := me.2.1) (own := me.1.cls) (d := d) (fun sh hsh => ⟨B.exec, B.bytes, hown, hts, hK, hTb, fun ci q hq => ⟨fun x hx => List.mem_cons_of_mem _ ((hCK ci q hq).1 x hx), (hCK ci q hq).2⟩, hsh⟩) hml hNW hAO hA h4 hFS ⟨Nat.le_refl _, by show 60 * d + 60 ≤ 60 * (d + 1); omega⟩ (z_ago_mono d) ih hE hch (fun _ _ _ => hlaw) (Or.inr hin) 2000 _ _ [] S ad _ s.heap [] 0 0 0 (z_at_suf _ _) (fun y cs' hy => z_at_pc _ _ y cs' hy) h1 hT (z_L_entry (Nat.le_of_ble_eq_true g1.1.1)) ⟨hP, hD, va_S.rf⟩ (by show 0 + _ ≤ SF.1.length - S.1.length; omega) (by show 0 + _ ≤ z_slo SF.1 - z_slo S.1; omega) (fun ad' arr' H' locs' b1 b2 b3 b4 => ?_)
      rw [Nat.zero_add, Nat.zero_add]
      exact W.vret B.exec B.bytes hr (fun t ht hW => ⟨rfl, ⟨ad', b1, by rw [ht]; exact b4.1, b4.2.1⟩, b4.2.2.F ht⟩) b4.2.2.2.2 hdr
    · cases h2
end Zf
end
section
/-! The program, out of the class files: printed by wip/whole/gen/mk.py -/
def z_SH : List z_C := [.inl (9, [.inr (some 1), .inr (some 2), .inr (some 11), .inr (some 20), .inr (some 30), .inr (some 40), .inr (some 44), .inr (some 46), .inr (some 48), .inl 0, .inl 0]), .inr (.inr (4, [some 51, some 53, some 55, some 57])), .inl (2, [.inr (some 3), .inr (some 4), .inl 0, .inl 0, .inl 0]), .inr (.inl (0, 5)), .inr (.inr (1, [some 5, some 6, some 7, some 8, some 9, some 10])), .inl (1, [.inl 0, .inl 0, .inl 0, .inl 0, .inl 0, .inl 1, .inl 1]), .inl (1, [.inl 0, .inl 0, .inl 0, .inl 0, .inl 0, .inl 1, .inl 1]), .inl (1, [.inl 0, .inl 0, .inl 0, .inl 0, .inl 0, .inl 1, .inl 1]), .inl (1, [.inl 0, .inl 0, .inl 0, .inl 0, .inl 0, .inl 1, .inl 1]), .inl (1, [.inl 0, .inl 0, .inl 0, .inl 0, .inl 0, .inl 1, .inl 1]), .inl (1, [.inl 0, .inl 0, .inl 0, .inl 0, .inl 0, .inl 1, .inl 1]), .inl (2, [.inr (some 12), .inr (some 13), .inl 0, .inl 0, .inl 0]), .inr (.inl (0, 5)), .inr (.inr (1, [some 14, some 15, some 16, some 17, some 18, some 19])), .inl (1, [.inl 0, .inl 0, .inl 0, .inl 0, .inl 0, .inl 1, .inl 1]), .inl (1, [.inl 0, .inl 0, .inl 0, .inl 0, .inl 0, .inl 1, .inl 1]), .inl (1, [.inl 0, .inl 0, .inl 0, .inl 0, .inl 0, .inl 1, .inl 1]), .inl (1, [.inl 0, .inl 0, .inl 0, .inl 0, .inl 0, .inl 1, .inl 1]), .inl (1, [.inl 0, .inl 0, .inl 0, .inl 0, .inl 0, .inl 1, .inl 1]), .inl (1, [.inl 0, .inl 0, .inl 0, .inl 0, .inl 0, .inl 1, .inl 1]), .inl (8, [.inr (some 21), .inl 0]), .inl (2, [.inr (some 22), .inr (some 23), .inl 0, .inl 0, .inl 0]), .inr (.inl (0, 5)), .inr (.inr (1, [some 24, some 25, some 26, some 27, some 28, some 29])), .inl (1, [.inl 0, .inl 0, .inl 0, .inl 0, .inl 0, .inl 1, .inl 1]), .inl (1, [.inl 0, .inl 0, .inl 0, .inl 0, .inl 0, .inl 1, .inl 1]), .inl (1, [.inl 0, .inl 0, .inl 0, .inl 0, .inl 0, .inl 1, .inl 1]), .inl (1, [.inl 0, .inl 0, .inl 0, .inl 0, .inl 0, .inl 1, .inl 1]), .inl (1, [.inl 0, .inl 0, .inl 0, .inl 0, .inl 0, .inl 1, .inl 1]), .inl (1, [.inl 0, .inl 0, .inl 0, .inl 0, .inl 0, .inl 1, .inl 1]), .inl (0, [.inr (some 31), .inl 0, .inl 0, .inl 0]), .inl (2, [.inr (some 32), .inr (some 33), .inl 0, .inl 0, .inl 0]), .inr (.inl (0, 5)), .inr (.inr (1, [some 34, some 35, some 36, some 37, some 38, some 39])), .inl (1, [.inl 0, .inl 0, .inl 0, .inl 0, .inl 0, .inl 1, .inl 1]), .inl (1, [.inl 0, .inl 0, .inl 0, .inl 0, .inl 0, .inl 1, .inl 1]), .inl (1, [.inl 0, .inl 0, .inl 0, .inl 0, .inl 0, .inl 1, .inl 1]), .inl (1, [.inl 0, .inl 0, .inl 0, .inl 0, .inl 0, .inl 1, .inl 1]), .inl (1, [.inl 0, .inl 0, .inl 0, .inl 0, .inl 0, .inl 1, .inl 1]), .inl (1, [.inl 0, .inl 0, .inl 0, .inl 0, .inl 0, .inl 1, .inl 1]), .inl (3, [.inr (some 41), .inr (some 42), .inr (some 43), .inl 0]), .inr (.inl (0, 8)), .inr (.inl (0, 8)), .inr (.inl (1, 8)), .inl (5, [.inr (some 45)]), .inr (.inl (0, 55)), .inl (7, [.inr (some 47)]), .inr (.inl (0, 6)), .inl (6, [.inr (some 49), .inr (some 50), .inl 0, .inl 0]), .inr (.inl (0, 6)), .inr (.inl (0, 6)), .inl (4, [.inr (some 52), .inl 1, .inl 0, .inl 0]), .inr (.inl (0, 60)), .inl (4, [.inr (some 54), .inl 1, .inl 0, .inl 0]), .inr (.inl (0, 60)), .inl (4, [.inr (some 56), .inl 1, .inl 0, .inl 0]), .inr (.inl (0, 60)), .inl (4, [.inr (some 58), .inl 1, .inl 0, .inl 0]), .inr (.inl (0, 60)), .inl (10, [.inl 0, .inl 0, .inr (some 60), .inr (some 61), .inr (some 62), .inl 0, .inl 0, .inl 0, .inl 0, .inl 0, .inr (some 63), .inr (some 64), .inr (some 65), .inr (some 66), .inr (some 67), .inr (some 68), .inl 0, .inl 0, .inl 0, .inr (some 69), .inr (some 70), .inr (some 71), .inr (some 72), .inl 0, .inl 0, .inl 0, .inl 0, .inr (some 73), .inr (some 74), .inr (some 75), .inr (some 76), .inl 0, .inl 0, .inl 0, .inr (some 77), .inr (some 78), .inr (some 79)]), .inr (.inl (0, 4)), .inr (.inl (0, 4)), .inr (.inl (0, 240)), .inr (.inl (0, 5)), .inr (.inl (0, 6)), .inr (.inl (0, 6)), .inr (.inl (0, 6)), .inr (.inl (0, 6)), .inr (.inl (0, 6)), .inr (.inl (0, 5)), .inr (.inl (0, 24)), .inr (.inl (0, 6)), .inr (.inl (0, 6)), .inr (.inl (0, 55)), .inr (.inl (0, 6)), .inr (.inl (0, 6)), .inr (.inl (0, 6)), .inr (.inl (0, 8)), .inr (.inl (0, 8)), .inr (.inl (0, 8))]
def z_isH (h : Nat) : Prop := h = 2 ∨ h = 11 ∨ h = 21 ∨ h = 31
def z_isS (s : Nat) : Prop := s = 51 ∨ s = 53 ∨ s = 55 ∨ s = 57
def cd_X0_init : List z_En := [(0, .aload_n 0, 1, [0], 0, []), (1, .invokespecial 3, 3, [], 0, [193, 73, 74]), (4, .aload_n 0, 1, [0], 0, []), (5, .new 9, 3, [2], 0, [194, 78, 54]), (8, .dup, 1, [], 0, []), (9, .invokespecial 11, 3, [11], 0, [195]), (12, .putfield 12, 3, [0, 0, 2], 0, [196]), (15, .return_, 1, [], 0, [])]
def hd_X0_init : List (Nat × List Bool) := []
def me_X0_init : z_Me := (⟨"StayingGuests$Dinner", "<init>", "()V"⟩, prog_2_method_1_code, 1, none, cd_X0_init, hd_X0_init)
def cd_X0_refusal : List z_En := [(0, .iconst 0, 1, [], 0, []), (1, .istore 5, 2, [5], 0, []), (3, .iload 5, 2, [5], 0, []), (5, .iload 4, 2, [4], 0, []), (7, .if_icmp .ge 90, 3, [97], 0, []), (10, .aload_n 2, 1, [2], 0, []), (11, .getfield 18, 3, [4, 0, 2], 0, [278]), (14, .iload_n 3, 1, [3], 0, []), (15, .iconst 2, 1, [], 2, []), (16, .iload 5, 2, [5], 0, []), (18, .imul, 1, [], 0, []), (19, .iadd, 1, [], 0, []), (20, .iaload, 1, [], 0, []), (21, .istore 6, 2, [6], 0, []), (23, .aload_n 2, 1, [2], 0, []), (24, .getfield 18, 3, [4, 0, 2], 0, [278]), (27, .iload_n 3, 1, [3], 0, []), (28, .iconst 2, 1, [], 2, []), (29, .iload 5, 2, [5], 0, []), (31, .imul, 1, [], 0, []), (32, .iadd, 1, [], 0, []), (33, .iconst 1, 1, [], 1, []), (34, .iadd, 1, [], 0, []), (35, .iaload, 1, [], 0, []), (36, .istore 7, 2, [7], 0, []), (38, .iload 7, 2, [7], 0, []), (40, .bipush 10, 2, [], 10, []), (42, .if_icmp .ne 17, 3, [59], 0, []), (45, .iload 6, 2, [6], 0, []), (47, .iconst 0, 1, [], 0, []), (48, .bipush 9, 2, [], 9, []), (50, .invokestatic 24, 3, [94, 3, 3], 0, [496]), (53, .ifCond .ne 38, 3, [91], 0, []), (56, .bipush (-2), 2, [], -2, []), (58, .ireturn, 1, [], 0, []), (59, .iload 7, 2, [7], 0, []), (61, .invokestatic 28, 3, [6, 1, 3], 0, [497]), (64, .ifCond .ne 14, 3, [78], 0, []), (67, .iload 7, 2, [7], 0, []), (69, .invokestatic 32, 3, [7, 1, 3], 0, [500]), (72, .ifCond .ne 6, 3, [78], 0, []), (75, .bipush (-2), 2, [], -2, []), (77, .ireturn, 1, [], 0, []), (78, .iload 6, 2, [6], 0, []), (80, .ifCond .lt 9, 3, [89], 0, []), (83, .iload 6, 2, [6], 0, []), (85, .iload_n 1, 1, [1], 0, []), (86, .if_icmp .lt 5, 3, [91], 0, []), (89, .iconst (-1), 1, [], -1, []), (90, .ireturn, 1, [], 0, []), (91, .iinc 5 1, 3, [5], 1, []), (94, .goto (-91), 3, [3], 0, []), (97, .iconst 0, 1, [], 0, []), (98, .ireturn, 1, [], 0, [])]
def hd_X0_refusal : List (Nat × List Bool) := [(3, [false, true, true, true, true, true, false, false])]
def me_X0_refusal : z_Me := (⟨"StayingGuests$Dinner", "refusal", "(ILStayingGuests$Sheet;II)I"⟩, prog_2_method_2_code, 8, some .int, cd_X0_refusal, hd_X0_refusal)
def cd_X0_play : List z_En := [(0, .aload_n 0, 1, [0], 0, []), (1, .getfield 12, 3, [0, 0, 2], 0, [196]), (4, .aload_n 1, 1, [1], 0, []), (5, .invokevirtual 35, 3, [14, 2, 0, 2], 0, [507]), (8, .aload_n 0, 1, [0], 0, []), (9, .bipush (-9), 2, [], -9, []), (11, .putfield 39, 3, [0, 1, 0], 0, [197]), (14, .aload_n 0, 1, [0], 0, []), (15, .iconst 0, 1, [], 0, []), (16, .putfield 43, 3, [0, 2, 0], 0, [198]), (19, .aload_n 0, 1, [0], 0, []), (20, .iconst 0, 1, [], 0, []), (21, .putfield 46, 3, [0, 3, 0], 0, [199]), (24, .iconst 0, 1, [], 0, []), (25, .istore 5, 2, [5], 0, []), (27, .iload 5, 2, [5], 0, []), (29, .iload 4, 2, [4], 0, []), (31, .if_icmp .ge 139, 3, [170], 0, []), (34, .aload_n 0, 1, [0], 0, []), (35, .getfield 39, 3, [0, 1, 0], 0, [197]), (38, .bipush (-9), 2, [], -9, []), (40, .if_icmp .ne 130, 3, [170], 0, []), (43, .aload_n 2, 1, [2], 0, []), (44, .getfield 18, 3, [4, 0, 2], 0, [278]), (47, .iload_n 3, 1, [3], 0, []), (48, .iconst 2, 1, [], 2, []), (49, .iload 5, 2, [5], 0, []), (51, .imul, 1, [], 0, []), (52, .iadd, 1, [], 0, []), (53, .iaload, 1, [], 0, []), (54, .istore 6, 2, [6], 0, []), (56, .aload_n 2, 1, [2], 0, []), (57, .getfield 18, 3, [4, 0, 2], 0, [278]), (60, .iload_n 3, 1, [3], 0, []), (61, .iconst 2, 1, [], 2, []), (62, .iload 5, 2, [5], 0, []), (64, .imul, 1, [], 0, []), (65, .iadd, 1, [], 0, []), (66, .iconst 1, 1, [], 1, []), (67, .iadd, 1, [], 0, []), (68, .iaload, 1, [], 0, []), (69, .istore 7, 2, [7], 0, []), (71, .iload 7, 2, [7], 0, []), (73, .bipush 10, 2, [], 10, []), (75, .if_icmp .ne 15, 3, [90], 0, []), (78, .aload_n 0, 1, [0], 0, []), (79, .getfield 12, 3, [0, 0, 2], 0, [196]), (82, .iload 6, 2, [6], 0, []), (84, .invokevirtual 49, 3, [23, 2, 0, 2], 0, [508]), (87, .goto 77, 3, [164], 0, []), (90, .iload 7, 2, [7], 0, []), (92, .invokestatic 32, 3, [7, 1, 3], 0, [500]), (95, .ifCond .eq 24, 3, [119], 0, []), (98, .aload_n 0, 1, [0], 0, []), (99, .getfield 12, 3, [0, 0, 2], 0, [196]), (102, .getfield 53, 3, [2, 1, 2], 0, [144]), (105, .iload 6, 2, [6], 0, []), (107, .aaload, 1, [1, 1, 6], 0, []), (108, .iload 7, 2, [7], 0, []), (110, .bipush 20, 2, [], 20, []), (112, .isub, 1, [], 0, []), (113, .putfield 57, 3, [1, 3, 0], 0, [104]), (116, .goto 48, 3, [164], 0, []), (119, .iload 7, 2, [7], 0, []), (121, .aload_n 0, 1, [0], 0, []), (122, .getfield 12, 3, [0, 0, 2], 0, [196]), (125, .getfield 62, 3, [2, 2, 0], 0, [149]), (128, .if_icmp .ge 19, 3, [147], 0, []), (131, .aload_n 0, 1, [0], 0, []), (132, .getfield 12, 3, [0, 0, 2], 0, [196]), (135, .getfield 53, 3, [2, 1, 2], 0, [144]), (138, .iload 6, 2, [6], 0, []), (140, .aaload, 1, [1, 1, 6], 0, []), (141, .getfield 65, 3, [1, 5, 1], 0, [114]), (144, .ifCond .eq 12, 3, [156], 0, []), (147, .aload_n 0, 1, [0], 0, []), (148, .iload 5, 2, [5], 0, []), (150, .putfield 39, 3, [0, 1, 0], 0, [197]), (153, .goto 11, 3, [164], 0, []), (156, .aload_n 0, 1, [0], 0, []), (157, .iload 7, 2, [7], 0, []), (159, .iload 6, 2, [6], 0, []), (161, .invokevirtual 69, 3, [3, 3, 0, 0], 0, [509]), (164, .iinc 5 1, 3, [5], 1, []), (167, .goto (-140), 3, [27], 0, []), (170, .return_, 1, [], 0, [])]
def hd_X0_play : List (Nat × List Bool) := [(27, [true, false, true, true, true, true, false, false])]
def me_X0_play : z_Me := (⟨"StayingGuests$Dinner", "play", "(LStayingGuests$House;LStayingGuests$Sheet;II)V"⟩, prog_2_method_3_code, 8, none, cd_X0_play, hd_X0_play)
def cd_X0_serve : List z_En := [(0, .aload_n 0, 1, [0], 0, []), (1, .getfield 12, 3, [0, 0, 2], 0, [196]), (4, .iload_n 1, 1, [1], 0, []), (5, .iload_n 2, 1, [2], 0, []), (6, .invokevirtual 73, 3, [19, 3, 1, 2], 0, [513]), (9, .istore_n 3, 1, [3], 0, []), (10, .iload_n 3, 1, [3], 0, []), (11, .ifCond .le 25, 3, [36], 0, []), (14, .aload_n 0, 1, [0], 0, []), (15, .dup, 1, [], 0, []), (16, .getfield 43, 3, [0, 2, 0], 0, [198]), (19, .iload_n 3, 1, [3], 0, []), (20, .iadd, 1, [], 0, []), (21, .putfield 43, 3, [0, 2, 0], 0, [198]), (24, .aload_n 0, 1, [0], 0, []), (25, .dup, 1, [], 0, []), (26, .getfield 46, 3, [0, 3, 0], 0, [199]), (29, .iload_n 3, 1, [3], 0, []), (30, .iconst 1, 1, [], 1, []), (31, .isub, 1, [], 0, []), (32, .iadd, 1, [], 0, []), (33, .putfield 46, 3, [0, 3, 0], 0, [199]), (36, .return_, 1, [], 0, [])]
def hd_X0_serve : List (Nat × List Bool) := []
def me_X0_serve : z_Me := (⟨"StayingGuests$Dinner", "serve", "(II)V"⟩, prog_2_method_4_code, 4, none, cd_X0_serve, hd_X0_serve)
def cd_X0_answer : List z_En := [(0, .iload_n 1, 1, [1], 0, []), (1, .iconst 1, 1, [], 1, []), (2, .if_icmp .ne 8, 3, [10], 0, []), (5, .aload_n 0, 1, [0], 0, []), (6, .getfield 39, 3, [0, 1, 0], 0, [197]), (9, .ireturn, 1, [], 0, []), (10, .aload_n 0, 1, [0], 0, []), (11, .getfield 39, 3, [0, 1, 0], 0, [197]), (14, .bipush (-9), 2, [], -9, []), (16, .if_icmp .eq 11, 3, [27], 0, []), (19, .bipush (-100), 2, [], -100, []), (21, .aload_n 0, 1, [0], 0, []), (22, .getfield 39, 3, [0, 1, 0], 0, [197]), (25, .isub, 1, [], 0, []), (26, .ireturn, 1, [], 0, []), (27, .iload_n 1, 1, [1], 0, []), (28, .tableswitch 62 0 4 #[36, 62, 44, 52, 57], 36, [90, 0, 64, 1, 90, 2, 72, 3, 80, 4, 85], 0, []), (64, .aload_n 0, 1, [0], 0, []), (65, .getfield 12, 3, [0, 0, 2], 0, [196]), (68, .invokevirtual 77, 3, [26, 1, 1, 2], 0, [518]), (71, .ireturn, 1, [], 0, []), (72, .aload_n 0, 1, [0], 0, []), (73, .getfield 12, 3, [0, 0, 2], 0, [196]), (76, .invokevirtual 81, 3, [27, 1, 1, 2], 0, [522]), (79, .ireturn, 1, [], 0, []), (80, .aload_n 0, 1, [0], 0, []), (81, .getfield 43, 3, [0, 2, 0], 0, [198]), (84, .ireturn, 1, [], 0, []), (85, .aload_n 0, 1, [0], 0, []), (86, .getfield 46, 3, [0, 3, 0], 0, [199]), (89, .ireturn, 1, [], 0, []), (90, .aload_n 0, 1, [0], 0, []), (91, .iload_n 1, 1, [1], 0, []), (92, .bipush 10, 2, [], 10, []), (94, .isub, 1, [], 0, []), (95, .invokevirtual 84, 3, [5, 2, 1, 0], 0, [526]), (98, .ireturn, 1, [], 0, [])]
def hd_X0_answer : List (Nat × List Bool) := []
def me_X0_answer : z_Me := (⟨"StayingGuests$Dinner", "answer", "(I)I"⟩, prog_2_method_5_code, 2, some .int, cd_X0_answer, hd_X0_answer)
def cd_X0_gatheredOf : List z_En := [(0, .iload_n 1, 1, [1], 0, []), (1, .ifCond .lt 29, 3, [30], 0, []), (4, .iload_n 1, 1, [1], 0, []), (5, .aload_n 0, 1, [0], 0, []), (6, .getfield 12, 3, [0, 0, 2], 0, [196]), (9, .getfield 88, 3, [2, 3, 0], 0, [158]), (12, .if_icmp .ge 18, 3, [30], 0, []), (15, .aload_n 0, 1, [0], 0, []), (16, .getfield 12, 3, [0, 0, 2], 0, [196]), (19, .getfield 53, 3, [2, 1, 2], 0, [144]), (22, .iload_n 1, 1, [1], 0, []), (23, .aaload, 1, [1, 1, 6], 0, []), (24, .getfield 91, 3, [1, 4, 0], 0, [109]), (27, .goto 5, 3, [32], 0, []), (30, .bipush (-9), 2, [], -9, []), (32, .ireturn, 1, [], 0, [])]
def hd_X0_gatheredOf : List (Nat × List Bool) := []
def me_X0_gatheredOf : z_Me := (⟨"StayingGuests$Dinner", "gatheredOf", "(I)I"⟩, prog_2_method_6_code, 2, some .int, cd_X0_gatheredOf, hd_X0_gatheredOf)
def cd_X0_isSignAct : List z_En := [(0, .iload_n 0, 1, [0], 0, []), (1, .iconst 0, 1, [], 0, []), (2, .iconst 4, 1, [], 4, []), (3, .invokestatic 24, 3, [94, 3, 3], 0, [496]), (6, .ireturn, 1, [], 0, [])]
def hd_X0_isSignAct : List (Nat × List Bool) := []
def me_X0_isSignAct : z_Me := (⟨"StayingGuests$Dinner", "isSignAct", "(I)Z"⟩, prog_2_method_7_code, 1, some .boolean, cd_X0_isSignAct, hd_X0_isSignAct)
def cd_X0_isSeatAct : List z_En := [(0, .iload_n 0, 1, [0], 0, []), (1, .bipush 20, 2, [], 20, []), (3, .bipush 25, 2, [], 25, []), (5, .invokestatic 24, 3, [94, 3, 3], 0, [496]), (8, .ireturn, 1, [], 0, [])]
def hd_X0_isSeatAct : List (Nat × List Bool) := []
def me_X0_isSeatAct : z_Me := (⟨"StayingGuests$Dinner", "isSeatAct", "(I)Z"⟩, prog_2_method_8_code, 1, some .boolean, cd_X0_isSeatAct, hd_X0_isSeatAct)
def cd_X1_init : List z_En := [(0, .aload_n 0, 1, [0], 0, []), (1, .invokespecial 1, 3, [], 0, [89, 73, 74]), (4, .return_, 1, [], 0, [])]
def hd_X1_init : List (Nat × List Bool) := []
def me_X1_init : z_Me := (⟨"StayingGuests$Guest", "<init>", "()V"⟩, prog_3_method_1_code, 1, none, cd_X1_init, hd_X1_init)
def cd_X1_checkIn : List z_En := [(0, .aload_n 0, 1, [0], 0, []), (1, .iload_n 1, 1, [1], 0, []), (2, .putfield 7, 3, [1, 0, 0], 0, [90]), (5, .aload_n 0, 1, [0], 0, []), (6, .iconst 0, 1, [], 0, []), (7, .putfield 13, 3, [1, 4, 0], 0, [107]), (10, .aload_n 0, 1, [0], 0, []), (11, .iconst 0, 1, [], 0, []), (12, .putfield 16, 3, [1, 5, 1], 0, [111]), (15, .aload_n 0, 1, [0], 0, []), (16, .iconst 0, 1, [], 0, []), (17, .putfield 20, 3, [1, 6, 1], 0, [117]), (20, .return_, 1, [], 0, [])]
def hd_X1_checkIn : List (Nat × List Bool) := []
def me_X1_checkIn : z_Me := (⟨"StayingGuests$Guest", "checkIn", "(I)V"⟩, prog_3_method_2_code, 2, none, cd_X1_checkIn, hd_X1_checkIn)
def cd_X1_become : List z_En := [(0, .aload_n 0, 1, [0], 0, []), (1, .aload_n 1, 1, [1], 0, []), (2, .getfield 7, 3, [1, 0, 0], 0, [90]), (5, .putfield 7, 3, [1, 0, 0], 0, [90]), (8, .aload_n 0, 1, [0], 0, []), (9, .aload_n 1, 1, [1], 0, []), (10, .getfield 23, 3, [1, 1, 0], 0, [94]), (13, .putfield 23, 3, [1, 1, 0], 0, [94]), (16, .aload_n 0, 1, [0], 0, []), (17, .aload_n 1, 1, [1], 0, []), (18, .getfield 26, 3, [1, 2, 0], 0, [98]), (21, .putfield 26, 3, [1, 2, 0], 0, [98]), (24, .aload_n 0, 1, [0], 0, []), (25, .aload_n 1, 1, [1], 0, []), (26, .getfield 29, 3, [1, 3, 0], 0, [102]), (29, .putfield 29, 3, [1, 3, 0], 0, [102]), (32, .aload_n 0, 1, [0], 0, []), (33, .aload_n 1, 1, [1], 0, []), (34, .getfield 13, 3, [1, 4, 0], 0, [107]), (37, .putfield 13, 3, [1, 4, 0], 0, [107]), (40, .aload_n 0, 1, [0], 0, []), (41, .aload_n 1, 1, [1], 0, []), (42, .getfield 16, 3, [1, 5, 1], 0, [111]), (45, .putfield 16, 3, [1, 5, 1], 0, [111]), (48, .aload_n 0, 1, [0], 0, []), (49, .aload_n 1, 1, [1], 0, []), (50, .getfield 20, 3, [1, 6, 1], 0, [117]), (53, .putfield 20, 3, [1, 6, 1], 0, [117]), (56, .return_, 1, [], 0, [])]
def hd_X1_become : List (Nat × List Bool) := []
def me_X1_become : z_Me := (⟨"StayingGuests$Guest", "become", "(LStayingGuests$Guest;)V"⟩, prog_3_method_3_code, 2, none, cd_X1_become, hd_X1_become)
def cd_X2_init : List z_En := [(0, .aload_n 0, 1, [0], 0, []), (1, .invokespecial 3, 3, [], 0, [82, 73, 74]), (4, .aload_n 0, 1, [0], 0, []), (5, .iconst 5, 1, [], 5, []), (6, .newarray .int, 2, [0], 0, [136]), (8, .putfield 9, 3, [2, 0, 2], 0, [137]), (11, .aload_n 0, 1, [0], 0, []), (12, .bipush 6, 2, [], 6, []), (14, .anewarray 15, 3, [1], 0, [83, 84]), (17, .putfield 17, 3, [2, 1, 2], 0, [141]), (20, .iconst 0, 1, [], 0, []), (21, .istore_n 1, 1, [1], 0, []), (22, .iload_n 1, 1, [1], 0, []), (23, .bipush 6, 2, [], 6, []), (25, .if_icmp .ge 22, 3, [47], 0, []), (28, .aload_n 0, 1, [0], 0, []), (29, .getfield 17, 3, [2, 1, 2], 0, [141]), (32, .iload_n 1, 1, [1], 0, []), (33, .new 15, 3, [1], 0, [83, 85, 55]), (36, .dup, 1, [], 0, []), (37, .invokespecial 21, 3, [8], 0, [86]), (40, .aastore, 1, [], 0, []), (41, .iinc 1 1, 3, [1], 1, []), (44, .goto (-22), 3, [22], 0, []), (47, .return_, 1, [], 0, [])]
def hd_X2_init : List (Nat × List Bool) := [(22, [true, true])]
def me_X2_init : z_Me := (⟨"StayingGuests$House", "<init>", "()V"⟩, prog_4_method_1_code, 2, none, cd_X2_init, hd_X2_init)
def cd_X2_stands : List z_En := [(0, .aload_n 0, 1, [0], 0, []), (1, .getfield 22, 3, [2, 3, 0], 0, [153]), (4, .ifCond .le 7, 3, [11], 0, []), (7, .iconst 1, 1, [], 1, []), (8, .goto 4, 3, [12], 0, []), (11, .iconst 0, 1, [], 0, []), (12, .ireturn, 1, [], 0, [])]
def hd_X2_stands : List (Nat × List Bool) := []
def me_X2_stands : z_Me := (⟨"StayingGuests$House", "stands", "()Z"⟩, prog_4_method_2_code, 1, some .boolean, cd_X2_stands, hd_X2_stands)
def cd_X2_clear : List z_En := [(0, .aload_n 0, 1, [0], 0, []), (1, .iconst 0, 1, [], 0, []), (2, .putfield 26, 3, [2, 2, 0], 0, [147]), (5, .aload_n 0, 1, [0], 0, []), (6, .iconst 0, 1, [], 0, []), (7, .putfield 22, 3, [2, 3, 0], 0, [153]), (10, .aload_n 0, 1, [0], 0, []), (11, .iconst 0, 1, [], 0, []), (12, .putfield 29, 3, [2, 4, 0], 0, [159]), (15, .return_, 1, [], 0, [])]
def hd_X2_clear : List (Nat × List Bool) := []
def me_X2_clear : z_Me := (⟨"StayingGuests$House", "clear", "()V"⟩, prog_4_method_3_code, 1, none, cd_X2_clear, hd_X2_clear)
def cd_X2_become : List z_En := [(0, .aload_n 0, 1, [0], 0, []), (1, .aload_n 1, 1, [1], 0, []), (2, .getfield 26, 3, [2, 2, 0], 0, [147]), (5, .putfield 26, 3, [2, 2, 0], 0, [147]), (8, .aload_n 0, 1, [0], 0, []), (9, .aload_n 1, 1, [1], 0, []), (10, .getfield 22, 3, [2, 3, 0], 0, [153]), (13, .putfield 22, 3, [2, 3, 0], 0, [153]), (16, .aload_n 0, 1, [0], 0, []), (17, .aload_n 1, 1, [1], 0, []), (18, .getfield 29, 3, [2, 4, 0], 0, [159]), (21, .putfield 29, 3, [2, 4, 0], 0, [159]), (24, .iconst 0, 1, [], 0, []), (25, .istore_n 2, 1, [2], 0, []), (26, .iload_n 2, 1, [2], 0, []), (27, .iconst 5, 1, [], 5, []), (28, .if_icmp .ge 21, 3, [49], 0, []), (31, .aload_n 0, 1, [0], 0, []), (32, .getfield 9, 3, [2, 0, 2], 0, [137]), (35, .iload_n 2, 1, [2], 0, []), (36, .aload_n 1, 1, [1], 0, []), (37, .getfield 9, 3, [2, 0, 2], 0, [137]), (40, .iload_n 2, 1, [2], 0, []), (41, .iaload, 1, [], 0, []), (42, .iastore, 1, [], 0, []), (43, .iinc 2 1, 3, [2], 1, []), (46, .goto (-20), 3, [26], 0, []), (49, .iconst 0, 1, [], 0, []), (50, .istore_n 2, 1, [2], 0, []), (51, .iload_n 2, 1, [2], 0, []), (52, .bipush 6, 2, [], 6, []), (54, .if_icmp .ge 24, 3, [78], 0, []), (57, .aload_n 0, 1, [0], 0, []), (58, .getfield 17, 3, [2, 1, 2], 0, [141]), (61, .iload_n 2, 1, [2], 0, []), (62, .aaload, 1, [1, 1, 6], 0, []), (63, .aload_n 1, 1, [1], 0, []), (64, .getfield 17, 3, [2, 1, 2], 0, [141]), (67, .iload_n 2, 1, [2], 0, []), (68, .aaload, 1, [1, 1, 6], 0, []), (69, .invokevirtual 32, 3, [10, 2, 0, 1], 0, [388]), (72, .iinc 2 1, 3, [2], 1, []), (75, .goto (-24), 3, [51], 0, []), (78, .return_, 1, [], 0, [])]
def hd_X2_become : List (Nat × List Bool) := [(26, [true, true, true]), (51, [true, true, true])]
def me_X2_become : z_Me := (⟨"StayingGuests$House", "become", "(LStayingGuests$House;)V"⟩, prog_4_method_4_code, 3, none, cd_X2_become, hd_X2_become)
def cd_X2_weight : List z_En := [(0, .aload_n 0, 1, [0], 0, []), (1, .getfield 17, 3, [2, 1, 2], 0, [141]), (4, .iload_n 2, 1, [2], 0, []), (5, .aaload, 1, [1, 1, 6], 0, []), (6, .getfield 36, 3, [1, 0, 0], 0, [93]), (9, .lookupswitch 43 #[(0, 27), (1, 34)], 27, [52, 0, 36, 1, 43], 0, []), (36, .aload_n 0, 1, [0], 0, []), (37, .getfield 9, 3, [2, 0, 2], 0, [137]), (40, .iload_n 1, 1, [1], 0, []), (41, .iaload, 1, [], 0, []), (42, .ireturn, 1, [], 0, []), (43, .aload_n 0, 1, [0], 0, []), (44, .getfield 9, 3, [2, 0, 2], 0, [137]), (47, .iload_n 1, 1, [1], 0, []), (48, .iaload, 1, [], 0, []), (49, .iconst 1, 1, [], 1, []), (50, .isub, 1, [], 0, []), (51, .ireturn, 1, [], 0, []), (52, .aload_n 0, 1, [0], 0, []), (53, .getfield 9, 3, [2, 0, 2], 0, [137]), (56, .iload_n 1, 1, [1], 0, []), (57, .iaload, 1, [], 0, []), (58, .iconst 2, 1, [], 2, []), (59, .idiv, 1, [], 0, []), (60, .ireturn, 1, [], 0, [])]
def hd_X2_weight : List (Nat × List Bool) := []
def me_X2_weight : z_Me := (⟨"StayingGuests$House", "weight", "(II)I"⟩, prog_4_method_5_code, 3, some .int, cd_X2_weight, hd_X2_weight)
def cd_X2_shocks : List z_En := [(0, .aload_n 0, 1, [0], 0, []), (1, .iload_n 1, 1, [1], 0, []), (2, .iload_n 2, 1, [2], 0, []), (3, .invokevirtual 39, 3, [15, 3, 1, 2], 0, [436]), (6, .aload_n 0, 1, [0], 0, []), (7, .getfield 17, 3, [2, 1, 2], 0, [141]), (10, .iload_n 2, 1, [2], 0, []), (11, .aaload, 1, [1, 1, 6], 0, []), (12, .getfield 43, 3, [1, 1, 0], 0, [96]), (15, .if_icmp .le 7, 3, [22], 0, []), (18, .iconst 1, 1, [], 1, []), (19, .goto 4, 3, [23], 0, []), (22, .iconst 0, 1, [], 0, []), (23, .ireturn, 1, [], 0, [])]
def hd_X2_shocks : List (Nat × List Bool) := []
def me_X2_shocks : z_Me := (⟨"StayingGuests$House", "shocks", "(II)Z"⟩, prog_4_method_6_code, 3, some .boolean, cd_X2_shocks, hd_X2_shocks)
def cd_X2_isSoft : List z_En := [(0, .aload_n 0, 1, [0], 0, []), (1, .iload_n 1, 1, [1], 0, []), (2, .iload_n 2, 1, [2], 0, []), (3, .invokevirtual 39, 3, [15, 3, 1, 2], 0, [436]), (6, .ifCond .le 16, 3, [22], 0, []), (9, .aload_n 0, 1, [0], 0, []), (10, .iload_n 1, 1, [1], 0, []), (11, .iload_n 2, 1, [2], 0, []), (12, .invokevirtual 46, 3, [16, 3, 3, 2], 0, [432]), (15, .ifCond .ne 7, 3, [22], 0, []), (18, .iconst 1, 1, [], 1, []), (19, .goto 4, 3, [23], 0, []), (22, .iconst 0, 1, [], 0, []), (23, .ireturn, 1, [], 0, [])]
def hd_X2_isSoft : List (Nat × List Bool) := []
def me_X2_isSoft : z_Me := (⟨"StayingGuests$House", "isSoft", "(II)Z"⟩, prog_4_method_7_code, 3, some .boolean, cd_X2_isSoft, hd_X2_isSoft)
def cd_X2_lack : List z_En := [(0, .aload_n 0, 1, [0], 0, []), (1, .getfield 17, 3, [2, 1, 2], 0, [141]), (4, .iload_n 1, 1, [1], 0, []), (5, .aaload, 1, [1, 1, 6], 0, []), (6, .getfield 50, 3, [1, 2, 0], 0, [101]), (9, .aload_n 0, 1, [0], 0, []), (10, .getfield 17, 3, [2, 1, 2], 0, [141]), (13, .iload_n 1, 1, [1], 0, []), (14, .aaload, 1, [1, 1, 6], 0, []), (15, .getfield 53, 3, [1, 4, 0], 0, [110]), (18, .isub, 1, [], 0, []), (19, .ireturn, 1, [], 0, [])]
def hd_X2_lack : List (Nat × List Bool) := []
def me_X2_lack : z_Me := (⟨"StayingGuests$House", "lack", "(I)I"⟩, prog_4_method_8_code, 2, some .int, cd_X2_lack, hd_X2_lack)
def cd_X2_offer : List z_En := [(0, .aload_n 0, 1, [0], 0, []), (1, .iload_n 1, 1, [1], 0, []), (2, .iload_n 2, 1, [2], 0, []), (3, .invokevirtual 46, 3, [16, 3, 3, 2], 0, [432]), (6, .ifCond .eq 16, 3, [22], 0, []), (9, .aload_n 0, 1, [0], 0, []), (10, .getfield 17, 3, [2, 1, 2], 0, [141]), (13, .iload_n 2, 1, [2], 0, []), (14, .aaload, 1, [1, 1, 6], 0, []), (15, .iconst 1, 1, [], 1, []), (16, .putfield 56, 3, [1, 6, 1], 0, [120]), (19, .bipush (-9), 2, [], -9, []), (21, .ireturn, 1, [], 0, []), (22, .aload_n 0, 1, [0], 0, []), (23, .getfield 17, 3, [2, 1, 2], 0, [141]), (26, .iload_n 2, 1, [2], 0, []), (27, .aaload, 1, [1, 1, 6], 0, []), (28, .dup, 1, [], 0, []), (29, .getfield 53, 3, [1, 4, 0], 0, [110]), (32, .aload_n 0, 1, [0], 0, []), (33, .iload_n 1, 1, [1], 0, []), (34, .iload_n 2, 1, [2], 0, []), (35, .invokevirtual 39, 3, [15, 3, 1, 2], 0, [436]), (38, .iadd, 1, [], 0, []), (39, .putfield 53, 3, [1, 4, 0], 0, [110]), (42, .aload_n 0, 1, [0], 0, []), (43, .invokevirtual 60, 3, [20, 1, 1, 2], 0, [437]), (46, .ireturn, 1, [], 0, [])]
def hd_X2_offer : List (Nat × List Bool) := []
def me_X2_offer : z_Me := (⟨"StayingGuests$House", "offer", "(II)I"⟩, prog_4_method_9_code, 3, some .int, cd_X2_offer, hd_X2_offer)
def cd_X2_dawn : List z_En := [(0, .iconst 0, 1, [], 0, []), (1, .istore_n 1, 1, [1], 0, []), (2, .aload_n 0, 1, [0], 0, []), (3, .invokevirtual 64, 3, [21, 1, 1, 2], 0, [441]), (6, .istore_n 2, 1, [2], 0, []), (7, .iload_n 2, 1, [2], 0, []), (8, .ifCond .lt 43, 3, [51], 0, []), (11, .iload_n 1, 1, [1], 0, []), (12, .bipush 6, 2, [], 6, []), (14, .if_icmp .ge 37, 3, [51], 0, []), (17, .aload_n 0, 1, [0], 0, []), (18, .getfield 17, 3, [2, 1, 2], 0, [141]), (21, .iload_n 2, 1, [2], 0, []), (22, .aaload, 1, [1, 1, 6], 0, []), (23, .iconst 1, 1, [], 1, []), (24, .putfield 67, 3, [1, 5, 1], 0, [116]), (27, .iinc 1 1, 3, [1], 1, []), (30, .aload_n 0, 1, [0], 0, []), (31, .aload_n 0, 1, [0], 0, []), (32, .getfield 17, 3, [2, 1, 2], 0, [141]), (35, .iload_n 2, 1, [2], 0, []), (36, .aaload, 1, [1, 1, 6], 0, []), (37, .getfield 70, 3, [1, 3, 0], 0, [106]), (40, .invokevirtual 73, 3, [22, 2, 0, 2], 0, [449]), (43, .aload_n 0, 1, [0], 0, []), (44, .invokevirtual 64, 3, [21, 1, 1, 2], 0, [441]), (47, .istore_n 2, 1, [2], 0, []), (48, .goto (-41), 3, [7], 0, []), (51, .iload_n 1, 1, [1], 0, []), (52, .ireturn, 1, [], 0, [])]
def hd_X2_dawn : List (Nat × List Bool) := [(7, [true, true, true])]
def me_X2_dawn : z_Me := (⟨"StayingGuests$House", "dawn", "()I"⟩, prog_4_method_10_code, 3, some .int, cd_X2_dawn, hd_X2_dawn)
def cd_X2_firstReady : List z_En := [(0, .iconst 0, 1, [], 0, []), (1, .istore_n 1, 1, [1], 0, []), (2, .iload_n 1, 1, [1], 0, []), (3, .aload_n 0, 1, [0], 0, []), (4, .getfield 22, 3, [2, 3, 0], 0, [153]), (7, .if_icmp .ge 31, 3, [38], 0, []), (10, .aload_n 0, 1, [0], 0, []), (11, .getfield 17, 3, [2, 1, 2], 0, [141]), (14, .iload_n 1, 1, [1], 0, []), (15, .aaload, 1, [1, 1, 6], 0, []), (16, .getfield 67, 3, [1, 5, 1], 0, [116]), (19, .ifCond .ne 13, 3, [32], 0, []), (22, .aload_n 0, 1, [0], 0, []), (23, .iload_n 1, 1, [1], 0, []), (24, .invokevirtual 77, 3, [18, 2, 1, 2], 0, [445]), (27, .ifCond .gt 5, 3, [32], 0, []), (30, .iload_n 1, 1, [1], 0, []), (31, .ireturn, 1, [], 0, []), (32, .iinc 1 1, 3, [1], 1, []), (35, .goto (-33), 3, [2], 0, []), (38, .iconst (-1), 1, [], -1, []), (39, .ireturn, 1, [], 0, [])]
def hd_X2_firstReady : List (Nat × List Bool) := [(2, [true, true])]
def me_X2_firstReady : z_Me := (⟨"StayingGuests$House", "firstReady", "()I"⟩, prog_4_method_11_code, 2, some .int, cd_X2_firstReady, hd_X2_firstReady)
def cd_X2_stir : List z_En := [(0, .iconst 0, 1, [], 0, []), (1, .istore_n 2, 1, [2], 0, []), (2, .iload_n 2, 1, [2], 0, []), (3, .aload_n 0, 1, [0], 0, []), (4, .getfield 22, 3, [2, 3, 0], 0, [153]), (7, .if_icmp .ge 49, 3, [56], 0, []), (10, .aload_n 0, 1, [0], 0, []), (11, .getfield 17, 3, [2, 1, 2], 0, [141]), (14, .iload_n 2, 1, [2], 0, []), (15, .aaload, 1, [1, 1, 6], 0, []), (16, .getfield 67, 3, [1, 5, 1], 0, [116]), (19, .ifCond .ne 31, 3, [50], 0, []), (22, .aload_n 0, 1, [0], 0, []), (23, .getfield 17, 3, [2, 1, 2], 0, [141]), (26, .iload_n 2, 1, [2], 0, []), (27, .aaload, 1, [1, 1, 6], 0, []), (28, .getfield 70, 3, [1, 3, 0], 0, [106]), (31, .iload_n 1, 1, [1], 0, []), (32, .if_icmp .ne 18, 3, [50], 0, []), (35, .aload_n 0, 1, [0], 0, []), (36, .getfield 17, 3, [2, 1, 2], 0, [141]), (39, .iload_n 2, 1, [2], 0, []), (40, .aaload, 1, [1, 1, 6], 0, []), (41, .dup, 1, [], 0, []), (42, .getfield 53, 3, [1, 4, 0], 0, [110]), (45, .iconst 1, 1, [], 1, []), (46, .iadd, 1, [], 0, []), (47, .putfield 53, 3, [1, 4, 0], 0, [110]), (50, .iinc 2 1, 3, [2], 1, []), (53, .goto (-51), 3, [2], 0, []), (56, .return_, 1, [], 0, [])]
def hd_X2_stir : List (Nat × List Bool) := [(2, [true, true, true])]
def me_X2_stir : z_Me := (⟨"StayingGuests$House", "stir", "(I)V"⟩, prog_4_method_12_code, 3, none, cd_X2_stir, hd_X2_stir)
def cd_X2_sleep : List z_En := [(0, .aload_n 0, 1, [0], 0, []), (1, .dup, 1, [], 0, []), (2, .getfield 29, 3, [2, 4, 0], 0, [159]), (5, .iload_n 1, 1, [1], 0, []), (6, .iadd, 1, [], 0, []), (7, .putfield 29, 3, [2, 4, 0], 0, [159]), (10, .iconst 0, 1, [], 0, []), (11, .istore_n 2, 1, [2], 0, []), (12, .iload_n 2, 1, [2], 0, []), (13, .aload_n 0, 1, [0], 0, []), (14, .getfield 22, 3, [2, 3, 0], 0, [153]), (17, .if_icmp .ge 45, 3, [62], 0, []), (20, .aload_n 0, 1, [0], 0, []), (21, .getfield 17, 3, [2, 1, 2], 0, [141]), (24, .iload_n 2, 1, [2], 0, []), (25, .aaload, 1, [1, 1, 6], 0, []), (26, .getfield 67, 3, [1, 5, 1], 0, [116]), (29, .ifCond .ne 27, 3, [56], 0, []), (32, .aload_n 0, 1, [0], 0, []), (33, .getfield 17, 3, [2, 1, 2], 0, [141]), (36, .iload_n 2, 1, [2], 0, []), (37, .aaload, 1, [1, 1, 6], 0, []), (38, .iconst 0, 1, [], 0, []), (39, .aload_n 0, 1, [0], 0, []), (40, .getfield 17, 3, [2, 1, 2], 0, [141]), (43, .iload_n 2, 1, [2], 0, []), (44, .aaload, 1, [1, 1, 6], 0, []), (45, .getfield 53, 3, [1, 4, 0], 0, [110]), (48, .iload_n 1, 1, [1], 0, []), (49, .isub, 1, [], 0, []), (50, .invokestatic 81, 3, [1], 0, [465, 466, 64, 467]), (53, .putfield 53, 3, [1, 4, 0], 0, [110]), (56, .iinc 2 1, 3, [2], 1, []), (59, .goto (-47), 3, [12], 0, []), (62, .return_, 1, [], 0, [])]
def hd_X2_sleep : List (Nat × List Bool) := [(12, [true, true, true])]
def me_X2_sleep : z_Me := (⟨"StayingGuests$House", "sleep", "(I)V"⟩, prog_4_method_13_code, 3, none, cd_X2_sleep, hd_X2_sleep)
def cd_X2_gatheredByUnknowing : List z_En := [(0, .iconst 0, 1, [], 0, []), (1, .istore_n 1, 1, [1], 0, []), (2, .iconst 0, 1, [], 0, []), (3, .istore_n 2, 1, [2], 0, []), (4, .iload_n 2, 1, [2], 0, []), (5, .aload_n 0, 1, [0], 0, []), (6, .getfield 22, 3, [2, 3, 0], 0, [153]), (9, .if_icmp .ge 37, 3, [46], 0, []), (12, .iload_n 1, 1, [1], 0, []), (13, .aload_n 0, 1, [0], 0, []), (14, .getfield 17, 3, [2, 1, 2], 0, [141]), (17, .iload_n 2, 1, [2], 0, []), (18, .aaload, 1, [1, 1, 6], 0, []), (19, .getfield 67, 3, [1, 5, 1], 0, [116]), (22, .ifCond .eq 7, 3, [29], 0, []), (25, .iconst 0, 1, [], 0, []), (26, .goto 12, 3, [38], 0, []), (29, .aload_n 0, 1, [0], 0, []), (30, .getfield 17, 3, [2, 1, 2], 0, [141]), (33, .iload_n 2, 1, [2], 0, []), (34, .aaload, 1, [1, 1, 6], 0, []), (35, .getfield 53, 3, [1, 4, 0], 0, [110]), (38, .iadd, 1, [], 0, []), (39, .istore_n 1, 1, [1], 0, []), (40, .iinc 2 1, 3, [2], 1, []), (43, .goto (-39), 3, [4], 0, []), (46, .iload_n 1, 1, [1], 0, []), (47, .ireturn, 1, [], 0, [])]
def hd_X2_gatheredByUnknowing : List (Nat × List Bool) := [(4, [true, true, true])]
def me_X2_gatheredByUnknowing : z_Me := (⟨"StayingGuests$House", "gatheredByUnknowing", "()I"⟩, prog_4_method_14_code, 3, some .int, cd_X2_gatheredByUnknowing, hd_X2_gatheredByUnknowing)
def cd_X2_checkOut : List z_En := [(0, .iload_n 1, 1, [1], 0, []), (1, .istore_n 2, 1, [2], 0, []), (2, .iload_n 2, 1, [2], 0, []), (3, .aload_n 0, 1, [0], 0, []), (4, .getfield 22, 3, [2, 3, 0], 0, [153]), (7, .iconst 1, 1, [], 1, []), (8, .isub, 1, [], 0, []), (9, .if_icmp .ge 26, 3, [35], 0, []), (12, .aload_n 0, 1, [0], 0, []), (13, .getfield 17, 3, [2, 1, 2], 0, [141]), (16, .iload_n 2, 1, [2], 0, []), (17, .aaload, 1, [1, 1, 6], 0, []), (18, .aload_n 0, 1, [0], 0, []), (19, .getfield 17, 3, [2, 1, 2], 0, [141]), (22, .iload_n 2, 1, [2], 0, []), (23, .iconst 1, 1, [], 1, []), (24, .iadd, 1, [], 0, []), (25, .aaload, 1, [1, 1, 6], 0, []), (26, .invokevirtual 32, 3, [10, 2, 0, 1], 0, [388]), (29, .iinc 2 1, 3, [2], 1, []), (32, .goto (-30), 3, [2], 0, []), (35, .aload_n 0, 1, [0], 0, []), (36, .dup, 1, [], 0, []), (37, .getfield 22, 3, [2, 3, 0], 0, [153]), (40, .iconst 1, 1, [], 1, []), (41, .isub, 1, [], 0, []), (42, .putfield 22, 3, [2, 3, 0], 0, [153]), (45, .return_, 1, [], 0, [])]
def hd_X2_checkOut : List (Nat × List Bool) := [(2, [true, false, true])]
def me_X2_checkOut : z_Me := (⟨"StayingGuests$House", "checkOut", "(I)V"⟩, prog_4_method_15_code, 3, none, cd_X2_checkOut, hd_X2_checkOut)
def cd_X2_knowing : List z_En := [(0, .iconst 0, 1, [], 0, []), (1, .istore_n 1, 1, [1], 0, []), (2, .iconst 0, 1, [], 0, []), (3, .istore_n 2, 1, [2], 0, []), (4, .iload_n 2, 1, [2], 0, []), (5, .aload_n 0, 1, [0], 0, []), (6, .getfield 22, 3, [2, 3, 0], 0, [153]), (9, .if_icmp .ge 31, 3, [40], 0, []), (12, .iload_n 1, 1, [1], 0, []), (13, .aload_n 0, 1, [0], 0, []), (14, .getfield 17, 3, [2, 1, 2], 0, [141]), (17, .iload_n 2, 1, [2], 0, []), (18, .aaload, 1, [1, 1, 6], 0, []), (19, .getfield 67, 3, [1, 5, 1], 0, [116]), (22, .ifCond .eq 9, 3, [31], 0, []), (25, .iconst 1, 1, [], 1, []), (26, .iload_n 2, 1, [2], 0, []), (27, .ishl, 1, [], 0, []), (28, .goto 4, 3, [32], 0, []), (31, .iconst 0, 1, [], 0, []), (32, .ior, 1, [], 0, []), (33, .istore_n 1, 1, [1], 0, []), (34, .iinc 2 1, 3, [2], 1, []), (37, .goto (-33), 3, [4], 0, []), (40, .iload_n 1, 1, [1], 0, []), (41, .ireturn, 1, [], 0, [])]
def hd_X2_knowing : List (Nat × List Bool) := [(4, [true, true, true])]
def me_X2_knowing : z_Me := (⟨"StayingGuests$House", "knowing", "()I"⟩, prog_4_method_16_code, 3, some .int, cd_X2_knowing, hd_X2_knowing)
def cd_X2_shockedOnes : List z_En := [(0, .iconst 0, 1, [], 0, []), (1, .istore_n 1, 1, [1], 0, []), (2, .iconst 0, 1, [], 0, []), (3, .istore_n 2, 1, [2], 0, []), (4, .iload_n 2, 1, [2], 0, []), (5, .aload_n 0, 1, [0], 0, []), (6, .getfield 22, 3, [2, 3, 0], 0, [153]), (9, .if_icmp .ge 31, 3, [40], 0, []), (12, .iload_n 1, 1, [1], 0, []), (13, .aload_n 0, 1, [0], 0, []), (14, .getfield 17, 3, [2, 1, 2], 0, [141]), (17, .iload_n 2, 1, [2], 0, []), (18, .aaload, 1, [1, 1, 6], 0, []), (19, .getfield 56, 3, [1, 6, 1], 0, [120]), (22, .ifCond .eq 9, 3, [31], 0, []), (25, .iconst 1, 1, [], 1, []), (26, .iload_n 2, 1, [2], 0, []), (27, .ishl, 1, [], 0, []), (28, .goto 4, 3, [32], 0, []), (31, .iconst 0, 1, [], 0, []), (32, .ior, 1, [], 0, []), (33, .istore_n 1, 1, [1], 0, []), (34, .iinc 2 1, 3, [2], 1, []), (37, .goto (-33), 3, [4], 0, []), (40, .iload_n 1, 1, [1], 0, []), (41, .ireturn, 1, [], 0, [])]
def hd_X2_shockedOnes : List (Nat × List Bool) := [(4, [true, true, true])]
def me_X2_shockedOnes : z_Me := (⟨"StayingGuests$House", "shockedOnes", "()I"⟩, prog_4_method_17_code, 3, some .int, cd_X2_shockedOnes, hd_X2_shockedOnes)
def cd_X3_init : List z_En := [(0, .aload_n 0, 1, [0], 0, []), (1, .invokespecial 3, 3, [], 0, [214, 73, 74]), (4, .aload_n 0, 1, [0], 0, []), (5, .bipush 8, 2, [], 8, []), (7, .newarray .int, 2, [0], 0, [136]), (9, .putfield 9, 3, [3, 0, 2], 0, [215]), (12, .aload_n 0, 1, [0], 0, []), (13, .bipush 8, 2, [], 8, []), (15, .newarray .int, 2, [0], 0, [136]), (17, .putfield 15, 3, [3, 1, 2], 0, [216]), (20, .aload_n 0, 1, [0], 0, []), (21, .bipush 8, 2, [], 8, []), (23, .newarray .boolean, 2, [1], 0, [229]), (25, .putfield 18, 3, [3, 2, 2], 0, [217]), (28, .return_, 1, [], 0, [])]
def hd_X3_init : List (Nat × List Bool) := []
def me_X3_init : z_Me := (⟨"StayingGuests$Readings", "<init>", "()V"⟩, prog_5_method_1_code, 1, none, cd_X3_init, hd_X3_init)
def cd_X3_note : List z_En := [(0, .aload_n 0, 1, [0], 0, []), (1, .getfield 9, 3, [3, 0, 2], 0, [215]), (4, .aload_n 0, 1, [0], 0, []), (5, .getfield 22, 3, [3, 3, 0], 0, [218]), (8, .iload_n 1, 1, [1], 0, []), (9, .iastore, 1, [], 0, []), (10, .aload_n 0, 1, [0], 0, []), (11, .getfield 15, 3, [3, 1, 2], 0, [216]), (14, .aload_n 0, 1, [0], 0, []), (15, .getfield 22, 3, [3, 3, 0], 0, [218]), (18, .iload_n 2, 1, [2], 0, []), (19, .iastore, 1, [], 0, []), (20, .aload_n 0, 1, [0], 0, []), (21, .getfield 18, 3, [3, 2, 2], 0, [217]), (24, .aload_n 0, 1, [0], 0, []), (25, .getfield 22, 3, [3, 3, 0], 0, [218]), (28, .iload_n 3, 1, [3], 0, []), (29, .bastore, 1, [], 0, []), (30, .aload_n 0, 1, [0], 0, []), (31, .dup, 1, [], 0, []), (32, .getfield 22, 3, [3, 3, 0], 0, [218]), (35, .iconst 1, 1, [], 1, []), (36, .iadd, 1, [], 0, []), (37, .putfield 22, 3, [3, 3, 0], 0, [218]), (40, .aload_n 0, 1, [0], 0, []), (41, .getfield 22, 3, [3, 3, 0], 0, [218]), (44, .iconst 1, 1, [], 1, []), (45, .isub, 1, [], 0, []), (46, .ireturn, 1, [], 0, [])]
def hd_X3_note : List (Nat × List Bool) := []
def me_X3_note : z_Me := (⟨"StayingGuests$Readings", "note", "(IIZ)I"⟩, prog_5_method_2_code, 4, some .int, cd_X3_note, hd_X3_note)
def cd_X3_allSo : List z_En := [(0, .iconst 0, 1, [], 0, []), (1, .istore_n 2, 1, [2], 0, []), (2, .iload_n 2, 1, [2], 0, []), (3, .aload_n 0, 1, [0], 0, []), (4, .getfield 22, 3, [3, 3, 0], 0, [218]), (7, .if_icmp .ge 36, 3, [43], 0, []), (10, .aload_n 1, 1, [1], 0, []), (11, .aload_n 0, 1, [0], 0, []), (12, .getfield 9, 3, [3, 0, 2], 0, [215]), (15, .iload_n 2, 1, [2], 0, []), (16, .iaload, 1, [], 0, []), (17, .aload_n 0, 1, [0], 0, []), (18, .getfield 15, 3, [3, 1, 2], 0, [216]), (21, .iload_n 2, 1, [2], 0, []), (22, .iaload, 1, [], 0, []), (23, .invokevirtual 26, 3, [16, 3, 3, 2], 0, [630]), (26, .aload_n 0, 1, [0], 0, []), (27, .getfield 18, 3, [3, 2, 2], 0, [217]), (30, .iload_n 2, 1, [2], 0, []), (31, .baload, 1, [], 0, []), (32, .if_icmp .eq 5, 3, [37], 0, []), (35, .iconst 0, 1, [], 0, []), (36, .ireturn, 1, [], 0, []), (37, .iinc 2 1, 3, [2], 1, []), (40, .goto (-38), 3, [2], 0, []), (43, .iconst 1, 1, [], 1, []), (44, .ireturn, 1, [], 0, [])]
def hd_X3_allSo : List (Nat × List Bool) := [(2, [true, true, true])]
def me_X3_allSo : z_Me := (⟨"StayingGuests$Readings", "allSo", "(LStayingGuests$House;)Z"⟩, prog_5_method_3_code, 3, some .boolean, cd_X3_allSo, hd_X3_allSo)
def cd_X4_init : List z_En := [(0, .aload_n 0, 1, [0], 0, []), (1, .invokespecial 3, 3, [], 0, [276, 73, 74]), (4, .aload_n 0, 1, [0], 0, []), (5, .bipush 60, 2, [], 60, []), (7, .newarray .int, 2, [0], 0, [136]), (9, .putfield 9, 3, [4, 0, 2], 0, [277]), (12, .return_, 1, [], 0, [])]
def hd_X4_init : List (Nat × List Bool) := []
def me_X4_init : z_Me := (⟨"StayingGuests$Sheet", "<init>", "()V"⟩, prog_6_method_1_code, 1, none, cd_X4_init, hd_X4_init)
def cd_X4_renew : List z_En := [(0, .aload_n 0, 1, [0], 0, []), (1, .iconst 1, 1, [], 1, []), (2, .putfield 15, 3, [4, 1, 1], 0, [281]), (5, .aload_n 0, 1, [0], 0, []), (6, .iload_n 1, 1, [1], 0, []), (7, .putfield 19, 3, [4, 2, 0], 0, [283]), (10, .aload_n 0, 1, [0], 0, []), (11, .iload_n 2, 1, [2], 0, []), (12, .putfield 23, 3, [4, 3, 0], 0, [285]), (15, .iconst 0, 1, [], 0, []), (16, .istore_n 3, 1, [3], 0, []), (17, .iload_n 3, 1, [3], 0, []), (18, .bipush 60, 2, [], 60, []), (20, .if_icmp .ge 16, 3, [36], 0, []), (23, .aload_n 0, 1, [0], 0, []), (24, .getfield 9, 3, [4, 0, 2], 0, [277]), (27, .iload_n 3, 1, [3], 0, []), (28, .iconst 0, 1, [], 0, []), (29, .iastore, 1, [], 0, []), (30, .iinc 3 1, 3, [3], 1, []), (33, .goto (-16), 3, [17], 0, []), (36, .return_, 1, [], 0, [])]
def hd_X4_renew : List (Nat × List Bool) := [(17, [true, false, false, true])]
def me_X4_renew : z_Me := (⟨"StayingGuests$Sheet", "renew", "(II)V"⟩, prog_6_method_2_code, 4, none, cd_X4_renew, hd_X4_renew)
def cd_X4_write : List z_En := [(0, .aload_n 0, 1, [0], 0, []), (1, .getfield 19, 3, [4, 2, 0], 0, [283]), (4, .ifCond .ne 14, 3, [18], 0, []), (7, .aload_n 0, 1, [0], 0, []), (8, .getfield 9, 3, [4, 0, 2], 0, [277]), (11, .iload_n 1, 1, [1], 0, []), (12, .iload_n 2, 1, [2], 0, []), (13, .i2b, 1, [], 0, []), (14, .iastore, 1, [], 0, []), (15, .goto 29, 3, [44], 0, []), (18, .aload_n 0, 1, [0], 0, []), (19, .getfield 19, 3, [4, 2, 0], 0, [283]), (22, .iconst 1, 1, [], 1, []), (23, .if_icmp .ne 14, 3, [37], 0, []), (26, .aload_n 0, 1, [0], 0, []), (27, .getfield 9, 3, [4, 0, 2], 0, [277]), (30, .iload_n 1, 1, [1], 0, []), (31, .iload_n 2, 1, [2], 0, []), (32, .i2s, 1, [], 0, []), (33, .iastore, 1, [], 0, []), (34, .goto 10, 3, [44], 0, []), (37, .aload_n 0, 1, [0], 0, []), (38, .getfield 9, 3, [4, 0, 2], 0, [277]), (41, .iload_n 1, 1, [1], 0, []), (42, .iload_n 2, 1, [2], 0, []), (43, .iastore, 1, [], 0, []), (44, .return_, 1, [], 0, [])]
def hd_X4_write : List (Nat × List Bool) := []
def me_X4_write : z_Me := (⟨"StayingGuests$Sheet", "write", "(II)V"⟩, prog_6_method_3_code, 3, none, cd_X4_write, hd_X4_write)
def cd_X4_faultAs : List z_En := [(0, .aload_n 0, 1, [0], 0, []), (1, .getfield 15, 3, [4, 1, 1], 0, [281]), (4, .ifCond .ne 5, 3, [9], 0, []), (7, .iconst 1, 1, [], 1, []), (8, .ireturn, 1, [], 0, []), (9, .aload_n 0, 1, [0], 0, []), (10, .getfield 19, 3, [4, 2, 0], 0, [283]), (13, .iload_n 1, 1, [1], 0, []), (14, .if_icmp .ne 7, 3, [21], 0, []), (17, .iconst 0, 1, [], 0, []), (18, .goto 4, 3, [22], 0, []), (21, .iconst 2, 1, [], 2, []), (22, .ireturn, 1, [], 0, [])]
def hd_X4_faultAs : List (Nat × List Bool) := []
def me_X4_faultAs : z_Me := (⟨"StayingGuests$Sheet", "faultAs", "(I)I"⟩, prog_6_method_4_code, 2, some .int, cd_X4_faultAs, hd_X4_faultAs)
def cd_X4_faultAt : List z_En := [(0, .aload_n 0, 1, [0], 0, []), (1, .getfield 15, 3, [4, 1, 1], 0, [281]), (4, .ifCond .ne 5, 3, [9], 0, []), (7, .iconst 1, 1, [], 1, []), (8, .ireturn, 1, [], 0, []), (9, .iload_n 1, 1, [1], 0, []), (10, .ifCond .lt 15, 3, [25], 0, []), (13, .iload_n 1, 1, [1], 0, []), (14, .aload_n 0, 1, [0], 0, []), (15, .getfield 23, 3, [4, 3, 0], 0, [285]), (18, .if_icmp .ge 7, 3, [25], 0, []), (21, .iconst 0, 1, [], 0, []), (22, .goto 4, 3, [26], 0, []), (25, .iconst 3, 1, [], 3, []), (26, .ireturn, 1, [], 0, [])]
def hd_X4_faultAt : List (Nat × List Bool) := []
def me_X4_faultAt : z_Me := (⟨"StayingGuests$Sheet", "faultAt", "(I)I"⟩, prog_6_method_5_code, 2, some .int, cd_X4_faultAt, hd_X4_faultAt)
def cd_X4_faultOfCells : List z_En := [(0, .iload_n 1, 1, [1], 0, []), (1, .ifCond .lt 29, 3, [30], 0, []), (4, .iload_n 1, 1, [1], 0, []), (5, .aload_n 0, 1, [0], 0, []), (6, .getfield 23, 3, [4, 3, 0], 0, [285]), (9, .if_icmp .gt 21, 3, [30], 0, []), (12, .iload_n 2, 1, [2], 0, []), (13, .ifCond .lt 17, 3, [30], 0, []), (16, .iload_n 2, 1, [2], 0, []), (17, .aload_n 0, 1, [0], 0, []), (18, .getfield 23, 3, [4, 3, 0], 0, [285]), (21, .iload_n 1, 1, [1], 0, []), (22, .isub, 1, [], 0, []), (23, .if_icmp .gt 7, 3, [30], 0, []), (26, .iconst 0, 1, [], 0, []), (27, .goto 4, 3, [31], 0, []), (30, .iconst 3, 1, [], 3, []), (31, .ireturn, 1, [], 0, [])]
def hd_X4_faultOfCells : List (Nat × List Bool) := []
def me_X4_faultOfCells : z_Me := (⟨"StayingGuests$Sheet", "faultOfCells", "(II)I"⟩, prog_6_method_6_code, 3, some .int, cd_X4_faultOfCells, hd_X4_faultOfCells)
def cd_X5_init : List z_En := [(0, .aload_n 0, 1, [0], 0, []), (1, .invokespecial 3, 3, [], 0, [235, 73, 74]), (4, .aload_n 0, 1, [0], 0, []), (5, .bipush 55, 2, [], 55, []), (7, .newarray .int, 2, [0], 0, [136]), (9, .putfield 9, 3, [5, 0, 2], 0, [236]), (12, .return_, 1, [], 0, [])]
def hd_X5_init : List (Nat × List Bool) := []
def me_X5_init : z_Me := (⟨"StayingGuests$SoftRows", "<init>", "()V"⟩, prog_7_method_1_code, 1, none, cd_X5_init, hd_X5_init)
def cd_X5_fewest : List z_En := [(0, .aload_n 1, 1, [1], 0, []), (1, .iload_n 2, 1, [2], 0, []), (2, .invokestatic 15, 3, [40, 2, 1], 0, [538]), (5, .istore_n 3, 1, [3], 0, []), (6, .iload_n 3, 1, [3], 0, []), (7, .ifCond .ne 8, 3, [15], 0, []), (10, .bipush (-9), 2, [], -9, []), (12, .goto 14, 3, [26], 0, []), (15, .aload_n 1, 1, [1], 0, []), (16, .iload_n 2, 1, [2], 0, []), (17, .invokevirtual 19, 3, [18, 2, 1, 2], 0, [547]), (20, .iload_n 3, 1, [3], 0, []), (21, .iadd, 1, [], 0, []), (22, .iconst 1, 1, [], 1, []), (23, .isub, 1, [], 0, []), (24, .iload_n 3, 1, [3], 0, []), (25, .idiv, 1, [], 0, []), (26, .ireturn, 1, [], 0, [])]
def hd_X5_fewest : List (Nat × List Bool) := []
def me_X5_fewest : z_Me := (⟨"StayingGuests$SoftRows", "fewest", "(LStayingGuests$House;I)I"⟩, prog_7_method_2_code, 4, some .int, cd_X5_fewest, hd_X5_fewest)
def cd_X5_signOfRow : List z_En := [(0, .aload_n 1, 1, [1], 0, []), (1, .iload_n 2, 1, [2], 0, []), (2, .invokestatic 15, 3, [40, 2, 1], 0, [538]), (5, .istore 4, 2, [4], 0, []), (7, .aload_n 0, 1, [0], 0, []), (8, .aload_n 1, 1, [1], 0, []), (9, .iload_n 2, 1, [2], 0, []), (10, .invokevirtual 25, 3, [38, 3, 1, 5], 0, [552]), (13, .istore 5, 2, [5], 0, []), (15, .iload_n 3, 1, [3], 0, []), (16, .iload 5, 2, [5], 0, []), (18, .if_icmp .lt 6, 3, [24], 0, []), (21, .bipush (-9), 2, [], -9, []), (23, .ireturn, 1, [], 0, []), (24, .aload_n 1, 1, [1], 0, []), (25, .iload_n 2, 1, [2], 0, []), (26, .invokevirtual 19, 3, [18, 2, 1, 2], 0, [547]), (29, .istore 6, 2, [6], 0, []), (31, .bipush (-9), 2, [], -9, []), (33, .istore 7, 2, [7], 0, []), (35, .iconst 0, 1, [], 0, []), (36, .istore 8, 2, [8], 0, []), (38, .iload 8, 2, [8], 0, []), (40, .iload_n 3, 1, [3], 0, []), (41, .if_icmp .gt 49, 3, [90], 0, []), (44, .iinc 5 (-1), 3, [5], -1, []), (47, .aload_n 1, 1, [1], 0, []), (48, .iload_n 2, 1, [2], 0, []), (49, .iload 6, 2, [6], 0, []), (51, .iload 5, 2, [5], 0, []), (53, .iload 4, 2, [4], 0, []), (55, .imul, 1, [], 0, []), (56, .isub, 1, [], 0, []), (57, .invokestatic 28, 3, [41, 3, 1], 0, [553]), (60, .istore 7, 2, [7], 0, []), (62, .iload 7, 2, [7], 0, []), (64, .bipush (-9), 2, [], -9, []), (66, .if_icmp .ne 6, 3, [72], 0, []), (69, .bipush (-9), 2, [], -9, []), (71, .ireturn, 1, [], 0, []), (72, .iload 6, 2, [6], 0, []), (74, .aload_n 1, 1, [1], 0, []), (75, .iload 7, 2, [7], 0, []), (77, .iload_n 2, 1, [2], 0, []), (78, .invokevirtual 32, 3, [15, 3, 1, 2], 0, [545]), (81, .isub, 1, [], 0, []), (82, .istore 6, 2, [6], 0, []), (84, .iinc 8 1, 3, [8], 1, []), (87, .goto (-49), 3, [38], 0, []), (90, .iload 7, 2, [7], 0, []), (92, .ireturn, 1, [], 0, [])]
def hd_X5_signOfRow : List (Nat × List Bool) := [(38, [false, true, true, true, true, true, true, true, true])]
def me_X5_signOfRow : z_Me := (⟨"StayingGuests$SoftRows", "signOfRow", "(LStayingGuests$House;II)I"⟩, prog_7_method_3_code, 9, some .int, cd_X5_signOfRow, hd_X5_signOfRow)
def cd_X5_heaviest : List z_En := [(0, .iconst 0, 1, [], 0, []), (1, .istore_n 2, 1, [2], 0, []), (2, .iconst 0, 1, [], 0, []), (3, .istore_n 3, 1, [3], 0, []), (4, .iload_n 3, 1, [3], 0, []), (5, .aload_n 0, 1, [0], 0, []), (6, .getfield 36, 3, [2, 2, 0], 0, [150]), (9, .if_icmp .ge 29, 3, [38], 0, []), (12, .aload_n 0, 1, [0], 0, []), (13, .iload_n 3, 1, [3], 0, []), (14, .iload_n 1, 1, [1], 0, []), (15, .invokevirtual 40, 3, [17, 3, 3, 2], 0, [541]), (18, .ifCond .eq 14, 3, [32], 0, []), (21, .iload_n 2, 1, [2], 0, []), (22, .aload_n 0, 1, [0], 0, []), (23, .iload_n 3, 1, [3], 0, []), (24, .iload_n 1, 1, [1], 0, []), (25, .invokevirtual 32, 3, [15, 3, 1, 2], 0, [545]), (28, .invokestatic 44, 3, [1], 0, [546, 466, 64, 467]), (31, .istore_n 2, 1, [2], 0, []), (32, .iinc 3 1, 3, [3], 1, []), (35, .goto (-31), 3, [4], 0, []), (38, .iload_n 2, 1, [2], 0, []), (39, .ireturn, 1, [], 0, [])]
def hd_X5_heaviest : List (Nat × List Bool) := [(4, [true, true, true, true])]
def me_X5_heaviest : z_Me := (⟨"StayingGuests$SoftRows", "heaviest", "(LStayingGuests$House;I)I"⟩, prog_7_method_4_code, 4, some .int, cd_X5_heaviest, hd_X5_heaviest)
def cd_X5_firstOfAtLeast : List z_En := [(0, .iconst 0, 1, [], 0, []), (1, .istore_n 3, 1, [3], 0, []), (2, .iload_n 3, 1, [3], 0, []), (3, .aload_n 0, 1, [0], 0, []), (4, .getfield 36, 3, [2, 2, 0], 0, [150]), (7, .if_icmp .ge 30, 3, [37], 0, []), (10, .aload_n 0, 1, [0], 0, []), (11, .iload_n 3, 1, [3], 0, []), (12, .iload_n 1, 1, [1], 0, []), (13, .invokevirtual 40, 3, [17, 3, 3, 2], 0, [541]), (16, .ifCond .eq 15, 3, [31], 0, []), (19, .aload_n 0, 1, [0], 0, []), (20, .iload_n 3, 1, [3], 0, []), (21, .iload_n 1, 1, [1], 0, []), (22, .invokevirtual 32, 3, [15, 3, 1, 2], 0, [545]), (25, .iload_n 2, 1, [2], 0, []), (26, .if_icmp .lt 5, 3, [31], 0, []), (29, .iload_n 3, 1, [3], 0, []), (30, .ireturn, 1, [], 0, []), (31, .iinc 3 1, 3, [3], 1, []), (34, .goto (-32), 3, [2], 0, []), (37, .bipush (-9), 2, [], -9, []), (39, .ireturn, 1, [], 0, [])]
def hd_X5_firstOfAtLeast : List (Nat × List Bool) := [(2, [true, true, true, true])]
def me_X5_firstOfAtLeast : z_Me := (⟨"StayingGuests$SoftRows", "firstOfAtLeast", "(LStayingGuests$House;II)I"⟩, prog_7_method_5_code, 4, some .int, cd_X5_firstOfAtLeast, hd_X5_firstOfAtLeast)
def cd_X5_thatWeigh : List z_En := [(0, .iconst 0, 1, [], 0, []), (1, .istore 5, 2, [5], 0, []), (3, .iload 5, 2, [5], 0, []), (5, .iload 4, 2, [4], 0, []), (7, .if_icmp .gt 26, 3, [33], 0, []), (10, .aload_n 0, 1, [0], 0, []), (11, .getfield 9, 3, [5, 0, 2], 0, [236]), (14, .iload 5, 2, [5], 0, []), (16, .iload 5, 2, [5], 0, []), (18, .ifCond .ne 7, 3, [25], 0, []), (21, .iconst 1, 1, [], 1, []), (22, .goto 4, 3, [26], 0, []), (25, .iconst 0, 1, [], 0, []), (26, .iastore, 1, [], 0, []), (27, .iinc 5 1, 3, [5], 1, []), (30, .goto (-27), 3, [3], 0, []), (33, .iconst 0, 1, [], 0, []), (34, .istore 5, 2, [5], 0, []), (36, .iload 5, 2, [5], 0, []), (38, .iload_n 3, 1, [3], 0, []), (39, .if_icmp .ge 39, 3, [78], 0, []), (42, .iload 4, 2, [4], 0, []), (44, .istore 6, 2, [6], 0, []), (46, .iload 6, 2, [6], 0, []), (48, .ifCond .lt 24, 3, [72], 0, []), (51, .aload_n 0, 1, [0], 0, []), (52, .getfield 9, 3, [5, 0, 2], 0, [236]), (55, .iload 6, 2, [6], 0, []), (57, .aload_n 0, 1, [0], 0, []), (58, .aload_n 1, 1, [1], 0, []), (59, .iload_n 2, 1, [2], 0, []), (60, .iload 6, 2, [6], 0, []), (62, .invokevirtual 49, 3, [43, 4, 1, 5], 0, [564]), (65, .iastore, 1, [], 0, []), (66, .iinc 6 (-1), 3, [6], -1, []), (69, .goto (-23), 3, [46], 0, []), (72, .iinc 5 1, 3, [5], 1, []), (75, .goto (-39), 3, [36], 0, []), (78, .aload_n 0, 1, [0], 0, []), (79, .getfield 9, 3, [5, 0, 2], 0, [236]), (82, .iload 4, 2, [4], 0, []), (84, .iaload, 1, [], 0, []), (85, .ireturn, 1, [], 0, [])]
def hd_X5_thatWeigh : List (Nat × List Bool) := [(3, [true, true, true, true, true, true, false]), (36, [true, true, true, true, true, true, false]), (46, [true, true, true, true, true, true, true])]
def me_X5_thatWeigh : z_Me := (⟨"StayingGuests$SoftRows", "thatWeigh", "(LStayingGuests$House;III)I"⟩, prog_7_method_6_code, 7, some .int, cd_X5_thatWeigh, hd_X5_thatWeigh)
def cd_X5_waysByOneMore : List z_En := [(0, .iconst 0, 1, [], 0, []), (1, .istore 4, 2, [4], 0, []), (3, .iconst 0, 1, [], 0, []), (4, .istore 5, 2, [5], 0, []), (6, .iload 5, 2, [5], 0, []), (8, .aload_n 1, 1, [1], 0, []), (9, .getfield 36, 3, [2, 2, 0], 0, [150]), (12, .if_icmp .ge 48, 3, [60], 0, []), (15, .aload_n 1, 1, [1], 0, []), (16, .iload 5, 2, [5], 0, []), (18, .iload_n 2, 1, [2], 0, []), (19, .invokevirtual 32, 3, [15, 3, 1, 2], 0, [545]), (22, .istore 6, 2, [6], 0, []), (24, .aload_n 1, 1, [1], 0, []), (25, .iload 5, 2, [5], 0, []), (27, .iload_n 2, 1, [2], 0, []), (28, .invokevirtual 40, 3, [17, 3, 3, 2], 0, [541]), (31, .ifCond .eq 23, 3, [54], 0, []), (34, .iload 6, 2, [6], 0, []), (36, .iload_n 3, 1, [3], 0, []), (37, .if_icmp .gt 17, 3, [54], 0, []), (40, .iload 4, 2, [4], 0, []), (42, .aload_n 0, 1, [0], 0, []), (43, .getfield 9, 3, [5, 0, 2], 0, [236]), (46, .iload_n 3, 1, [3], 0, []), (47, .iload 6, 2, [6], 0, []), (49, .isub, 1, [], 0, []), (50, .iaload, 1, [], 0, []), (51, .iadd, 1, [], 0, []), (52, .istore 4, 2, [4], 0, []), (54, .iinc 5 1, 3, [5], 1, []), (57, .goto (-51), 3, [6], 0, []), (60, .iload 4, 2, [4], 0, []), (62, .ireturn, 1, [], 0, [])]
def hd_X5_waysByOneMore : List (Nat × List Bool) := [(6, [true, true, true, true, true, true, false])]
def me_X5_waysByOneMore : z_Me := (⟨"StayingGuests$SoftRows", "waysByOneMore", "(LStayingGuests$House;II)I"⟩, prog_7_method_7_code, 7, some .int, cd_X5_waysByOneMore, hd_X5_waysByOneMore)
def cd_X6_init : List z_En := [(0, .aload_n 0, 1, [0], 0, []), (1, .invokespecial 3, 3, [], 0, [256, 73, 74]), (4, .aload_n 0, 1, [0], 0, []), (5, .bipush 6, 2, [], 6, []), (7, .newarray .int, 2, [0], 0, [136]), (9, .putfield 9, 3, [6, 0, 2], 0, [257]), (12, .aload_n 0, 1, [0], 0, []), (13, .bipush 6, 2, [], 6, []), (15, .newarray .int, 2, [0], 0, [136]), (17, .putfield 15, 3, [6, 1, 2], 0, [258]), (20, .return_, 1, [], 0, [])]
def hd_X6_init : List (Nat × List Bool) := []
def me_X6_init : z_Me := (⟨"StayingGuests$Staff", "<init>", "()V"⟩, prog_8_method_1_code, 1, none, cd_X6_init, hd_X6_init)
def cd_X6_choose : List z_En := [(0, .aload_n 0, 1, [0], 0, []), (1, .iconst (-1), 1, [], -1, []), (2, .putfield 18, 3, [6, 2, 0], 0, [259]), (5, .aload_n 0, 1, [0], 0, []), (6, .iconst 0, 1, [], 0, []), (7, .putfield 22, 3, [6, 3, 0], 0, [261]), (10, .aload_n 0, 1, [0], 0, []), (11, .aload_n 1, 1, [1], 0, []), (12, .iconst 0, 1, [], 0, []), (13, .iconst 0, 1, [], 0, []), (14, .iconst 0, 1, [], 0, []), (15, .iconst 0, 1, [], 0, []), (16, .invokevirtual 25, 3, [47, 6, 0, 6], 0, [595]), (19, .return_, 1, [], 0, [])]
def hd_X6_choose : List (Nat × List Bool) := []
def me_X6_choose : z_Me := (⟨"StayingGuests$Staff", "choose", "(LStayingGuests$House;)V"⟩, prog_8_method_2_code, 2, none, cd_X6_choose, hd_X6_choose)
def cd_X6_signFor : List z_En := [(0, .aload_n 0, 1, [0], 0, []), (1, .getfield 15, 3, [6, 1, 2], 0, [258]), (4, .iload_n 1, 1, [1], 0, []), (5, .iaload, 1, [], 0, []), (6, .bipush 9, 2, [], 9, []), (8, .if_icmp .ne 8, 3, [16], 0, []), (11, .bipush (-9), 2, [], -9, []), (13, .goto 9, 3, [22], 0, []), (16, .aload_n 0, 1, [0], 0, []), (17, .getfield 15, 3, [6, 1, 2], 0, [258]), (20, .iload_n 1, 1, [1], 0, []), (21, .iaload, 1, [], 0, []), (22, .ireturn, 1, [], 0, [])]
def hd_X6_signFor : List (Nat × List Bool) := []
def me_X6_signFor : z_Me := (⟨"StayingGuests$Staff", "signFor", "(I)I"⟩, prog_8_method_3_code, 2, some .int, cd_X6_signFor, hd_X6_signFor)
def cd_X6_tryFrom : List z_En := [(0, .iload_n 2, 1, [2], 0, []), (1, .bipush 6, 2, [], 6, []), (3, .if_icmp .lt 12, 3, [15], 0, []), (6, .aload_n 0, 1, [0], 0, []), (7, .iload 4, 2, [4], 0, []), (9, .iload 5, 2, [5], 0, []), (11, .invokevirtual 29, 3, [48, 3, 0, 6], 0, [599]), (14, .return_, 1, [], 0, []), (15, .iload_n 2, 1, [2], 0, []), (16, .aload_n 1, 1, [1], 0, []), (17, .getfield 33, 3, [2, 3, 0], 0, [156]), (20, .if_icmp .ge 111, 3, [131], 0, []), (23, .aload_n 1, 1, [1], 0, []), (24, .getfield 38, 3, [2, 1, 2], 0, [145]), (27, .iload_n 2, 1, [2], 0, []), (28, .aaload, 1, [1, 1, 6], 0, []), (29, .getfield 42, 3, [1, 5, 1], 0, [115]), (32, .ifCond .ne 99, 3, [131], 0, []), (35, .iconst 0, 1, [], 0, []), (36, .istore 6, 2, [6], 0, []), (38, .iload 6, 2, [6], 0, []), (40, .aload_n 1, 1, [1], 0, []), (41, .getfield 48, 3, [2, 2, 0], 0, [151]), (44, .if_icmp .ge 87, 3, [131], 0, []), (47, .iload_n 3, 1, [3], 0, []), (48, .iload 6, 2, [6], 0, []), (50, .ishr, 1, [], 0, []), (51, .iconst 1, 1, [], 1, []), (52, .iand, 1, [], 0, []), (53, .ifCond .ne 72, 3, [125], 0, []), (56, .aload_n 1, 1, [1], 0, []), (57, .iload 6, 2, [6], 0, []), (59, .iload_n 2, 1, [2], 0, []), (60, .invokevirtual 51, 3, [16, 3, 3, 2], 0, [603]), (63, .ifCond .ne 62, 3, [125], 0, []), (66, .aload_n 0, 1, [0], 0, []), (67, .getfield 9, 3, [6, 0, 2], 0, [257]), (70, .iload_n 2, 1, [2], 0, []), (71, .iload 6, 2, [6], 0, []), (73, .iastore, 1, [], 0, []), (74, .aload_n 1, 1, [1], 0, []), (75, .iload 6, 2, [6], 0, []), (77, .iload_n 2, 1, [2], 0, []), (78, .invokevirtual 55, 3, [15, 3, 1, 2], 0, [604]), (81, .aload_n 1, 1, [1], 0, []), (82, .iload_n 2, 1, [2], 0, []), (83, .invokevirtual 59, 3, [18, 2, 1, 2], 0, [605]), (86, .if_icmp .lt 7, 3, [93], 0, []), (89, .iconst 1, 1, [], 1, []), (90, .goto 4, 3, [94], 0, []), (93, .iconst 0, 1, [], 0, []), (94, .istore 7, 2, [7], 0, []), (96, .aload_n 0, 1, [0], 0, []), (97, .aload_n 1, 1, [1], 0, []), (98, .iload_n 2, 1, [2], 0, []), (99, .iconst 1, 1, [], 1, []), (100, .iadd, 1, [], 0, []), (101, .iload_n 3, 1, [3], 0, []), (102, .iconst 1, 1, [], 1, []), (103, .iload 6, 2, [6], 0, []), (105, .ishl, 1, [], 0, []), (106, .ior, 1, [], 0, []), (107, .iload 4, 2, [4], 0, []), (109, .iload 7, 2, [7], 0, []), (111, .iadd, 1, [], 0, []), (112, .iload 5, 2, [5], 0, []), (114, .aload_n 1, 1, [1], 0, []), (115, .getfield 63, 3, [2, 0, 2], 0, [140]), (118, .iload 6, 2, [6], 0, []), (120, .iaload, 1, [], 0, []), (121, .iadd, 1, [], 0, []), (122, .invokevirtual 25, 3, [47, 6, 0, 6], 0, [595]), (125, .iinc 6 1, 3, [6], 1, []), (128, .goto (-90), 3, [38], 0, []), (131, .aload_n 0, 1, [0], 0, []), (132, .getfield 9, 3, [6, 0, 2], 0, [257]), (135, .iload_n 2, 1, [2], 0, []), (136, .bipush 9, 2, [], 9, []), (138, .iastore, 1, [], 0, []), (139, .aload_n 0, 1, [0], 0, []), (140, .aload_n 1, 1, [1], 0, []), (141, .iload_n 2, 1, [2], 0, []), (142, .iconst 1, 1, [], 1, []), (143, .iadd, 1, [], 0, []), (144, .iload_n 3, 1, [3], 0, []), (145, .iload 4, 2, [4], 0, []), (147, .iload 5, 2, [5], 0, []), (149, .invokevirtual 25, 3, [47, 6, 0, 6], 0, [595]), (152, .return_, 1, [], 0, [])]
def hd_X6_tryFrom : List (Nat × List Bool) := [(38, [true, true, true, true, true, true, true, false])]
def me_X6_tryFrom : z_Me := (⟨"StayingGuests$Staff", "tryFrom", "(LStayingGuests$House;IIII)V"⟩, prog_8_method_4_code, 8, none, cd_X6_tryFrom, hd_X6_tryFrom)
def cd_X6_keepIfBetter : List z_En := [(0, .iload_n 1, 1, [1], 0, []), (1, .aload_n 0, 1, [0], 0, []), (2, .getfield 18, 3, [6, 2, 0], 0, [259]), (5, .if_icmp .lt 19, 3, [24], 0, []), (8, .iload_n 1, 1, [1], 0, []), (9, .aload_n 0, 1, [0], 0, []), (10, .getfield 18, 3, [6, 2, 0], 0, [259]), (13, .if_icmp .ne 12, 3, [25], 0, []), (16, .iload_n 2, 1, [2], 0, []), (17, .aload_n 0, 1, [0], 0, []), (18, .getfield 22, 3, [6, 3, 0], 0, [261]), (21, .if_icmp .lt 4, 3, [25], 0, []), (24, .return_, 1, [], 0, []), (25, .aload_n 0, 1, [0], 0, []), (26, .iload_n 1, 1, [1], 0, []), (27, .putfield 18, 3, [6, 2, 0], 0, [259]), (30, .aload_n 0, 1, [0], 0, []), (31, .iload_n 2, 1, [2], 0, []), (32, .putfield 22, 3, [6, 3, 0], 0, [261]), (35, .iconst 0, 1, [], 0, []), (36, .istore_n 3, 1, [3], 0, []), (37, .iload_n 3, 1, [3], 0, []), (38, .bipush 6, 2, [], 6, []), (40, .if_icmp .ge 21, 3, [61], 0, []), (43, .aload_n 0, 1, [0], 0, []), (44, .getfield 15, 3, [6, 1, 2], 0, [258]), (47, .iload_n 3, 1, [3], 0, []), (48, .aload_n 0, 1, [0], 0, []), (49, .getfield 9, 3, [6, 0, 2], 0, [257]), (52, .iload_n 3, 1, [3], 0, []), (53, .iaload, 1, [], 0, []), (54, .iastore, 1, [], 0, []), (55, .iinc 3 1, 3, [3], 1, []), (58, .goto (-21), 3, [37], 0, []), (61, .return_, 1, [], 0, [])]
def hd_X6_keepIfBetter : List (Nat × List Bool) := [(37, [true, false, false, true])]
def me_X6_keepIfBetter : z_Me := (⟨"StayingGuests$Staff", "keepIfBetter", "(II)V"⟩, prog_8_method_5_code, 4, none, cd_X6_keepIfBetter, hd_X6_keepIfBetter)
def cd_X7_init : List z_En := [(0, .aload_n 0, 1, [0], 0, []), (1, .invokespecial 3, 3, [], 0, [245, 73, 74]), (4, .aload_n 0, 1, [0], 0, []), (5, .bipush 6, 2, [], 6, []), (7, .newarray .int, 2, [0], 0, [136]), (9, .putfield 9, 3, [7, 0, 2], 0, [246]), (12, .return_, 1, [], 0, [])]
def hd_X7_init : List (Nat × List Bool) := []
def me_X7_init : z_Me := (⟨"StayingGuests$Tables", "<init>", "()V"⟩, prog_9_method_1_code, 1, none, cd_X7_init, hd_X7_init)
def cd_X7_lay : List z_En := [(0, .iconst 0, 1, [], 0, []), (1, .istore_n 2, 1, [2], 0, []), (2, .iload_n 2, 1, [2], 0, []), (3, .bipush 6, 2, [], 6, []), (5, .if_icmp .ge 21, 3, [26], 0, []), (8, .aload_n 0, 1, [0], 0, []), (9, .aload_n 1, 1, [1], 0, []), (10, .iconst 0, 1, [], 0, []), (11, .iload_n 2, 1, [2], 0, []), (12, .invokevirtual 15, 3, [51, 4, 3, 7], 0, [576]), (15, .ifCond .eq 5, 3, [20], 0, []), (18, .iload_n 2, 1, [2], 0, []), (19, .ireturn, 1, [], 0, []), (20, .iinc 2 1, 3, [2], 1, []), (23, .goto (-21), 3, [2], 0, []), (26, .aload_n 0, 1, [0], 0, []), (27, .aload_n 1, 1, [1], 0, []), (28, .iconst 0, 1, [], 0, []), (29, .bipush 6, 2, [], 6, []), (31, .invokevirtual 15, 3, [51, 4, 3, 7], 0, [576]), (34, .pop, 1, [], 0, []), (35, .bipush 6, 2, [], 6, []), (37, .ireturn, 1, [], 0, [])]
def hd_X7_lay : List (Nat × List Bool) := [(2, [true, true, true])]
def me_X7_lay : z_Me := (⟨"StayingGuests$Tables", "lay", "(LStayingGuests$House;)I"⟩, prog_9_method_2_code, 3, some .int, cd_X7_lay, hd_X7_lay)
def cd_X7_sitsFrom : List z_En := [(0, .iload_n 2, 1, [2], 0, []), (1, .bipush 6, 2, [], 6, []), (3, .if_icmp .lt 5, 3, [8], 0, []), (6, .iconst 1, 1, [], 1, []), (7, .ireturn, 1, [], 0, []), (8, .iload_n 2, 1, [2], 0, []), (9, .aload_n 1, 1, [1], 0, []), (10, .getfield 19, 3, [2, 3, 0], 0, [155]), (13, .if_icmp .ge 15, 3, [28], 0, []), (16, .aload_n 1, 1, [1], 0, []), (17, .getfield 25, 3, [2, 1, 2], 0, [143]), (20, .iload_n 2, 1, [2], 0, []), (21, .aaload, 1, [1, 1, 6], 0, []), (22, .getfield 29, 3, [1, 5, 1], 0, [112]), (25, .ifCond .eq 21, 3, [46], 0, []), (28, .aload_n 0, 1, [0], 0, []), (29, .getfield 9, 3, [7, 0, 2], 0, [246]), (32, .iload_n 2, 1, [2], 0, []), (33, .bipush (-9), 2, [], -9, []), (35, .iastore, 1, [], 0, []), (36, .aload_n 0, 1, [0], 0, []), (37, .aload_n 1, 1, [1], 0, []), (38, .iload_n 2, 1, [2], 0, []), (39, .iconst 1, 1, [], 1, []), (40, .iadd, 1, [], 0, []), (41, .iload_n 3, 1, [3], 0, []), (42, .invokevirtual 15, 3, [51, 4, 3, 7], 0, [576]), (45, .ireturn, 1, [], 0, []), (46, .iconst 0, 1, [], 0, []), (47, .istore 4, 2, [4], 0, []), (49, .iload 4, 2, [4], 0, []), (51, .iload_n 3, 1, [3], 0, []), (52, .if_icmp .ge 42, 3, [94], 0, []), (55, .aload_n 0, 1, [0], 0, []), (56, .getfield 9, 3, [7, 0, 2], 0, [246]), (59, .iload_n 2, 1, [2], 0, []), (60, .iload 4, 2, [4], 0, []), (62, .iastore, 1, [], 0, []), (63, .aload_n 0, 1, [0], 0, []), (64, .aload_n 1, 1, [1], 0, []), (65, .iload_n 2, 1, [2], 0, []), (66, .iload 4, 2, [4], 0, []), (68, .invokevirtual 35, 3, [52, 4, 3, 7], 0, [580]), (71, .ifCond .eq 17, 3, [88], 0, []), (74, .aload_n 0, 1, [0], 0, []), (75, .aload_n 1, 1, [1], 0, []), (76, .iload_n 2, 1, [2], 0, []), (77, .iconst 1, 1, [], 1, []), (78, .iadd, 1, [], 0, []), (79, .iload_n 3, 1, [3], 0, []), (80, .invokevirtual 15, 3, [51, 4, 3, 7], 0, [576]), (83, .ifCond .eq 5, 3, [88], 0, []), (86, .iconst 1, 1, [], 1, []), (87, .ireturn, 1, [], 0, []), (88, .iinc 4 1, 3, [4], 1, []), (91, .goto (-42), 3, [49], 0, []), (94, .iconst 0, 1, [], 0, []), (95, .ireturn, 1, [], 0, [])]
def hd_X7_sitsFrom : List (Nat × List Bool) := [(49, [true, true, true, true, true])]
def me_X7_sitsFrom : z_Me := (⟨"StayingGuests$Tables", "sitsFrom", "(LStayingGuests$House;II)Z"⟩, prog_9_method_3_code, 5, some .boolean, cd_X7_sitsFrom, hd_X7_sitsFrom)
def cd_X7_isFree : List z_En := [(0, .iconst 0, 1, [], 0, []), (1, .istore 4, 2, [4], 0, []), (3, .iload 4, 2, [4], 0, []), (5, .iload_n 2, 1, [2], 0, []), (6, .if_icmp .ge 41, 3, [47], 0, []), (9, .aload_n 0, 1, [0], 0, []), (10, .getfield 9, 3, [7, 0, 2], 0, [246]), (13, .iload 4, 2, [4], 0, []), (15, .iaload, 1, [], 0, []), (16, .iload_n 3, 1, [3], 0, []), (17, .if_icmp .ne 24, 3, [41], 0, []), (20, .aload_n 1, 1, [1], 0, []), (21, .getfield 25, 3, [2, 1, 2], 0, [143]), (24, .iload 4, 2, [4], 0, []), (26, .aaload, 1, [1, 1, 6], 0, []), (27, .aload_n 1, 1, [1], 0, []), (28, .getfield 25, 3, [2, 1, 2], 0, [143]), (31, .iload_n 2, 1, [2], 0, []), (32, .aaload, 1, [1, 1, 6], 0, []), (33, .invokestatic 38, 3, [53, 2, 3], 0, [584]), (36, .ifCond .eq 5, 3, [41], 0, []), (39, .iconst 0, 1, [], 0, []), (40, .ireturn, 1, [], 0, []), (41, .iinc 4 1, 3, [4], 1, []), (44, .goto (-41), 3, [3], 0, []), (47, .iconst 1, 1, [], 1, []), (48, .ireturn, 1, [], 0, [])]
def hd_X7_isFree : List (Nat × List Bool) := [(3, [true, true, true, true, true])]
def me_X7_isFree : z_Me := (⟨"StayingGuests$Tables", "isFree", "(LStayingGuests$House;II)Z"⟩, prog_9_method_4_code, 5, some .boolean, cd_X7_isFree, hd_X7_isFree)
def cd_X7_clash : List z_En := [(0, .aload_n 0, 1, [0], 0, []), (1, .getfield 42, 3, [1, 0, 0], 0, [92]), (4, .aload_n 1, 1, [1], 0, []), (5, .getfield 42, 3, [1, 0, 0], 0, [92]), (8, .if_icmp .eq 17, 3, [25], 0, []), (11, .aload_n 0, 1, [0], 0, []), (12, .getfield 45, 3, [1, 6, 1], 0, [119]), (15, .ifCond .eq 14, 3, [29], 0, []), (18, .aload_n 1, 1, [1], 0, []), (19, .getfield 45, 3, [1, 6, 1], 0, [119]), (22, .ifCond .eq 7, 3, [29], 0, []), (25, .iconst 1, 1, [], 1, []), (26, .goto 4, 3, [30], 0, []), (29, .iconst 0, 1, [], 0, []), (30, .ireturn, 1, [], 0, [])]
def hd_X7_clash : List (Nat × List Bool) := []
def me_X7_clash : z_Me := (⟨"StayingGuests$Tables", "clash", "(LStayingGuests$Guest;LStayingGuests$Guest;)Z"⟩, prog_9_method_5_code, 2, some .boolean, cd_X7_clash, hd_X7_clash)
def cd_X8_init : List z_En := [(0, .aload_n 0, 1, [0], 0, []), (1, .invokespecial 3, 3, [], 0, [177, 73, 74]), (4, .aload_n 0, 1, [0], 0, []), (5, .new 9, 3, [2], 0, [178, 78, 54]), (8, .dup, 1, [], 0, []), (9, .invokespecial 11, 3, [11], 0, [179]), (12, .putfield 12, 3, [8, 0, 2], 0, [180]), (15, .return_, 1, [], 0, [])]
def hd_X8_init : List (Nat × List Bool) := []
def me_X8_init : z_Me := (⟨"StayingGuests$Text", "<init>", "()V"⟩, prog_10_method_1_code, 1, none, cd_X8_init, hd_X8_init)
def cd_X8_firstFault : List z_En := [(0, .aload_n 0, 1, [0], 0, []), (1, .getfield 12, 3, [8, 0, 2], 0, [180]), (4, .invokevirtual 18, 3, [13, 1, 0, 2], 0, [355]), (7, .aload_n 0, 1, [0], 0, []), (8, .iconst 0, 1, [], 0, []), (9, .putfield 21, 3, [8, 1, 0], 0, [182]), (12, .iconst 0, 1, [], 0, []), (13, .istore 4, 2, [4], 0, []), (15, .iload 4, 2, [4], 0, []), (17, .iload_n 3, 1, [3], 0, []), (18, .if_icmp .ge 28, 3, [46], 0, []), (21, .aload_n 0, 1, [0], 0, []), (22, .aload_n 1, 1, [1], 0, []), (23, .getfield 25, 3, [4, 0, 2], 0, [279]), (26, .iload_n 2, 1, [2], 0, []), (27, .iload 4, 2, [4], 0, []), (29, .iadd, 1, [], 0, []), (30, .iaload, 1, [], 0, []), (31, .invokevirtual 31, 3, [56, 2, 3, 8], 0, [359]), (34, .ifCond .ne 6, 3, [40], 0, []), (37, .iload 4, 2, [4], 0, []), (39, .ireturn, 1, [], 0, []), (40, .iinc 4 1, 3, [4], 1, []), (43, .goto (-28), 3, [15], 0, []), (46, .aload_n 0, 1, [0], 0, []), (47, .getfield 21, 3, [8, 1, 0], 0, [182]), (50, .bipush 6, 2, [], 6, []), (52, .if_icmp .ne 8, 3, [60], 0, []), (55, .bipush (-9), 2, [], -9, []), (57, .goto 4, 3, [61], 0, []), (60, .iload_n 3, 1, [3], 0, []), (61, .ireturn, 1, [], 0, [])]
def hd_X8_firstFault : List (Nat × List Bool) := [(15, [true, true, true, true, true])]
def me_X8_firstFault : z_Me := (⟨"StayingGuests$Text", "firstFault", "(LStayingGuests$Sheet;II)I"⟩, prog_10_method_2_code, 5, some .int, cd_X8_firstFault, hd_X8_firstFault)
def cd_X8_goesOn : List z_En := [(0, .aload_n 0, 1, [0], 0, []), (1, .getfield 21, 3, [8, 1, 0], 0, [182]), (4, .tableswitch 123 0 6 #[44, 61, 98, 123, 123, 123, 104], 44, [127, 0, 48, 1, 65, 2, 102, 3, 127, 4, 127, 5, 127, 6, 108], 0, []), (48, .aload_n 0, 1, [0], 0, []), (49, .iconst 1, 1, [], 1, []), (50, .putfield 21, 3, [8, 1, 0], 0, [182]), (53, .iload_n 1, 1, [1], 0, []), (54, .bipush 104, 2, [], 104, []), (56, .if_icmp .ne 7, 3, [63], 0, []), (59, .iconst 1, 1, [], 1, []), (60, .goto 4, 3, [64], 0, []), (63, .iconst 0, 1, [], 0, []), (64, .ireturn, 1, [], 0, []), (65, .iload_n 1, 1, [1], 0, []), (66, .bipush 59, 2, [], 59, []), (68, .if_icmp .ne 28, 3, [96], 0, []), (71, .aload_n 0, 1, [0], 0, []), (72, .getfield 12, 3, [8, 0, 2], 0, [180]), (75, .getfield 35, 3, [2, 2, 0], 0, [148]), (78, .ifCond .le 14, 3, [92], 0, []), (81, .aload_n 0, 1, [0], 0, []), (82, .invokevirtual 38, 3, [58, 1, 3, 8], 0, [363]), (85, .ifCond .eq 7, 3, [92], 0, []), (88, .iconst 1, 1, [], 1, []), (89, .goto 12, 3, [101], 0, []), (92, .iconst 0, 1, [], 0, []), (93, .goto 8, 3, [101], 0, []), (96, .aload_n 0, 1, [0], 0, []), (97, .iload_n 1, 1, [1], 0, []), (98, .invokevirtual 42, 3, [57, 2, 3, 8], 0, [367]), (101, .ireturn, 1, [], 0, []), (102, .aload_n 0, 1, [0], 0, []), (103, .iload_n 1, 1, [1], 0, []), (104, .invokevirtual 45, 3, [59, 2, 3, 8], 0, [372]), (107, .ireturn, 1, [], 0, []), (108, .iload_n 1, 1, [1], 0, []), (109, .bipush 59, 2, [], 59, []), (111, .if_icmp .ne 14, 3, [125], 0, []), (114, .aload_n 0, 1, [0], 0, []), (115, .invokevirtual 38, 3, [58, 1, 3, 8], 0, [363]), (118, .ifCond .eq 7, 3, [125], 0, []), (121, .iconst 1, 1, [], 1, []), (122, .goto 4, 3, [126], 0, []), (125, .iconst 0, 1, [], 0, []), (126, .ireturn, 1, [], 0, []), (127, .aload_n 0, 1, [0], 0, []), (128, .iload_n 1, 1, [1], 0, []), (129, .invokevirtual 48, 3, [60, 2, 3, 8], 0, [380]), (132, .ireturn, 1, [], 0, [])]
def hd_X8_goesOn : List (Nat × List Bool) := []
def me_X8_goesOn : z_Me := (⟨"StayingGuests$Text", "goesOn", "(I)Z"⟩, prog_10_method_3_code, 2, some .boolean, cd_X8_goesOn, hd_X8_goesOn)
def cd_X8_nextSign : List z_En := [(0, .aload_n 0, 1, [0], 0, []), (1, .getfield 12, 3, [8, 0, 2], 0, [180]), (4, .getfield 35, 3, [2, 2, 0], 0, [148]), (7, .iconst 5, 1, [], 5, []), (8, .if_icmp .ge 14, 3, [22], 0, []), (11, .iload_n 1, 1, [1], 0, []), (12, .bipush 49, 2, [], 49, []), (14, .bipush 57, 2, [], 57, []), (16, .invokestatic 51, 3, [94, 3, 3], 0, [371]), (19, .ifCond .ne 5, 3, [24], 0, []), (22, .iconst 0, 1, [], 0, []), (23, .ireturn, 1, [], 0, []), (24, .aload_n 0, 1, [0], 0, []), (25, .getfield 12, 3, [8, 0, 2], 0, [180]), (28, .getfield 55, 3, [2, 0, 2], 0, [139]), (31, .aload_n 0, 1, [0], 0, []), (32, .getfield 12, 3, [8, 0, 2], 0, [180]), (35, .getfield 35, 3, [2, 2, 0], 0, [148]), (38, .iload_n 1, 1, [1], 0, []), (39, .bipush 48, 2, [], 48, []), (41, .isub, 1, [], 0, []), (42, .iastore, 1, [], 0, []), (43, .aload_n 0, 1, [0], 0, []), (44, .getfield 12, 3, [8, 0, 2], 0, [180]), (47, .dup, 1, [], 0, []), (48, .getfield 35, 3, [2, 2, 0], 0, [148]), (51, .iconst 1, 1, [], 1, []), (52, .iadd, 1, [], 0, []), (53, .putfield 35, 3, [2, 2, 0], 0, [148]), (56, .iconst 1, 1, [], 1, []), (57, .ireturn, 1, [], 0, [])]
def hd_X8_nextSign : List (Nat × List Bool) := []
def me_X8_nextSign : z_Me := (⟨"StayingGuests$Text", "nextSign", "(I)Z"⟩, prog_10_method_4_code, 2, some .boolean, cd_X8_nextSign, hd_X8_nextSign)
def cd_X8_nextGuest : List z_En := [(0, .aload_n 0, 1, [0], 0, []), (1, .iconst 2, 1, [], 2, []), (2, .putfield 21, 3, [8, 1, 0], 0, [182]), (5, .aload_n 0, 1, [0], 0, []), (6, .getfield 12, 3, [8, 0, 2], 0, [180]), (9, .getfield 58, 3, [2, 3, 0], 0, [157]), (12, .bipush 6, 2, [], 6, []), (14, .if_icmp .ge 7, 3, [21], 0, []), (17, .iconst 1, 1, [], 1, []), (18, .goto 4, 3, [22], 0, []), (21, .iconst 0, 1, [], 0, []), (22, .ireturn, 1, [], 0, [])]
def hd_X8_nextGuest : List (Nat × List Bool) := []
def me_X8_nextGuest : z_Me := (⟨"StayingGuests$Text", "nextGuest", "()Z"⟩, prog_10_method_5_code, 1, some .boolean, cd_X8_nextGuest, hd_X8_nextGuest)
def cd_X8_letter : List z_En := [(0, .iload_n 1, 1, [1], 0, []), (1, .bipush 109, 2, [], 109, []), (3, .if_icmp .ne 7, 3, [10], 0, []), (6, .iconst 0, 1, [], 0, []), (7, .goto 25, 3, [32], 0, []), (10, .iload_n 1, 1, [1], 0, []), (11, .bipush 99, 2, [], 99, []), (13, .if_icmp .ne 7, 3, [20], 0, []), (16, .iconst 1, 1, [], 1, []), (17, .goto 15, 3, [32], 0, []), (20, .iload_n 1, 1, [1], 0, []), (21, .bipush 98, 2, [], 98, []), (23, .if_icmp .ne 7, 3, [30], 0, []), (26, .iconst 2, 1, [], 2, []), (27, .goto 5, 3, [32], 0, []), (30, .bipush (-9), 2, [], -9, []), (32, .istore_n 2, 1, [2], 0, []), (33, .iload_n 2, 1, [2], 0, []), (34, .bipush (-9), 2, [], -9, []), (36, .if_icmp .ne 5, 3, [41], 0, []), (39, .iconst 0, 1, [], 0, []), (40, .ireturn, 1, [], 0, []), (41, .aload_n 0, 1, [0], 0, []), (42, .getfield 12, 3, [8, 0, 2], 0, [180]), (45, .getfield 61, 3, [2, 1, 2], 0, [146]), (48, .aload_n 0, 1, [0], 0, []), (49, .getfield 12, 3, [8, 0, 2], 0, [180]), (52, .getfield 58, 3, [2, 3, 0], 0, [157]), (55, .aaload, 1, [1, 1, 6], 0, []), (56, .iload_n 2, 1, [2], 0, []), (57, .invokevirtual 65, 3, [9, 2, 0, 1], 0, [376]), (60, .aload_n 0, 1, [0], 0, []), (61, .iconst 3, 1, [], 3, []), (62, .putfield 21, 3, [8, 1, 0], 0, [182]), (65, .iconst 1, 1, [], 1, []), (66, .ireturn, 1, [], 0, [])]
def hd_X8_letter : List (Nat × List Bool) := []
def me_X8_letter : z_Me := (⟨"StayingGuests$Text", "letter", "(I)Z"⟩, prog_10_method_6_code, 3, some .boolean, cd_X8_letter, hd_X8_letter)
def cd_X8_digitOfGuest : List z_En := [(0, .aload_n 0, 1, [0], 0, []), (1, .getfield 12, 3, [8, 0, 2], 0, [180]), (4, .getfield 61, 3, [2, 1, 2], 0, [146]), (7, .aload_n 0, 1, [0], 0, []), (8, .getfield 12, 3, [8, 0, 2], 0, [180]), (11, .getfield 58, 3, [2, 3, 0], 0, [157]), (14, .aaload, 1, [1, 1, 6], 0, []), (15, .astore_n 2, 1, [2], 0, []), (16, .aload_n 0, 1, [0], 0, []), (17, .getfield 21, 3, [8, 1, 0], 0, [182]), (20, .iconst 5, 1, [], 5, []), (21, .if_icmp .ne 39, 3, [60], 0, []), (24, .aload_n 2, 1, [2], 0, []), (25, .iload_n 1, 1, [1], 0, []), (26, .bipush 48, 2, [], 48, []), (28, .isub, 1, [], 0, []), (29, .putfield 71, 3, [1, 3, 0], 0, [105]), (32, .aload_n 0, 1, [0], 0, []), (33, .getfield 12, 3, [8, 0, 2], 0, [180]), (36, .dup, 1, [], 0, []), (37, .getfield 58, 3, [2, 3, 0], 0, [157]), (40, .iconst 1, 1, [], 1, []), (41, .iadd, 1, [], 0, []), (42, .putfield 58, 3, [2, 3, 0], 0, [157]), (45, .aload_n 0, 1, [0], 0, []), (46, .bipush 6, 2, [], 6, []), (48, .putfield 21, 3, [8, 1, 0], 0, [182]), (51, .iload_n 1, 1, [1], 0, []), (52, .bipush 48, 2, [], 48, []), (54, .bipush 53, 2, [], 53, []), (56, .invokestatic 51, 3, [94, 3, 3], 0, [371]), (59, .ireturn, 1, [], 0, []), (60, .aload_n 0, 1, [0], 0, []), (61, .getfield 21, 3, [8, 1, 0], 0, [182]), (64, .iconst 3, 1, [], 3, []), (65, .if_icmp .ne 19, 3, [84], 0, []), (68, .aload_n 2, 1, [2], 0, []), (69, .iload_n 1, 1, [1], 0, []), (70, .bipush 48, 2, [], 48, []), (72, .isub, 1, [], 0, []), (73, .putfield 74, 3, [1, 1, 0], 0, [97]), (76, .aload_n 0, 1, [0], 0, []), (77, .iconst 4, 1, [], 4, []), (78, .putfield 21, 3, [8, 1, 0], 0, [182]), (81, .goto 16, 3, [97], 0, []), (84, .aload_n 2, 1, [2], 0, []), (85, .iload_n 1, 1, [1], 0, []), (86, .bipush 48, 2, [], 48, []), (88, .isub, 1, [], 0, []), (89, .putfield 77, 3, [1, 2, 0], 0, [100]), (92, .aload_n 0, 1, [0], 0, []), (93, .iconst 5, 1, [], 5, []), (94, .putfield 21, 3, [8, 1, 0], 0, [182]), (97, .iload_n 1, 1, [1], 0, []), (98, .bipush 49, 2, [], 49, []), (100, .bipush 57, 2, [], 57, []), (102, .invokestatic 51, 3, [94, 3, 3], 0, [371]), (105, .ireturn, 1, [], 0, [])]
def hd_X8_digitOfGuest : List (Nat × List Bool) := []
def me_X8_digitOfGuest : z_Me := (⟨"StayingGuests$Text", "digitOfGuest", "(I)Z"⟩, prog_10_method_7_code, 3, some .boolean, cd_X8_digitOfGuest, hd_X8_digitOfGuest)
def cd_X9_init : List z_En := [(0, .aload_n 0, 1, [0], 0, []), (1, .invokespecial 3, 3, [], 0, [72, 73, 74]), (4, .aload_n 0, 1, [0], 0, []), (5, .iconst 4, 1, [], 4, []), (6, .anewarray 11, 3, [4], 0, [75, 76]), (9, .putfield 13, 3, [9, 0, 2], 0, [295]), (12, .aload_n 0, 1, [0], 0, []), (13, .new 17, 3, [2], 0, [77, 78, 54]), (16, .dup, 1, [], 0, []), (17, .invokespecial 19, 3, [11], 0, [79]), (20, .putfield 20, 3, [9, 1, 2], 0, [296]), (23, .aload_n 0, 1, [0], 0, []), (24, .new 17, 3, [2], 0, [77, 78, 54]), (27, .dup, 1, [], 0, []), (28, .invokespecial 19, 3, [11], 0, [79]), (31, .putfield 24, 3, [9, 2, 2], 0, [297]), (34, .aload_n 0, 1, [0], 0, []), (35, .new 27, 3, [8], 0, [172, 173, 56]), (38, .dup, 1, [], 0, []), (39, .invokespecial 29, 3, [54], 0, [174]), (42, .putfield 30, 3, [9, 3, 2], 0, [298]), (45, .aload_n 0, 1, [0], 0, []), (46, .new 34, 3, [0], 0, [188, 189, 57]), (49, .dup, 1, [], 0, []), (50, .invokespecial 36, 3, [0], 0, [190]), (53, .putfield 37, 3, [9, 4, 2], 0, [299]), (56, .aload_n 0, 1, [0], 0, []), (57, .new 41, 3, [3], 0, [209, 210, 58]), (60, .dup, 1, [], 0, []), (61, .invokespecial 43, 3, [28], 0, [211]), (64, .putfield 44, 3, [9, 5, 2], 0, [300]), (67, .aload_n 0, 1, [0], 0, []), (68, .new 48, 3, [5], 0, [230, 231, 59]), (71, .dup, 1, [], 0, []), (72, .invokespecial 50, 3, [37], 0, [232]), (75, .putfield 51, 3, [9, 6, 2], 0, [301]), (78, .aload_n 0, 1, [0], 0, []), (79, .new 55, 3, [7], 0, [240, 241, 60]), (82, .dup, 1, [], 0, []), (83, .invokespecial 57, 3, [49], 0, [242]), (86, .putfield 58, 3, [9, 7, 2], 0, [302]), (89, .aload_n 0, 1, [0], 0, []), (90, .new 62, 3, [6], 0, [251, 252, 61]), (93, .dup, 1, [], 0, []), (94, .invokespecial 64, 3, [44], 0, [253]), (97, .putfield 65, 3, [9, 8, 2], 0, [303]), (100, .iconst 0, 1, [], 0, []), (101, .istore_n 1, 1, [1], 0, []), (102, .iload_n 1, 1, [1], 0, []), (103, .iconst 4, 1, [], 4, []), (104, .if_icmp .ge 22, 3, [126], 0, []), (107, .aload_n 0, 1, [0], 0, []), (108, .getfield 13, 3, [9, 0, 2], 0, [295]), (111, .iload_n 1, 1, [1], 0, []), (112, .new 11, 3, [4], 0, [75, 272, 62]), (115, .dup, 1, [], 0, []), (116, .invokespecial 69, 3, [31], 0, [273]), (119, .aastore, 1, [], 0, []), (120, .iinc 1 1, 3, [1], 1, []), (123, .goto (-21), 3, [102], 0, []), (126, .return_, 1, [], 0, [])]
def hd_X9_init : List (Nat × List Bool) := [(102, [true, true])]
def me_X9_init : z_Me := (⟨"StayingGuests", "<init>", "()V"⟩, prog_1_method_1_code, 2, none, cd_X9_init, hd_X9_init)
def cd_X9_hotel : List z_En := [(0, .aload_n 0, 1, [0], 0, []), (1, .iconst 0, 1, [], 0, []), (2, .putfield 70, 3, [9, 10, 0], 0, [305]), (5, .iload_n 1, 1, [1], 0, []), (6, .invokestatic 74, 3, [95, 1, 3], 0, [333]), (9, .ifCond .ne 5, 3, [14], 0, []), (12, .iconst (-1), 1, [], -1, []), (13, .ireturn, 1, [], 0, []), (14, .iload_n 2, 1, [2], 0, []), (15, .iconst 0, 1, [], 0, []), (16, .iconst 2, 1, [], 2, []), (17, .invokestatic 78, 3, [94, 3, 3], 0, [336]), (20, .ifCond .ne 6, 3, [26], 0, []), (23, .bipush (-2), 2, [], -2, []), (25, .ireturn, 1, [], 0, []), (26, .aload_n 0, 1, [0], 0, []), (27, .getfield 13, 3, [9, 0, 2], 0, [295]), (30, .iload_n 1, 1, [1], 0, []), (31, .aaload, 1, [50, 2, 4], 0, []), (32, .astore 5, 2, [5], 0, []), (34, .aload 5, 2, [5], 0, []), (36, .iload_n 2, 1, [2], 0, []), (37, .invokevirtual 82, 3, [34, 2, 1, 4], 0, [339]), (40, .istore 6, 2, [6], 0, []), (42, .iload 6, 2, [6], 0, []), (44, .ifCond .ne 22, 3, [66], 0, []), (47, .iload 4, 2, [4], 0, []), (49, .ifCond .ge 7, 3, [56], 0, []), (52, .iconst 4, 1, [], 4, []), (53, .goto 11, 3, [64], 0, []), (56, .aload 5, 2, [5], 0, []), (58, .iload_n 3, 1, [3], 0, []), (59, .iload 4, 2, [4], 0, []), (61, .invokevirtual 86, 3, [36, 3, 1, 4], 0, [343]), (64, .istore 6, 2, [6], 0, []), (66, .iload 6, 2, [6], 0, []), (68, .ifCond .eq 10, 3, [78], 0, []), (71, .aload_n 0, 1, [0], 0, []), (72, .iload 6, 2, [6], 0, []), (74, .invokevirtual 90, 3, [99, 2, 1, 9], 0, [347]), (77, .ireturn, 1, [], 0, []), (78, .aload_n 0, 1, [0], 0, []), (79, .getfield 30, 3, [9, 3, 2], 0, [298]), (82, .aload 5, 2, [5], 0, []), (84, .iload_n 3, 1, [3], 0, []), (85, .iload 4, 2, [4], 0, []), (87, .invokevirtual 93, 3, [55, 4, 1, 8], 0, [351]), (90, .istore 7, 2, [7], 0, []), (92, .iload 7, 2, [7], 0, []), (94, .bipush (-9), 2, [], -9, []), (96, .if_icmp .eq 9, 3, [105], 0, []), (99, .bipush (-100), 2, [], -100, []), (101, .iload 7, 2, [7], 0, []), (103, .isub, 1, [], 0, []), (104, .ireturn, 1, [], 0, []), (105, .aload_n 0, 1, [0], 0, []), (106, .getfield 20, 3, [9, 1, 2], 0, [296]), (109, .aload_n 0, 1, [0], 0, []), (110, .getfield 30, 3, [9, 3, 2], 0, [298]), (113, .getfield 97, 3, [8, 0, 2], 0, [181]), (116, .invokevirtual 100, 3, [14, 2, 0, 2], 0, [384]), (119, .aload_n 0, 1, [0], 0, []), (120, .getfield 44, 3, [9, 5, 2], 0, [300]), (123, .iconst 0, 1, [], 0, []), (124, .putfield 104, 3, [3, 3, 0], 0, [219]), (127, .aload_n 0, 1, [0], 0, []), (128, .getfield 20, 3, [9, 1, 2], 0, [296]), (131, .getfield 107, 3, [2, 3, 0], 0, [154]), (134, .ireturn, 1, [], 0, [])]
def hd_X9_hotel : List (Nat × List Bool) := []
def me_X9_hotel : z_Me := (⟨"StayingGuests", "hotel", "(IIII)I"⟩, prog_1_method_2_code, 8, some .int, cd_X9_hotel, hd_X9_hotel)
def cd_X9_ofGuest : List z_En := [(0, .aload_n 0, 1, [0], 0, []), (1, .iload_n 1, 1, [1], 0, []), (2, .invokevirtual 110, 3, [97, 2, 3, 9], 0, [396]), (5, .ifCond .ne 5, 3, [10], 0, []), (8, .iconst (-1), 1, [], -1, []), (9, .ireturn, 1, [], 0, []), (10, .aload_n 0, 1, [0], 0, []), (11, .getfield 20, 3, [9, 1, 2], 0, [296]), (14, .getfield 113, 3, [2, 1, 2], 0, [142]), (17, .iload_n 1, 1, [1], 0, []), (18, .aaload, 1, [1, 1, 6], 0, []), (19, .astore_n 3, 1, [3], 0, []), (20, .iload_n 2, 1, [2], 0, []), (21, .tableswitch 94 0 6 #[43, 48, 53, 58, 63, 68, 81], 43, [115, 0, 64, 1, 69, 2, 74, 3, 79, 4, 84, 5, 89, 6, 102], 0, []), (64, .aload_n 3, 1, [3], 0, []), (65, .getfield 117, 3, [1, 0, 0], 0, [91]), (68, .ireturn, 1, [], 0, []), (69, .aload_n 3, 1, [3], 0, []), (70, .getfield 122, 3, [1, 1, 0], 0, [95]), (73, .ireturn, 1, [], 0, []), (74, .aload_n 3, 1, [3], 0, []), (75, .getfield 125, 3, [1, 2, 0], 0, [99]), (78, .ireturn, 1, [], 0, []), (79, .aload_n 3, 1, [3], 0, []), (80, .getfield 128, 3, [1, 3, 0], 0, [103]), (83, .ireturn, 1, [], 0, []), (84, .aload_n 3, 1, [3], 0, []), (85, .getfield 131, 3, [1, 4, 0], 0, [108]), (88, .ireturn, 1, [], 0, []), (89, .aload_n 3, 1, [3], 0, []), (90, .getfield 134, 3, [1, 5, 1], 0, [113]), (93, .ifCond .eq 7, 3, [100], 0, []), (96, .iconst 1, 1, [], 1, []), (97, .goto 4, 3, [101], 0, []), (100, .iconst 0, 1, [], 0, []), (101, .ireturn, 1, [], 0, []), (102, .aload_n 3, 1, [3], 0, []), (103, .getfield 138, 3, [1, 6, 1], 0, [118]), (106, .ifCond .eq 7, 3, [113], 0, []), (109, .iconst 1, 1, [], 1, []), (110, .goto 4, 3, [114], 0, []), (113, .iconst 0, 1, [], 0, []), (114, .ireturn, 1, [], 0, []), (115, .bipush (-2), 2, [], -2, []), (117, .ireturn, 1, [], 0, [])]
def hd_X9_ofGuest : List (Nat × List Bool) := []
def me_X9_ofGuest : z_Me := (⟨"StayingGuests", "ofGuest", "(II)I"⟩, prog_1_method_3_code, 4, some .int, cd_X9_ofGuest, hd_X9_ofGuest)
def cd_X9_hint : List z_En := [(0, .aload_n 0, 1, [0], 0, []), (1, .iload_n 1, 1, [1], 0, []), (2, .invokevirtual 141, 3, [96, 2, 3, 9], 0, [404]), (5, .ifCond .eq 15, 3, [20], 0, []), (8, .aload_n 0, 1, [0], 0, []), (9, .getfield 20, 3, [9, 1, 2], 0, [296]), (12, .getfield 144, 3, [2, 0, 2], 0, [138]), (15, .iload_n 1, 1, [1], 0, []), (16, .iaload, 1, [], 0, []), (17, .goto 4, 3, [21], 0, []), (20, .iconst (-1), 1, [], -1, []), (21, .ireturn, 1, [], 0, [])]
def hd_X9_hint : List (Nat × List Bool) := []
def me_X9_hint : z_Me := (⟨"StayingGuests", "hint", "(I)I"⟩, prog_1_method_4_code, 2, some .int, cd_X9_hint, hd_X9_hint)
def cd_X9_word : List z_En := [(0, .aload_n 0, 1, [0], 0, []), (1, .iload_n 1, 1, [1], 0, []), (2, .invokevirtual 141, 3, [96, 2, 3, 9], 0, [404]), (5, .ifCond .ne 5, 3, [10], 0, []), (8, .iconst (-1), 1, [], -1, []), (9, .ireturn, 1, [], 0, []), (10, .iload_n 2, 1, [2], 0, []), (11, .iconst 1, 1, [], 1, []), (12, .bipush 9, 2, [], 9, []), (14, .invokestatic 78, 3, [94, 3, 3], 0, [336]), (17, .ifCond .ne 6, 3, [23], 0, []), (20, .bipush (-2), 2, [], -2, []), (22, .ireturn, 1, [], 0, []), (23, .aload_n 0, 1, [0], 0, []), (24, .getfield 20, 3, [9, 1, 2], 0, [296]), (27, .getfield 144, 3, [2, 0, 2], 0, [138]), (30, .iload_n 1, 1, [1], 0, []), (31, .iaload, 1, [], 0, []), (32, .istore_n 3, 1, [3], 0, []), (33, .aload_n 0, 1, [0], 0, []), (34, .getfield 20, 3, [9, 1, 2], 0, [296]), (37, .getfield 144, 3, [2, 0, 2], 0, [138]), (40, .iload_n 1, 1, [1], 0, []), (41, .iload_n 2, 1, [2], 0, []), (42, .iastore, 1, [], 0, []), (43, .iload_n 3, 1, [3], 0, []), (44, .ireturn, 1, [], 0, [])]
def hd_X9_word : List (Nat × List Bool) := []
def me_X9_word : z_Me := (⟨"StayingGuests", "word", "(II)I"⟩, prog_1_method_5_code, 4, some .int, cd_X9_word, hd_X9_word)
def cd_X9_weighs : List z_En := [(0, .aload_n 0, 1, [0], 0, []), (1, .iload_n 1, 1, [1], 0, []), (2, .invokevirtual 141, 3, [96, 2, 3, 9], 0, [404]), (5, .ifCond .eq 23, 3, [28], 0, []), (8, .aload_n 0, 1, [0], 0, []), (9, .iload_n 2, 1, [2], 0, []), (10, .invokevirtual 110, 3, [97, 2, 3, 9], 0, [396]), (13, .ifCond .eq 15, 3, [28], 0, []), (16, .aload_n 0, 1, [0], 0, []), (17, .getfield 20, 3, [9, 1, 2], 0, [296]), (20, .iload_n 1, 1, [1], 0, []), (21, .iload_n 2, 1, [2], 0, []), (22, .invokevirtual 148, 3, [15, 3, 1, 2], 0, [416]), (25, .goto 4, 3, [29], 0, []), (28, .iconst (-1), 1, [], -1, []), (29, .ireturn, 1, [], 0, [])]
def hd_X9_weighs : List (Nat × List Bool) := []
def me_X9_weighs : z_Me := (⟨"StayingGuests", "weighs", "(II)I"⟩, prog_1_method_6_code, 3, some .int, cd_X9_weighs, hd_X9_weighs)
def cd_X9_seat : List z_En := [(0, .aload_n 0, 1, [0], 0, []), (1, .iload_n 1, 1, [1], 0, []), (2, .invokevirtual 110, 3, [97, 2, 3, 9], 0, [396]), (5, .ifCond .ne 5, 3, [10], 0, []), (8, .iconst (-1), 1, [], -1, []), (9, .ireturn, 1, [], 0, []), (10, .iload_n 2, 1, [2], 0, []), (11, .iconst 0, 1, [], 0, []), (12, .iconst 5, 1, [], 5, []), (13, .invokestatic 78, 3, [94, 3, 3], 0, [336]), (16, .ifCond .ne 6, 3, [22], 0, []), (19, .bipush (-2), 2, [], -2, []), (21, .ireturn, 1, [], 0, []), (22, .aload_n 0, 1, [0], 0, []), (23, .getfield 20, 3, [9, 1, 2], 0, [296]), (26, .getfield 113, 3, [2, 1, 2], 0, [142]), (29, .iload_n 1, 1, [1], 0, []), (30, .aaload, 1, [1, 1, 6], 0, []), (31, .getfield 128, 3, [1, 3, 0], 0, [103]), (34, .istore_n 3, 1, [3], 0, []), (35, .aload_n 0, 1, [0], 0, []), (36, .getfield 20, 3, [9, 1, 2], 0, [296]), (39, .getfield 113, 3, [2, 1, 2], 0, [142]), (42, .iload_n 1, 1, [1], 0, []), (43, .aaload, 1, [1, 1, 6], 0, []), (44, .iload_n 2, 1, [2], 0, []), (45, .putfield 128, 3, [1, 3, 0], 0, [103]), (48, .iload_n 3, 1, [3], 0, []), (49, .ireturn, 1, [], 0, [])]
def hd_X9_seat : List (Nat × List Bool) := []
def me_X9_seat : z_Me := (⟨"StayingGuests", "seat", "(II)I"⟩, prog_1_method_7_code, 4, some .int, cd_X9_seat, hd_X9_seat)
def cd_X9_give : List z_En := [(0, .aload_n 0, 1, [0], 0, []), (1, .iload_n 1, 1, [1], 0, []), (2, .invokevirtual 141, 3, [96, 2, 3, 9], 0, [404]), (5, .ifCond .eq 11, 3, [16], 0, []), (8, .aload_n 0, 1, [0], 0, []), (9, .iload_n 2, 1, [2], 0, []), (10, .invokevirtual 110, 3, [97, 2, 3, 9], 0, [396]), (13, .ifCond .ne 5, 3, [18], 0, []), (16, .iconst (-1), 1, [], -1, []), (17, .ireturn, 1, [], 0, []), (18, .aload_n 0, 1, [0], 0, []), (19, .getfield 20, 3, [9, 1, 2], 0, [296]), (22, .getfield 113, 3, [2, 1, 2], 0, [142]), (25, .iload_n 2, 1, [2], 0, []), (26, .aaload, 1, [1, 1, 6], 0, []), (27, .getfield 134, 3, [1, 5, 1], 0, [113]), (30, .ifCond .eq 6, 3, [36], 0, []), (33, .bipush (-3), 2, [], -3, []), (35, .ireturn, 1, [], 0, []), (36, .aload_n 0, 1, [0], 0, []), (37, .getfield 20, 3, [9, 1, 2], 0, [296]), (40, .iload_n 1, 1, [1], 0, []), (41, .iload_n 2, 1, [2], 0, []), (42, .invokevirtual 151, 3, [19, 3, 1, 2], 0, [428]), (45, .ireturn, 1, [], 0, [])]
def hd_X9_give : List (Nat × List Bool) := []
def me_X9_give : z_Me := (⟨"StayingGuests", "give", "(II)I"⟩, prog_1_method_8_code, 3, some .int, cd_X9_give, hd_X9_give)
def cd_X9_nights : List z_En := [(0, .iload_n 1, 1, [1], 0, []), (1, .iconst 1, 1, [], 1, []), (2, .bipush 30, 2, [], 30, []), (4, .invokestatic 78, 3, [94, 3, 3], 0, [336]), (7, .ifCond .ne 6, 3, [13], 0, []), (10, .bipush (-2), 2, [], -2, []), (12, .ireturn, 1, [], 0, []), (13, .aload_n 0, 1, [0], 0, []), (14, .getfield 20, 3, [9, 1, 2], 0, [296]), (17, .invokevirtual 154, 3, [12, 1, 3, 2], 0, [457]), (20, .ifCond .ne 6, 3, [26], 0, []), (23, .bipush (-3), 2, [], -3, []), (25, .ireturn, 1, [], 0, []), (26, .aload_n 0, 1, [0], 0, []), (27, .getfield 20, 3, [9, 1, 2], 0, [296]), (30, .iload_n 1, 1, [1], 0, []), (31, .invokevirtual 158, 3, [23, 2, 0, 2], 0, [461]), (34, .aload_n 0, 1, [0], 0, []), (35, .getfield 20, 3, [9, 1, 2], 0, [296]), (38, .invokevirtual 162, 3, [24, 1, 1, 2], 0, [468]), (41, .ireturn, 1, [], 0, [])]
def hd_X9_nights : List (Nat × List Bool) := []
def me_X9_nights : z_Me := (⟨"StayingGuests", "nights", "(I)I"⟩, prog_1_method_9_code, 2, some .int, cd_X9_nights, hd_X9_nights)
def cd_X9_arrive : List z_En := [(0, .iload_n 1, 1, [1], 0, []), (1, .iconst 0, 1, [], 0, []), (2, .iconst 2, 1, [], 2, []), (3, .invokestatic 78, 3, [94, 3, 3], 0, [336]), (6, .ifCond .eq 33, 3, [39], 0, []), (9, .iload_n 2, 1, [2], 0, []), (10, .iconst 1, 1, [], 1, []), (11, .bipush 9, 2, [], 9, []), (13, .invokestatic 78, 3, [94, 3, 3], 0, [336]), (16, .ifCond .eq 23, 3, [39], 0, []), (19, .iload_n 3, 1, [3], 0, []), (20, .iconst 1, 1, [], 1, []), (21, .bipush 9, 2, [], 9, []), (23, .invokestatic 78, 3, [94, 3, 3], 0, [336]), (26, .ifCond .eq 13, 3, [39], 0, []), (29, .iload 4, 2, [4], 0, []), (31, .iconst 0, 1, [], 0, []), (32, .iconst 5, 1, [], 5, []), (33, .invokestatic 78, 3, [94, 3, 3], 0, [336]), (36, .ifCond .ne 6, 3, [42], 0, []), (39, .bipush (-2), 2, [], -2, []), (41, .ireturn, 1, [], 0, []), (42, .aload_n 0, 1, [0], 0, []), (43, .getfield 20, 3, [9, 1, 2], 0, [296]), (46, .invokevirtual 154, 3, [12, 1, 3, 2], 0, [457]), (49, .ifCond .ne 6, 3, [55], 0, []), (52, .bipush (-3), 2, [], -3, []), (54, .ireturn, 1, [], 0, []), (55, .aload_n 0, 1, [0], 0, []), (56, .getfield 20, 3, [9, 1, 2], 0, [296]), (59, .getfield 107, 3, [2, 3, 0], 0, [154]), (62, .bipush 6, 2, [], 6, []), (64, .if_icmp .lt 6, 3, [70], 0, []), (67, .bipush (-4), 2, [], -4, []), (69, .ireturn, 1, [], 0, []), (70, .aload_n 0, 1, [0], 0, []), (71, .getfield 20, 3, [9, 1, 2], 0, [296]), (74, .getfield 113, 3, [2, 1, 2], 0, [142]), (77, .aload_n 0, 1, [0], 0, []), (78, .getfield 20, 3, [9, 1, 2], 0, [296]), (81, .getfield 107, 3, [2, 3, 0], 0, [154]), (84, .aaload, 1, [1, 1, 6], 0, []), (85, .astore 5, 2, [5], 0, []), (87, .aload 5, 2, [5], 0, []), (89, .iload_n 1, 1, [1], 0, []), (90, .invokevirtual 166, 3, [9, 2, 0, 1], 0, [476]), (93, .aload 5, 2, [5], 0, []), (95, .iload_n 2, 1, [2], 0, []), (96, .putfield 122, 3, [1, 1, 0], 0, [95]), (99, .aload 5, 2, [5], 0, []), (101, .iload_n 3, 1, [3], 0, []), (102, .putfield 125, 3, [1, 2, 0], 0, [99]), (105, .aload 5, 2, [5], 0, []), (107, .iload 4, 2, [4], 0, []), (109, .putfield 128, 3, [1, 3, 0], 0, [103]), (112, .aload_n 0, 1, [0], 0, []), (113, .getfield 20, 3, [9, 1, 2], 0, [296]), (116, .dup, 1, [], 0, []), (117, .getfield 107, 3, [2, 3, 0], 0, [154]), (120, .iconst 1, 1, [], 1, []), (121, .iadd, 1, [], 0, []), (122, .putfield 107, 3, [2, 3, 0], 0, [154]), (125, .aload_n 0, 1, [0], 0, []), (126, .getfield 20, 3, [9, 1, 2], 0, [296]), (129, .getfield 107, 3, [2, 3, 0], 0, [154]), (132, .iconst 1, 1, [], 1, []), (133, .isub, 1, [], 0, []), (134, .ireturn, 1, [], 0, [])]
def hd_X9_arrive : List (Nat × List Bool) := []
def me_X9_arrive : z_Me := (⟨"StayingGuests", "arrive", "(IIII)I"⟩, prog_1_method_10_code, 6, some .int, cd_X9_arrive, hd_X9_arrive)
def cd_X9_leave : List z_En := [(0, .aload_n 0, 1, [0], 0, []), (1, .iload_n 1, 1, [1], 0, []), (2, .invokevirtual 110, 3, [97, 2, 3, 9], 0, [396]), (5, .ifCond .ne 5, 3, [10], 0, []), (8, .iconst (-1), 1, [], -1, []), (9, .ireturn, 1, [], 0, []), (10, .aload_n 0, 1, [0], 0, []), (11, .getfield 20, 3, [9, 1, 2], 0, [296]), (14, .getfield 107, 3, [2, 3, 0], 0, [154]), (17, .iconst 1, 1, [], 1, []), (18, .if_icmp .ne 6, 3, [24], 0, []), (21, .bipush (-3), 2, [], -3, []), (23, .ireturn, 1, [], 0, []), (24, .aload_n 0, 1, [0], 0, []), (25, .getfield 20, 3, [9, 1, 2], 0, [296]), (28, .iload_n 1, 1, [1], 0, []), (29, .invokevirtual 169, 3, [25, 2, 0, 2], 0, [481]), (32, .aload_n 0, 1, [0], 0, []), (33, .getfield 44, 3, [9, 5, 2], 0, [300]), (36, .iconst 0, 1, [], 0, []), (37, .putfield 104, 3, [3, 3, 0], 0, [219]), (40, .aload_n 0, 1, [0], 0, []), (41, .getfield 20, 3, [9, 1, 2], 0, [296]), (44, .getfield 107, 3, [2, 3, 0], 0, [154]), (47, .ireturn, 1, [], 0, [])]
def hd_X9_leave : List (Nat × List Bool) := []
def me_X9_leave : z_Me := (⟨"StayingGuests", "leave", "(I)I"⟩, prog_1_method_11_code, 2, some .int, cd_X9_leave, hd_X9_leave)
def cd_X9_dinner : List z_En := [(0, .aload_n 0, 1, [0], 0, []), (1, .iconst 0, 1, [], 0, []), (2, .putfield 70, 3, [9, 10, 0], 0, [305]), (5, .iload_n 1, 1, [1], 0, []), (6, .invokestatic 74, 3, [95, 1, 3], 0, [333]), (9, .ifCond .ne 5, 3, [14], 0, []), (12, .iconst (-1), 1, [], -1, []), (13, .ireturn, 1, [], 0, []), (14, .iload_n 2, 1, [2], 0, []), (15, .iconst 0, 1, [], 0, []), (16, .iconst 2, 1, [], 2, []), (17, .invokestatic 78, 3, [94, 3, 3], 0, [336]), (20, .ifCond .eq 22, 3, [42], 0, []), (23, .iload 4, 2, [4], 0, []), (25, .iconst 0, 1, [], 0, []), (26, .bipush 20, 2, [], 20, []), (28, .invokestatic 78, 3, [94, 3, 3], 0, [336]), (31, .ifCond .eq 11, 3, [42], 0, []), (34, .iload 5, 2, [5], 0, []), (36, .invokestatic 172, 3, [98, 1, 3], 0, [489]), (39, .ifCond .ne 6, 3, [45], 0, []), (42, .bipush (-2), 2, [], -2, []), (44, .ireturn, 1, [], 0, []), (45, .aload_n 0, 1, [0], 0, []), (46, .getfield 13, 3, [9, 0, 2], 0, [295]), (49, .iload_n 1, 1, [1], 0, []), (50, .aaload, 1, [50, 2, 4], 0, []), (51, .astore 6, 2, [6], 0, []), (53, .aload 6, 2, [6], 0, []), (55, .iload_n 2, 1, [2], 0, []), (56, .invokevirtual 82, 3, [34, 2, 1, 4], 0, [339]), (59, .istore 7, 2, [7], 0, []), (61, .iload 7, 2, [7], 0, []), (63, .ifCond .ne 15, 3, [78], 0, []), (66, .aload 6, 2, [6], 0, []), (68, .iload_n 3, 1, [3], 0, []), (69, .iconst 2, 1, [], 2, []), (70, .iload 4, 2, [4], 0, []), (72, .imul, 1, [], 0, []), (73, .invokevirtual 86, 3, [36, 3, 1, 4], 0, [343]), (76, .istore 7, 2, [7], 0, []), (78, .iload 7, 2, [7], 0, []), (80, .ifCond .eq 10, 3, [90], 0, []), (83, .aload_n 0, 1, [0], 0, []), (84, .iload 7, 2, [7], 0, []), (86, .invokevirtual 90, 3, [99, 2, 1, 9], 0, [347]), (89, .ireturn, 1, [], 0, []), (90, .aload_n 0, 1, [0], 0, []), (91, .getfield 20, 3, [9, 1, 2], 0, [296]), (94, .invokevirtual 154, 3, [12, 1, 3, 2], 0, [457]), (97, .ifCond .ne 6, 3, [103], 0, []), (100, .bipush (-3), 2, [], -3, []), (102, .ireturn, 1, [], 0, []), (103, .aload_n 0, 1, [0], 0, []), (104, .getfield 37, 3, [9, 4, 2], 0, [299]), (107, .aload_n 0, 1, [0], 0, []), (108, .getfield 20, 3, [9, 1, 2], 0, [296]), (111, .getfield 107, 3, [2, 3, 0], 0, [154]), (114, .aload 6, 2, [6], 0, []), (116, .iload_n 3, 1, [3], 0, []), (117, .iload 4, 2, [4], 0, []), (119, .invokevirtual 175, 3, [1, 5, 1, 0], 0, [492]), (122, .istore 8, 2, [8], 0, []), (124, .iload 8, 2, [8], 0, []), (126, .ifCond .eq 6, 3, [132], 0, []), (129, .iload 8, 2, [8], 0, []), (131, .ireturn, 1, [], 0, []), (132, .aload_n 0, 1, [0], 0, []), (133, .getfield 37, 3, [9, 4, 2], 0, [299]), (136, .aload_n 0, 1, [0], 0, []), (137, .getfield 20, 3, [9, 1, 2], 0, [296]), (140, .aload 6, 2, [6], 0, []), (142, .iload_n 3, 1, [3], 0, []), (143, .iload 4, 2, [4], 0, []), (145, .invokevirtual 179, 3, [2, 5, 0, 0], 0, [503]), (148, .aload_n 0, 1, [0], 0, []), (149, .getfield 37, 3, [9, 4, 2], 0, [299]), (152, .iload 5, 2, [5], 0, []), (154, .invokevirtual 183, 3, [4, 2, 1, 0], 0, [514]), (157, .ireturn, 1, [], 0, [])]
def hd_X9_dinner : List (Nat × List Bool) := []
def me_X9_dinner : z_Me := (⟨"StayingGuests", "dinner", "(IIIII)I"⟩, prog_1_method_12_code, 9, some .int, cd_X9_dinner, hd_X9_dinner)
def cd_X9_softly : List z_En := [(0, .aload_n 0, 1, [0], 0, []), (1, .iload_n 1, 1, [1], 0, []), (2, .invokevirtual 110, 3, [97, 2, 3, 9], 0, [396]), (5, .ifCond .ne 5, 3, [10], 0, []), (8, .iconst (-1), 1, [], -1, []), (9, .ireturn, 1, [], 0, []), (10, .iload_n 2, 1, [2], 0, []), (11, .iconst (-1), 1, [], -1, []), (12, .bipush 8, 2, [], 8, []), (14, .invokestatic 78, 3, [94, 3, 3], 0, [336]), (17, .ifCond .ne 6, 3, [23], 0, []), (20, .bipush (-2), 2, [], -2, []), (22, .ireturn, 1, [], 0, []), (23, .aload_n 0, 1, [0], 0, []), (24, .getfield 20, 3, [9, 1, 2], 0, [296]), (27, .getfield 113, 3, [2, 1, 2], 0, [142]), (30, .iload_n 1, 1, [1], 0, []), (31, .aaload, 1, [1, 1, 6], 0, []), (32, .getfield 134, 3, [1, 5, 1], 0, [113]), (35, .ifCond .eq 6, 3, [41], 0, []), (38, .bipush (-3), 2, [], -3, []), (40, .ireturn, 1, [], 0, []), (41, .iload_n 2, 1, [2], 0, []), (42, .ifCond .ge 18, 3, [60], 0, []), (45, .aload_n 0, 1, [0], 0, []), (46, .getfield 51, 3, [9, 6, 2], 0, [301]), (49, .aload_n 0, 1, [0], 0, []), (50, .getfield 20, 3, [9, 1, 2], 0, [296]), (53, .iload_n 1, 1, [1], 0, []), (54, .invokevirtual 186, 3, [38, 3, 1, 5], 0, [534]), (57, .goto 16, 3, [73], 0, []), (60, .aload_n 0, 1, [0], 0, []), (61, .getfield 51, 3, [9, 6, 2], 0, [301]), (64, .aload_n 0, 1, [0], 0, []), (65, .getfield 20, 3, [9, 1, 2], 0, [296]), (68, .iload_n 1, 1, [1], 0, []), (69, .iload_n 2, 1, [2], 0, []), (70, .invokevirtual 190, 3, [39, 4, 1, 5], 0, [548]), (73, .ireturn, 1, [], 0, [])]
def hd_X9_softly : List (Nat × List Bool) := []
def me_X9_softly : z_Me := (⟨"StayingGuests", "softly", "(II)I"⟩, prog_1_method_13_code, 3, some .int, cd_X9_softly, hd_X9_softly)
def cd_X9_just : List z_En := [(0, .aload_n 0, 1, [0], 0, []), (1, .iload_n 1, 1, [1], 0, []), (2, .invokevirtual 110, 3, [97, 2, 3, 9], 0, [396]), (5, .ifCond .ne 5, 3, [10], 0, []), (8, .iconst (-1), 1, [], -1, []), (9, .ireturn, 1, [], 0, []), (10, .iload_n 2, 1, [2], 0, []), (11, .iconst 0, 1, [], 0, []), (12, .bipush 6, 2, [], 6, []), (14, .invokestatic 78, 3, [94, 3, 3], 0, [336]), (17, .ifCond .eq 13, 3, [30], 0, []), (20, .iload_n 3, 1, [3], 0, []), (21, .iconst 0, 1, [], 0, []), (22, .bipush 54, 2, [], 54, []), (24, .invokestatic 78, 3, [94, 3, 3], 0, [336]), (27, .ifCond .ne 6, 3, [33], 0, []), (30, .bipush (-2), 2, [], -2, []), (32, .ireturn, 1, [], 0, []), (33, .aload_n 0, 1, [0], 0, []), (34, .getfield 51, 3, [9, 6, 2], 0, [301]), (37, .aload_n 0, 1, [0], 0, []), (38, .getfield 20, 3, [9, 1, 2], 0, [296]), (41, .iload_n 1, 1, [1], 0, []), (42, .iload_n 2, 1, [2], 0, []), (43, .iload_n 3, 1, [3], 0, []), (44, .invokevirtual 194, 3, [42, 5, 1, 5], 0, [560]), (47, .ireturn, 1, [], 0, [])]
def hd_X9_just : List (Nat × List Bool) := []
def me_X9_just : z_Me := (⟨"StayingGuests", "just", "(III)I"⟩, prog_1_method_14_code, 4, some .int, cd_X9_just, hd_X9_just)
def cd_X9_apart : List z_En := [(0, .iload_n 1, 1, [1], 0, []), (1, .iconst (-1), 1, [], -1, []), (2, .iconst 5, 1, [], 5, []), (3, .invokestatic 78, 3, [94, 3, 3], 0, [336]), (6, .ifCond .ne 6, 3, [12], 0, []), (9, .bipush (-2), 2, [], -2, []), (11, .ireturn, 1, [], 0, []), (12, .aload_n 0, 1, [0], 0, []), (13, .getfield 20, 3, [9, 1, 2], 0, [296]), (16, .invokevirtual 154, 3, [12, 1, 3, 2], 0, [457]), (19, .ifCond .ne 6, 3, [25], 0, []), (22, .bipush (-3), 2, [], -3, []), (24, .ireturn, 1, [], 0, []), (25, .aload_n 0, 1, [0], 0, []), (26, .getfield 58, 3, [9, 7, 2], 0, [302]), (29, .aload_n 0, 1, [0], 0, []), (30, .getfield 20, 3, [9, 1, 2], 0, [296]), (33, .invokevirtual 198, 3, [50, 2, 1, 7], 0, [572]), (36, .istore_n 2, 1, [2], 0, []), (37, .iload_n 1, 1, [1], 0, []), (38, .ifCond .ge 7, 3, [45], 0, []), (41, .iload_n 2, 1, [2], 0, []), (42, .goto 12, 3, [54], 0, []), (45, .aload_n 0, 1, [0], 0, []), (46, .getfield 58, 3, [9, 7, 2], 0, [302]), (49, .getfield 202, 3, [7, 0, 2], 0, [247]), (52, .iload_n 1, 1, [1], 0, []), (53, .iaload, 1, [], 0, []), (54, .ireturn, 1, [], 0, [])]
def hd_X9_apart : List (Nat × List Bool) := []
def me_X9_apart : z_Me := (⟨"StayingGuests", "apart", "(I)I"⟩, prog_1_method_15_code, 3, some .int, cd_X9_apart, hd_X9_apart)
def cd_X9_best : List z_En := [(0, .iload_n 1, 1, [1], 0, []), (1, .bipush (-2), 2, [], -2, []), (3, .iconst 5, 1, [], 5, []), (4, .invokestatic 78, 3, [94, 3, 3], 0, [336]), (7, .ifCond .ne 6, 3, [13], 0, []), (10, .bipush (-2), 2, [], -2, []), (12, .ireturn, 1, [], 0, []), (13, .aload_n 0, 1, [0], 0, []), (14, .getfield 20, 3, [9, 1, 2], 0, [296]), (17, .invokevirtual 154, 3, [12, 1, 3, 2], 0, [457]), (20, .ifCond .ne 6, 3, [26], 0, []), (23, .bipush (-3), 2, [], -3, []), (25, .ireturn, 1, [], 0, []), (26, .aload_n 0, 1, [0], 0, []), (27, .getfield 65, 3, [9, 8, 2], 0, [303]), (30, .aload_n 0, 1, [0], 0, []), (31, .getfield 20, 3, [9, 1, 2], 0, [296]), (34, .invokevirtual 205, 3, [45, 2, 0, 6], 0, [591]), (37, .iload_n 1, 1, [1], 0, []), (38, .bipush (-2), 2, [], -2, []), (40, .if_icmp .ne 11, 3, [51], 0, []), (43, .aload_n 0, 1, [0], 0, []), (44, .getfield 65, 3, [9, 8, 2], 0, [303]), (47, .getfield 208, 3, [6, 2, 0], 0, [260]), (50, .ireturn, 1, [], 0, []), (51, .iload_n 1, 1, [1], 0, []), (52, .iconst (-1), 1, [], -1, []), (53, .if_icmp .ne 11, 3, [64], 0, []), (56, .aload_n 0, 1, [0], 0, []), (57, .getfield 65, 3, [9, 8, 2], 0, [303]), (60, .getfield 211, 3, [6, 3, 0], 0, [262]), (63, .ireturn, 1, [], 0, []), (64, .aload_n 0, 1, [0], 0, []), (65, .getfield 65, 3, [9, 8, 2], 0, [303]), (68, .iload_n 1, 1, [1], 0, []), (69, .invokevirtual 214, 3, [46, 2, 1, 6], 0, [606]), (72, .ireturn, 1, [], 0, [])]
def hd_X9_best : List (Nat × List Bool) := []
def me_X9_best : z_Me := (⟨"StayingGuests", "best", "(I)I"⟩, prog_1_method_16_code, 2, some .int, cd_X9_best, hd_X9_best)
def cd_X9_reading : List z_En := [(0, .aload_n 0, 1, [0], 0, []), (1, .iload_n 1, 1, [1], 0, []), (2, .invokevirtual 141, 3, [96, 2, 3, 9], 0, [404]), (5, .ifCond .eq 11, 3, [16], 0, []), (8, .aload_n 0, 1, [0], 0, []), (9, .iload_n 2, 1, [2], 0, []), (10, .invokevirtual 110, 3, [97, 2, 3, 9], 0, [396]), (13, .ifCond .ne 5, 3, [18], 0, []), (16, .iconst (-1), 1, [], -1, []), (17, .ireturn, 1, [], 0, []), (18, .iload_n 3, 1, [3], 0, []), (19, .iconst 0, 1, [], 0, []), (20, .iconst 1, 1, [], 1, []), (21, .invokestatic 78, 3, [94, 3, 3], 0, [336]), (24, .ifCond .ne 6, 3, [30], 0, []), (27, .bipush (-2), 2, [], -2, []), (29, .ireturn, 1, [], 0, []), (30, .aload_n 0, 1, [0], 0, []), (31, .getfield 44, 3, [9, 5, 2], 0, [300]), (34, .getfield 104, 3, [3, 3, 0], 0, [219]), (37, .bipush 8, 2, [], 8, []), (39, .if_icmp .lt 6, 3, [45], 0, []), (42, .bipush (-4), 2, [], -4, []), (44, .ireturn, 1, [], 0, []), (45, .aload_n 0, 1, [0], 0, []), (46, .getfield 44, 3, [9, 5, 2], 0, [300]), (49, .iload_n 1, 1, [1], 0, []), (50, .iload_n 2, 1, [2], 0, []), (51, .iload_n 3, 1, [3], 0, []), (52, .iconst 1, 1, [], 1, []), (53, .if_icmp .ne 7, 3, [60], 0, []), (56, .iconst 1, 1, [], 1, []), (57, .goto 4, 3, [61], 0, []), (60, .iconst 0, 1, [], 0, []), (61, .invokevirtual 217, 3, [29, 4, 1, 3], 0, [614]), (64, .ireturn, 1, [], 0, [])]
def hd_X9_reading : List (Nat × List Bool) := []
def me_X9_reading : z_Me := (⟨"StayingGuests", "reading", "(III)I"⟩, prog_1_method_17_code, 4, some .int, cd_X9_reading, hd_X9_reading)
def cd_X9_back : List z_En := [(0, .iload_n 1, 1, [1], 0, []), (1, .iconst 0, 1, [], 0, []), (2, .aload_n 0, 1, [0], 0, []), (3, .getfield 44, 3, [9, 5, 2], 0, [300]), (6, .getfield 104, 3, [3, 3, 0], 0, [219]), (9, .invokestatic 78, 3, [94, 3, 3], 0, [336]), (12, .ifCond .ne 6, 3, [18], 0, []), (15, .bipush (-2), 2, [], -2, []), (17, .ireturn, 1, [], 0, []), (18, .aload_n 0, 1, [0], 0, []), (19, .getfield 44, 3, [9, 5, 2], 0, [300]), (22, .dup, 1, [], 0, []), (23, .getfield 104, 3, [3, 3, 0], 0, [219]), (26, .iload_n 1, 1, [1], 0, []), (27, .isub, 1, [], 0, []), (28, .putfield 104, 3, [3, 3, 0], 0, [219]), (31, .aload_n 0, 1, [0], 0, []), (32, .getfield 44, 3, [9, 5, 2], 0, [300]), (35, .getfield 104, 3, [3, 3, 0], 0, [219]), (38, .ireturn, 1, [], 0, [])]
def hd_X9_back : List (Nat × List Bool) := []
def me_X9_back : z_Me := (⟨"StayingGuests", "back", "(I)I"⟩, prog_1_method_18_code, 2, some .int, cd_X9_back, hd_X9_back)
def cd_X9_bearings : List z_En := [(0, .aload_n 0, 1, [0], 0, []), (1, .iload_n 1, 1, [1], 0, []), (2, .invokevirtual 110, 3, [97, 2, 3, 9], 0, [396]), (5, .ifCond .ne 5, 3, [10], 0, []), (8, .iconst (-1), 1, [], -1, []), (9, .ireturn, 1, [], 0, []), (10, .aload_n 0, 1, [0], 0, []), (11, .getfield 24, 3, [9, 2, 2], 0, [297]), (14, .aload_n 0, 1, [0], 0, []), (15, .getfield 20, 3, [9, 1, 2], 0, [296]), (18, .invokevirtual 100, 3, [14, 2, 0, 2], 0, [384]), (21, .iconst 0, 1, [], 0, []), (22, .istore_n 2, 1, [2], 0, []), (23, .iconst 1, 1, [], 1, []), (24, .istore_n 3, 1, [3], 0, []), (25, .iload_n 3, 1, [3], 0, []), (26, .bipush 9, 2, [], 9, []), (28, .if_icmp .gt 46, 3, [74], 0, []), (31, .aload_n 0, 1, [0], 0, []), (32, .getfield 24, 3, [9, 2, 2], 0, [297]), (35, .getfield 113, 3, [2, 1, 2], 0, [142]), (38, .iload_n 1, 1, [1], 0, []), (39, .aaload, 1, [1, 1, 6], 0, []), (40, .iload_n 3, 1, [3], 0, []), (41, .putfield 122, 3, [1, 1, 0], 0, [95]), (44, .iload_n 2, 1, [2], 0, []), (45, .aload_n 0, 1, [0], 0, []), (46, .getfield 44, 3, [9, 5, 2], 0, [300]), (49, .aload_n 0, 1, [0], 0, []), (50, .getfield 24, 3, [9, 2, 2], 0, [297]), (53, .invokevirtual 221, 3, [30, 2, 3, 3], 0, [626]), (56, .ifCond .eq 9, 3, [65], 0, []), (59, .iconst 1, 1, [], 1, []), (60, .iload_n 3, 1, [3], 0, []), (61, .ishl, 1, [], 0, []), (62, .goto 4, 3, [66], 0, []), (65, .iconst 0, 1, [], 0, []), (66, .ior, 1, [], 0, []), (67, .istore_n 2, 1, [2], 0, []), (68, .iinc 3 1, 3, [3], 1, []), (71, .goto (-46), 3, [25], 0, []), (74, .iload_n 2, 1, [2], 0, []), (75, .ireturn, 1, [], 0, [])]
def hd_X9_bearings : List (Nat × List Bool) := [(25, [true, true, true, true])]
def me_X9_bearings : z_Me := (⟨"StayingGuests", "bearings", "(I)I"⟩, prog_1_method_19_code, 4, some .int, cd_X9_bearings, hd_X9_bearings)
def cd_X9_kinds : List z_En := [(0, .aload_n 0, 1, [0], 0, []), (1, .iload_n 1, 1, [1], 0, []), (2, .invokevirtual 110, 3, [97, 2, 3, 9], 0, [396]), (5, .ifCond .ne 5, 3, [10], 0, []), (8, .iconst (-1), 1, [], -1, []), (9, .ireturn, 1, [], 0, []), (10, .aload_n 0, 1, [0], 0, []), (11, .getfield 24, 3, [9, 2, 2], 0, [297]), (14, .aload_n 0, 1, [0], 0, []), (15, .getfield 20, 3, [9, 1, 2], 0, [296]), (18, .invokevirtual 100, 3, [14, 2, 0, 2], 0, [384]), (21, .iconst 0, 1, [], 0, []), (22, .istore_n 2, 1, [2], 0, []), (23, .iconst 0, 1, [], 0, []), (24, .istore_n 3, 1, [3], 0, []), (25, .iload_n 3, 1, [3], 0, []), (26, .iconst 2, 1, [], 2, []), (27, .if_icmp .gt 46, 3, [73], 0, []), (30, .aload_n 0, 1, [0], 0, []), (31, .getfield 24, 3, [9, 2, 2], 0, [297]), (34, .getfield 113, 3, [2, 1, 2], 0, [142]), (37, .iload_n 1, 1, [1], 0, []), (38, .aaload, 1, [1, 1, 6], 0, []), (39, .iload_n 3, 1, [3], 0, []), (40, .putfield 117, 3, [1, 0, 0], 0, [91]), (43, .iload_n 2, 1, [2], 0, []), (44, .aload_n 0, 1, [0], 0, []), (45, .getfield 44, 3, [9, 5, 2], 0, [300]), (48, .aload_n 0, 1, [0], 0, []), (49, .getfield 24, 3, [9, 2, 2], 0, [297]), (52, .invokevirtual 221, 3, [30, 2, 3, 3], 0, [626]), (55, .ifCond .eq 9, 3, [64], 0, []), (58, .iconst 1, 1, [], 1, []), (59, .iload_n 3, 1, [3], 0, []), (60, .ishl, 1, [], 0, []), (61, .goto 4, 3, [65], 0, []), (64, .iconst 0, 1, [], 0, []), (65, .ior, 1, [], 0, []), (66, .istore_n 2, 1, [2], 0, []), (67, .iinc 3 1, 3, [3], 1, []), (70, .goto (-45), 3, [25], 0, []), (73, .iload_n 2, 1, [2], 0, []), (74, .ireturn, 1, [], 0, [])]
def hd_X9_kinds : List (Nat × List Bool) := [(25, [true, true, true, true])]
def me_X9_kinds : z_Me := (⟨"StayingGuests", "kinds", "(I)I"⟩, prog_1_method_20_code, 4, some .int, cd_X9_kinds, hd_X9_kinds)
def cd_X9_hintings : List z_En := [(0, .aload_n 0, 1, [0], 0, []), (1, .iload_n 1, 1, [1], 0, []), (2, .invokevirtual 141, 3, [96, 2, 3, 9], 0, [404]), (5, .ifCond .ne 5, 3, [10], 0, []), (8, .iconst (-1), 1, [], -1, []), (9, .ireturn, 1, [], 0, []), (10, .aload_n 0, 1, [0], 0, []), (11, .getfield 24, 3, [9, 2, 2], 0, [297]), (14, .aload_n 0, 1, [0], 0, []), (15, .getfield 20, 3, [9, 1, 2], 0, [296]), (18, .invokevirtual 100, 3, [14, 2, 0, 2], 0, [384]), (21, .iconst 0, 1, [], 0, []), (22, .istore_n 2, 1, [2], 0, []), (23, .iconst 1, 1, [], 1, []), (24, .istore_n 3, 1, [3], 0, []), (25, .iload_n 3, 1, [3], 0, []), (26, .bipush 9, 2, [], 9, []), (28, .if_icmp .gt 43, 3, [71], 0, []), (31, .aload_n 0, 1, [0], 0, []), (32, .getfield 24, 3, [9, 2, 2], 0, [297]), (35, .getfield 144, 3, [2, 0, 2], 0, [138]), (38, .iload_n 1, 1, [1], 0, []), (39, .iload_n 3, 1, [3], 0, []), (40, .iastore, 1, [], 0, []), (41, .iload_n 2, 1, [2], 0, []), (42, .aload_n 0, 1, [0], 0, []), (43, .getfield 44, 3, [9, 5, 2], 0, [300]), (46, .aload_n 0, 1, [0], 0, []), (47, .getfield 24, 3, [9, 2, 2], 0, [297]), (50, .invokevirtual 221, 3, [30, 2, 3, 3], 0, [626]), (53, .ifCond .eq 9, 3, [62], 0, []), (56, .iconst 1, 1, [], 1, []), (57, .iload_n 3, 1, [3], 0, []), (58, .ishl, 1, [], 0, []), (59, .goto 4, 3, [63], 0, []), (62, .iconst 0, 1, [], 0, []), (63, .ior, 1, [], 0, []), (64, .istore_n 2, 1, [2], 0, []), (65, .iinc 3 1, 3, [3], 1, []), (68, .goto (-43), 3, [25], 0, []), (71, .iload_n 2, 1, [2], 0, []), (72, .ireturn, 1, [], 0, [])]
def hd_X9_hintings : List (Nat × List Bool) := [(25, [true, true, true, true])]
def me_X9_hintings : z_Me := (⟨"StayingGuests", "hintings", "(I)I"⟩, prog_1_method_21_code, 4, some .int, cd_X9_hintings, hd_X9_hintings)
def cd_X9_odds : List z_En := [(0, .aload_n 0, 1, [0], 0, []), (1, .iload_n 1, 1, [1], 0, []), (2, .invokevirtual 110, 3, [97, 2, 3, 9], 0, [396]), (5, .ifCond .eq 12, 3, [17], 0, []), (8, .iload_n 2, 1, [2], 0, []), (9, .iconst 0, 1, [], 0, []), (10, .iconst 1, 1, [], 1, []), (11, .invokestatic 78, 3, [94, 3, 3], 0, [336]), (14, .ifCond .ne 7, 3, [21], 0, []), (17, .ldc2_w 225, 3, [], 0, [643]), (20, .lreturn, 1, [], 0, []), (21, .iconst 0, 1, [], 0, []), (22, .istore_n 3, 1, [3], 0, []), (23, .iconst 0, 1, [], 0, []), (24, .istore 4, 2, [4], 0, []), (26, .iload 4, 2, [4], 0, []), (28, .aload_n 0, 1, [0], 0, []), (29, .getfield 20, 3, [9, 1, 2], 0, [296]), (32, .getfield 227, 3, [2, 2, 0], 0, [152]), (35, .if_icmp .ge 30, 3, [65], 0, []), (38, .iload_n 3, 1, [3], 0, []), (39, .aload_n 0, 1, [0], 0, []), (40, .getfield 20, 3, [9, 1, 2], 0, [296]), (43, .iload 4, 2, [4], 0, []), (45, .iload_n 1, 1, [1], 0, []), (46, .invokevirtual 230, 3, [16, 3, 3, 2], 0, [644]), (49, .ifCond .eq 7, 3, [56], 0, []), (52, .iconst 0, 1, [], 0, []), (53, .goto 4, 3, [57], 0, []), (56, .iconst 1, 1, [], 1, []), (57, .iadd, 1, [], 0, []), (58, .istore_n 3, 1, [3], 0, []), (59, .iinc 4 1, 3, [4], 1, []), (62, .goto (-36), 3, [26], 0, []), (65, .aload_n 0, 1, [0], 0, []), (66, .getfield 20, 3, [9, 1, 2], 0, [296]), (69, .getfield 227, 3, [2, 2, 0], 0, [152]), (72, .iload_n 3, 1, [3], 0, []), (73, .invokestatic 234, 3, [100, 2, 1], 0, [645]), (76, .istore 4, 2, [4], 0, []), (78, .iload 4, 2, [4], 0, []), (80, .ifCond .ne 7, 3, [87], 0, []), (83, .ldc2_w 225, 3, [], 0, [643]), (86, .lreturn, 1, [], 0, []), (87, .iload_n 2, 1, [2], 0, []), (88, .ifCond .ne 7, 3, [95], 0, []), (91, .iload_n 3, 1, [3], 0, []), (92, .goto 10, 3, [102], 0, []), (95, .aload_n 0, 1, [0], 0, []), (96, .getfield 20, 3, [9, 1, 2], 0, [296]), (99, .getfield 227, 3, [2, 2, 0], 0, [152]), (102, .iload 4, 2, [4], 0, []), (104, .idiv, 1, [], 0, []), (105, .i2l, 1, [], 0, []), (106, .lreturn, 1, [], 0, [])]
def hd_X9_odds : List (Nat × List Bool) := [(26, [true, true, true, true, true])]
def me_X9_odds : z_Me := (⟨"StayingGuests", "odds", "(II)J"⟩, prog_1_method_22_code, 5, some .long, cd_X9_odds, hd_X9_odds)
def cd_X9_sheet : List z_En := [(0, .aload_n 0, 1, [0], 0, []), (1, .iconst 0, 1, [], 0, []), (2, .putfield 70, 3, [9, 10, 0], 0, [305]), (5, .iload_n 1, 1, [1], 0, []), (6, .invokestatic 74, 3, [95, 1, 3], 0, [333]), (9, .ifCond .ne 5, 3, [14], 0, []), (12, .iconst (-1), 1, [], -1, []), (13, .ireturn, 1, [], 0, []), (14, .iload_n 2, 1, [2], 0, []), (15, .iconst 0, 1, [], 0, []), (16, .iconst 2, 1, [], 2, []), (17, .invokestatic 78, 3, [94, 3, 3], 0, [336]), (20, .ifCond .eq 9, 3, [29], 0, []), (23, .iload_n 3, 1, [3], 0, []), (24, .bipush 60, 2, [], 60, []), (26, .if_icmp .le 6, 3, [32], 0, []), (29, .bipush (-2), 2, [], -2, []), (31, .ireturn, 1, [], 0, []), (32, .iload_n 3, 1, [3], 0, []), (33, .ifCond .ge 9, 3, [42], 0, []), (36, .aload_n 0, 1, [0], 0, []), (37, .iconst 4, 1, [], 4, []), (38, .invokevirtual 90, 3, [99, 2, 1, 9], 0, [347]), (41, .ireturn, 1, [], 0, []), (42, .aload_n 0, 1, [0], 0, []), (43, .getfield 13, 3, [9, 0, 2], 0, [295]), (46, .iload_n 1, 1, [1], 0, []), (47, .aaload, 1, [50, 2, 4], 0, []), (48, .iload_n 2, 1, [2], 0, []), (49, .iload_n 3, 1, [3], 0, []), (50, .invokevirtual 237, 3, [32, 3, 0, 4], 0, [652]), (53, .iconst 1, 1, [], 1, []), (54, .ireturn, 1, [], 0, [])]
def hd_X9_sheet : List (Nat × List Bool) := []
def me_X9_sheet : z_Me := (⟨"StayingGuests", "sheet", "(III)I"⟩, prog_1_method_23_code, 4, some .int, cd_X9_sheet, hd_X9_sheet)
def cd_X9_lose : List z_En := [(0, .iload_n 1, 1, [1], 0, []), (1, .invokestatic 74, 3, [95, 1, 3], 0, [333]), (4, .ifCond .ne 5, 3, [9], 0, []), (7, .iconst (-1), 1, [], -1, []), (8, .ireturn, 1, [], 0, []), (9, .aload_n 0, 1, [0], 0, []), (10, .getfield 13, 3, [9, 0, 2], 0, [295]), (13, .iload_n 1, 1, [1], 0, []), (14, .aaload, 1, [50, 2, 4], 0, []), (15, .getfield 241, 3, [4, 1, 1], 0, [282]), (18, .istore_n 2, 1, [2], 0, []), (19, .aload_n 0, 1, [0], 0, []), (20, .getfield 13, 3, [9, 0, 2], 0, [295]), (23, .iload_n 1, 1, [1], 0, []), (24, .aaload, 1, [50, 2, 4], 0, []), (25, .iconst 0, 1, [], 0, []), (26, .putfield 241, 3, [4, 1, 1], 0, [282]), (29, .iload_n 2, 1, [2], 0, []), (30, .ifCond .eq 7, 3, [37], 0, []), (33, .iconst 1, 1, [], 1, []), (34, .goto 4, 3, [38], 0, []), (37, .iconst 0, 1, [], 0, []), (38, .ireturn, 1, [], 0, [])]
def hd_X9_lose : List (Nat × List Bool) := []
def me_X9_lose : z_Me := (⟨"StayingGuests", "lose", "(I)I"⟩, prog_1_method_24_code, 3, some .int, cd_X9_lose, hd_X9_lose)
def cd_X9_put : List z_En := [(0, .aload_n 0, 1, [0], 0, []), (1, .iconst 0, 1, [], 0, []), (2, .putfield 70, 3, [9, 10, 0], 0, [305]), (5, .iload_n 1, 1, [1], 0, []), (6, .invokestatic 74, 3, [95, 1, 3], 0, [333]), (9, .ifCond .ne 5, 3, [14], 0, []), (12, .iconst (-1), 1, [], -1, []), (13, .ireturn, 1, [], 0, []), (14, .aload_n 0, 1, [0], 0, []), (15, .getfield 13, 3, [9, 0, 2], 0, [295]), (18, .iload_n 1, 1, [1], 0, []), (19, .aaload, 1, [50, 2, 4], 0, []), (20, .iload_n 2, 1, [2], 0, []), (21, .invokevirtual 244, 3, [35, 2, 1, 4], 0, [664]), (24, .istore 4, 2, [4], 0, []), (26, .iload 4, 2, [4], 0, []), (28, .ifCond .eq 10, 3, [38], 0, []), (31, .aload_n 0, 1, [0], 0, []), (32, .iload 4, 2, [4], 0, []), (34, .invokevirtual 90, 3, [99, 2, 1, 9], 0, [347]), (37, .ireturn, 1, [], 0, []), (38, .aload_n 0, 1, [0], 0, []), (39, .getfield 13, 3, [9, 0, 2], 0, [295]), (42, .iload_n 1, 1, [1], 0, []), (43, .aaload, 1, [50, 2, 4], 0, []), (44, .iload_n 2, 1, [2], 0, []), (45, .iload_n 3, 1, [3], 0, []), (46, .invokevirtual 247, 3, [33, 3, 0, 4], 0, [668]), (49, .iconst 1, 1, [], 1, []), (50, .ireturn, 1, [], 0, [])]
def hd_X9_put : List (Nat × List Bool) := []
def me_X9_put : z_Me := (⟨"StayingGuests", "put", "(III)I"⟩, prog_1_method_25_code, 5, some .int, cd_X9_put, hd_X9_put)
def cd_X9_cell : List z_En := [(0, .aload_n 0, 1, [0], 0, []), (1, .iconst 0, 1, [], 0, []), (2, .putfield 70, 3, [9, 10, 0], 0, [305]), (5, .iload_n 1, 1, [1], 0, []), (6, .invokestatic 74, 3, [95, 1, 3], 0, [333]), (9, .ifCond .eq 12, 3, [21], 0, []), (12, .iload_n 3, 1, [3], 0, []), (13, .iconst 0, 1, [], 0, []), (14, .iconst 2, 1, [], 2, []), (15, .invokestatic 78, 3, [94, 3, 3], 0, [336]), (18, .ifCond .ne 7, 3, [25], 0, []), (21, .ldc2_w 225, 3, [], 0, [643]), (24, .lreturn, 1, [], 0, []), (25, .aload_n 0, 1, [0], 0, []), (26, .getfield 13, 3, [9, 0, 2], 0, [295]), (29, .iload_n 1, 1, [1], 0, []), (30, .aaload, 1, [50, 2, 4], 0, []), (31, .iload_n 3, 1, [3], 0, []), (32, .invokevirtual 82, 3, [34, 2, 1, 4], 0, [339]), (35, .istore 4, 2, [4], 0, []), (37, .iload 4, 2, [4], 0, []), (39, .ifCond .ne 15, 3, [54], 0, []), (42, .aload_n 0, 1, [0], 0, []), (43, .getfield 13, 3, [9, 0, 2], 0, [295]), (46, .iload_n 1, 1, [1], 0, []), (47, .aaload, 1, [50, 2, 4], 0, []), (48, .iload_n 2, 1, [2], 0, []), (49, .invokevirtual 244, 3, [35, 2, 1, 4], 0, [664]), (52, .istore 4, 2, [4], 0, []), (54, .iload 4, 2, [4], 0, []), (56, .ifCond .eq 13, 3, [69], 0, []), (59, .aload_n 0, 1, [0], 0, []), (60, .iload 4, 2, [4], 0, []), (62, .putfield 70, 3, [9, 10, 0], 0, [305]), (65, .ldc2_w 225, 3, [], 0, [643]), (68, .lreturn, 1, [], 0, []), (69, .aload_n 0, 1, [0], 0, []), (70, .getfield 13, 3, [9, 0, 2], 0, [295]), (73, .iload_n 1, 1, [1], 0, []), (74, .aaload, 1, [50, 2, 4], 0, []), (75, .getfield 250, 3, [4, 0, 2], 0, [280]), (78, .iload_n 2, 1, [2], 0, []), (79, .iaload, 1, [], 0, []), (80, .i2l, 1, [], 0, []), (81, .lreturn, 1, [], 0, [])]
def hd_X9_cell : List (Nat × List Bool) := []
def me_X9_cell : z_Me := (⟨"StayingGuests", "cell", "(III)J"⟩, prog_1_method_26_code, 5, some .long, cd_X9_cell, hd_X9_cell)
def cd_X9_copy : List z_En := [(0, .aload_n 0, 1, [0], 0, []), (1, .iconst 0, 1, [], 0, []), (2, .putfield 70, 3, [9, 10, 0], 0, [305]), (5, .iload_n 1, 1, [1], 0, []), (6, .invokestatic 74, 3, [95, 1, 3], 0, [333]), (9, .ifCond .eq 10, 3, [19], 0, []), (12, .iload_n 3, 1, [3], 0, []), (13, .invokestatic 74, 3, [95, 1, 3], 0, [333]), (16, .ifCond .ne 5, 3, [21], 0, []), (19, .iconst (-1), 1, [], -1, []), (20, .ireturn, 1, [], 0, []), (21, .aload_n 0, 1, [0], 0, []), (22, .getfield 13, 3, [9, 0, 2], 0, [295]), (25, .iload_n 1, 1, [1], 0, []), (26, .aaload, 1, [50, 2, 4], 0, []), (27, .astore 6, 2, [6], 0, []), (29, .aload_n 0, 1, [0], 0, []), (30, .getfield 13, 3, [9, 0, 2], 0, [295]), (33, .iload_n 3, 1, [3], 0, []), (34, .aaload, 1, [50, 2, 4], 0, []), (35, .astore 7, 2, [7], 0, []), (37, .aload 6, 2, [6], 0, []), (39, .getfield 241, 3, [4, 1, 1], 0, [282]), (42, .ifCond .eq 11, 3, [53], 0, []), (45, .aload 7, 2, [7], 0, []), (47, .getfield 241, 3, [4, 1, 1], 0, [282]), (50, .ifCond .ne 9, 3, [59], 0, []), (53, .aload_n 0, 1, [0], 0, []), (54, .iconst 1, 1, [], 1, []), (55, .invokevirtual 90, 3, [99, 2, 1, 9], 0, [347]), (58, .ireturn, 1, [], 0, []), (59, .aload 6, 2, [6], 0, []), (61, .getfield 253, 3, [4, 2, 0], 0, [284]), (64, .aload 7, 2, [7], 0, []), (66, .getfield 253, 3, [4, 2, 0], 0, [284]), (69, .if_icmp .eq 9, 3, [78], 0, []), (72, .aload_n 0, 1, [0], 0, []), (73, .iconst 2, 1, [], 2, []), (74, .invokevirtual 90, 3, [99, 2, 1, 9], 0, [347]), (77, .ireturn, 1, [], 0, []), (78, .aload 6, 2, [6], 0, []), (80, .iload_n 2, 1, [2], 0, []), (81, .iload 5, 2, [5], 0, []), (83, .invokevirtual 86, 3, [36, 3, 1, 4], 0, [343]), (86, .ifCond .ne 15, 3, [101], 0, []), (89, .aload 7, 2, [7], 0, []), (91, .iload 4, 2, [4], 0, []), (93, .iload 5, 2, [5], 0, []), (95, .invokevirtual 86, 3, [36, 3, 1, 4], 0, [343]), (98, .ifCond .eq 9, 3, [107], 0, []), (101, .aload_n 0, 1, [0], 0, []), (102, .iconst 3, 1, [], 3, []), (103, .invokevirtual 90, 3, [99, 2, 1, 9], 0, [347]), (106, .ireturn, 1, [], 0, []), (107, .aload 6, 2, [6], 0, []), (109, .getfield 250, 3, [4, 0, 2], 0, [280]), (112, .iload_n 2, 1, [2], 0, []), (113, .aload 7, 2, [7], 0, []), (115, .getfield 250, 3, [4, 0, 2], 0, [280]), (118, .iload 4, 2, [4], 0, []), (120, .iload 5, 2, [5], 0, []), (122, .invokestatic 256, 3, [], 0, [680, 682, 681, 65]), (125, .iload 5, 2, [5], 0, []), (127, .ireturn, 1, [], 0, [])]
def hd_X9_copy : List (Nat × List Bool) := []
def me_X9_copy : z_Me := (⟨"StayingGuests", "copy", "(IIIII)I"⟩, prog_1_method_27_code, 8, some .int, cd_X9_copy, hd_X9_copy)
def cd_X9_tell : List z_En := [(0, .aload_n 0, 1, [0], 0, []), (1, .iload_n 1, 1, [1], 0, []), (2, .invokevirtual 110, 3, [97, 2, 3, 9], 0, [396]), (5, .ifCond .ne 5, 3, [10], 0, []), (8, .iconst (-1), 1, [], -1, []), (9, .ireturn, 1, [], 0, []), (10, .aload_n 0, 1, [0], 0, []), (11, .getfield 20, 3, [9, 1, 2], 0, [296]), (14, .getfield 113, 3, [2, 1, 2], 0, [142]), (17, .iload_n 1, 1, [1], 0, []), (18, .aaload, 1, [1, 1, 6], 0, []), (19, .getfield 117, 3, [1, 0, 0], 0, [91]), (22, .lookupswitch 38 #[(0, 26), (1, 32)], 26, [60, 0, 48, 1, 54], 0, []), (48, .aload_n 0, 1, [0], 0, []), (49, .iload_n 1, 1, [1], 0, []), (50, .invokevirtual 262, 3, [102, 2, 1, 9], 0, [687]), (53, .ireturn, 1, [], 0, []), (54, .aload_n 0, 1, [0], 0, []), (55, .iload_n 1, 1, [1], 0, []), (56, .invokevirtual 265, 3, [103, 2, 1, 9], 0, [695]), (59, .ireturn, 1, [], 0, []), (60, .aload_n 0, 1, [0], 0, []), (61, .iload_n 1, 1, [1], 0, []), (62, .invokevirtual 268, 3, [104, 2, 1, 9], 0, [699]), (65, .ireturn, 1, [], 0, [])]
def hd_X9_tell : List (Nat × List Bool) := []
def me_X9_tell : z_Me := (⟨"StayingGuests", "tell", "(I)I"⟩, prog_1_method_28_code, 2, some .int, cd_X9_tell, hd_X9_tell)
def cd_X9_bow : List z_En := [(0, .aload_n 0, 1, [0], 0, []), (1, .iload_n 1, 1, [1], 0, []), (2, .invokevirtual 110, 3, [97, 2, 3, 9], 0, [396]), (5, .ifCond .ne 5, 3, [10], 0, []), (8, .iconst (-1), 1, [], -1, []), (9, .ireturn, 1, [], 0, []), (10, .aload_n 0, 1, [0], 0, []), (11, .getfield 20, 3, [9, 1, 2], 0, [296]), (14, .getfield 113, 3, [2, 1, 2], 0, [142]), (17, .iload_n 1, 1, [1], 0, []), (18, .aaload, 1, [1, 1, 6], 0, []), (19, .getfield 117, 3, [1, 0, 0], 0, [91]), (22, .iconst 2, 1, [], 2, []), (23, .if_icmp .ne 11, 3, [34], 0, []), (26, .aload_n 0, 1, [0], 0, []), (27, .iconst 5, 1, [], 5, []), (28, .invokevirtual 271, 3, [101, 2, 0, 9], 0, [691]), (31, .bipush 70, 2, [], 70, []), (33, .ireturn, 1, [], 0, []), (34, .aload_n 0, 1, [0], 0, []), (35, .iconst 4, 1, [], 4, []), (36, .invokevirtual 271, 3, [101, 2, 0, 9], 0, [691]), (39, .aload_n 0, 1, [0], 0, []), (40, .getfield 20, 3, [9, 1, 2], 0, [296]), (43, .getfield 113, 3, [2, 1, 2], 0, [142]), (46, .iload_n 1, 1, [1], 0, []), (47, .aaload, 1, [1, 1, 6], 0, []), (48, .getfield 128, 3, [1, 3, 0], 0, [103]), (51, .ireturn, 1, [], 0, [])]
def hd_X9_bow : List (Nat × List Bool) := []
def me_X9_bow : z_Me := (⟨"StayingGuests", "bow", "(I)I"⟩, prog_1_method_29_code, 2, some .int, cd_X9_bow, hd_X9_bow)
def cd_X9_as : List z_En := [(0, .aload_n 0, 1, [0], 0, []), (1, .iconst 0, 1, [], 0, []), (2, .putfield 70, 3, [9, 10, 0], 0, [305]), (5, .aload_n 0, 1, [0], 0, []), (6, .iload_n 1, 1, [1], 0, []), (7, .invokevirtual 110, 3, [97, 2, 3, 9], 0, [396]), (10, .ifCond .ne 5, 3, [15], 0, []), (13, .iconst (-1), 1, [], -1, []), (14, .ireturn, 1, [], 0, []), (15, .iload_n 2, 1, [2], 0, []), (16, .iconst 0, 1, [], 0, []), (17, .iconst 2, 1, [], 2, []), (18, .invokestatic 78, 3, [94, 3, 3], 0, [336]), (21, .ifCond .ne 6, 3, [27], 0, []), (24, .bipush (-2), 2, [], -2, []), (26, .ireturn, 1, [], 0, []), (27, .iload_n 2, 1, [2], 0, []), (28, .aload_n 0, 1, [0], 0, []), (29, .getfield 20, 3, [9, 1, 2], 0, [296]), (32, .getfield 113, 3, [2, 1, 2], 0, [142]), (35, .iload_n 1, 1, [1], 0, []), (36, .aaload, 1, [1, 1, 6], 0, []), (37, .getfield 117, 3, [1, 0, 0], 0, [91]), (40, .if_icmp .gt 7, 3, [47], 0, []), (43, .iconst 1, 1, [], 1, []), (44, .goto 8, 3, [52], 0, []), (47, .aload_n 0, 1, [0], 0, []), (48, .iconst 2, 1, [], 2, []), (49, .invokevirtual 90, 3, [99, 2, 1, 9], 0, [347]), (52, .ireturn, 1, [], 0, [])]
def hd_X9_as : List (Nat × List Bool) := []
def me_X9_as : z_Me := (⟨"StayingGuests", "as", "(II)I"⟩, prog_1_method_30_code, 3, some .int, cd_X9_as, hd_X9_as)
def cd_X9_trace : List z_En := [(0, .aload_n 0, 1, [0], 0, []), (1, .getfield 274, 3, [9, 9, 0], 0, [304]), (4, .ireturn, 1, [], 0, [])]
def hd_X9_trace : List (Nat × List Bool) := []
def me_X9_trace : z_Me := (⟨"StayingGuests", "trace", "()I"⟩, prog_1_method_31_code, 1, some .int, cd_X9_trace, hd_X9_trace)
def cd_X9_fault : List z_En := [(0, .aload_n 0, 1, [0], 0, []), (1, .getfield 70, 3, [9, 10, 0], 0, [305]), (4, .ireturn, 1, [], 0, [])]
def hd_X9_fault : List (Nat × List Bool) := []
def me_X9_fault : z_Me := (⟨"StayingGuests", "fault", "()I"⟩, prog_1_method_32_code, 1, some .int, cd_X9_fault, hd_X9_fault)
def cd_X9_many : List z_En := [(0, .iload_n 1, 1, [1], 0, []), (1, .tableswitch 78 0 4 #[35, 43, 51, 59, 70], 35, [79, 0, 36, 1, 44, 2, 52, 3, 60, 4, 71], 0, []), (36, .aload_n 0, 1, [0], 0, []), (37, .getfield 20, 3, [9, 1, 2], 0, [296]), (40, .getfield 107, 3, [2, 3, 0], 0, [154]), (43, .ireturn, 1, [], 0, []), (44, .aload_n 0, 1, [0], 0, []), (45, .getfield 20, 3, [9, 1, 2], 0, [296]), (48, .getfield 227, 3, [2, 2, 0], 0, [152]), (51, .ireturn, 1, [], 0, []), (52, .aload_n 0, 1, [0], 0, []), (53, .getfield 20, 3, [9, 1, 2], 0, [296]), (56, .getfield 277, 3, [2, 4, 0], 0, [160]), (59, .ireturn, 1, [], 0, []), (60, .aload_n 0, 1, [0], 0, []), (61, .getfield 20, 3, [9, 1, 2], 0, [296]), (64, .invokevirtual 280, 3, [26, 1, 1, 2], 0, [723]), (67, .invokestatic 283, 3, [178, 1, 1], 0, [724]), (70, .ireturn, 1, [], 0, []), (71, .aload_n 0, 1, [0], 0, []), (72, .getfield 44, 3, [9, 5, 2], 0, [300]), (75, .getfield 104, 3, [3, 3, 0], 0, [219]), (78, .ireturn, 1, [], 0, []), (79, .bipush (-2), 2, [], -2, []), (81, .ireturn, 1, [], 0, [])]
def hd_X9_many : List (Nat × List Bool) := []
def me_X9_many : z_Me := (⟨"StayingGuests", "many", "(I)I"⟩, prog_1_method_33_code, 2, some .int, cd_X9_many, hd_X9_many)
def cd_X9_within : List z_En := [(0, .iload_n 0, 1, [0], 0, []), (1, .iload_n 1, 1, [1], 0, []), (2, .if_icmp .lt 12, 3, [14], 0, []), (5, .iload_n 0, 1, [0], 0, []), (6, .iload_n 2, 1, [2], 0, []), (7, .if_icmp .gt 7, 3, [14], 0, []), (10, .iconst 1, 1, [], 1, []), (11, .goto 4, 3, [15], 0, []), (14, .iconst 0, 1, [], 0, []), (15, .ireturn, 1, [], 0, [])]
def hd_X9_within : List (Nat × List Bool) := []
def me_X9_within : z_Me := (⟨"StayingGuests", "within", "(III)Z"⟩, prog_1_method_34_code, 3, some .boolean, cd_X9_within, hd_X9_within)
def cd_X9_isSheet : List z_En := [(0, .iload_n 0, 1, [0], 0, []), (1, .iconst 0, 1, [], 0, []), (2, .iconst 3, 1, [], 3, []), (3, .invokestatic 78, 3, [94, 3, 3], 0, [336]), (6, .ireturn, 1, [], 0, [])]
def hd_X9_isSheet : List (Nat × List Bool) := []
def me_X9_isSheet : z_Me := (⟨"StayingGuests", "isSheet", "(I)Z"⟩, prog_1_method_35_code, 1, some .boolean, cd_X9_isSheet, hd_X9_isSheet)
def cd_X9_isSign : List z_En := [(0, .iload_n 1, 1, [1], 0, []), (1, .ifCond .lt 18, 3, [19], 0, []), (4, .iload_n 1, 1, [1], 0, []), (5, .aload_n 0, 1, [0], 0, []), (6, .getfield 20, 3, [9, 1, 2], 0, [296]), (9, .getfield 227, 3, [2, 2, 0], 0, [152]), (12, .if_icmp .ge 7, 3, [19], 0, []), (15, .iconst 1, 1, [], 1, []), (16, .goto 4, 3, [20], 0, []), (19, .iconst 0, 1, [], 0, []), (20, .ireturn, 1, [], 0, [])]
def hd_X9_isSign : List (Nat × List Bool) := []
def me_X9_isSign : z_Me := (⟨"StayingGuests", "isSign", "(I)Z"⟩, prog_1_method_36_code, 2, some .boolean, cd_X9_isSign, hd_X9_isSign)
def cd_X9_isGuest : List z_En := [(0, .iload_n 1, 1, [1], 0, []), (1, .ifCond .lt 18, 3, [19], 0, []), (4, .iload_n 1, 1, [1], 0, []), (5, .aload_n 0, 1, [0], 0, []), (6, .getfield 20, 3, [9, 1, 2], 0, [296]), (9, .getfield 107, 3, [2, 3, 0], 0, [154]), (12, .if_icmp .ge 7, 3, [19], 0, []), (15, .iconst 1, 1, [], 1, []), (16, .goto 4, 3, [20], 0, []), (19, .iconst 0, 1, [], 0, []), (20, .ireturn, 1, [], 0, [])]
def hd_X9_isGuest : List (Nat × List Bool) := []
def me_X9_isGuest : z_Me := (⟨"StayingGuests", "isGuest", "(I)Z"⟩, prog_1_method_37_code, 2, some .boolean, cd_X9_isGuest, hd_X9_isGuest)
def cd_X9_isDinnerQuestion : List z_En := [(0, .iload_n 0, 1, [0], 0, []), (1, .iconst 0, 1, [], 0, []), (2, .iconst 4, 1, [], 4, []), (3, .invokestatic 78, 3, [94, 3, 3], 0, [336]), (6, .ifCond .ne 14, 3, [20], 0, []), (9, .iload_n 0, 1, [0], 0, []), (10, .bipush 10, 2, [], 10, []), (12, .bipush 15, 2, [], 15, []), (14, .invokestatic 78, 3, [94, 3, 3], 0, [336]), (17, .ifCond .eq 7, 3, [24], 0, []), (20, .iconst 1, 1, [], 1, []), (21, .goto 4, 3, [25], 0, []), (24, .iconst 0, 1, [], 0, []), (25, .ireturn, 1, [], 0, [])]
def hd_X9_isDinnerQuestion : List (Nat × List Bool) := []
def me_X9_isDinnerQuestion : z_Me := (⟨"StayingGuests", "isDinnerQuestion", "(I)Z"⟩, prog_1_method_38_code, 1, some .boolean, cd_X9_isDinnerQuestion, hd_X9_isDinnerQuestion)
def cd_X9_failed : List z_En := [(0, .aload_n 0, 1, [0], 0, []), (1, .iload_n 1, 1, [1], 0, []), (2, .putfield 70, 3, [9, 10, 0], 0, [305]), (5, .bipush (-10), 2, [], -10, []), (7, .iload_n 1, 1, [1], 0, []), (8, .isub, 1, [], 0, []), (9, .ireturn, 1, [], 0, [])]
def hd_X9_failed : List (Nat × List Bool) := []
def me_X9_failed : z_Me := (⟨"StayingGuests", "failed", "(I)I"⟩, prog_1_method_39_code, 2, some .int, cd_X9_failed, hd_X9_failed)
def cd_X9_commonDivisor : List z_En := [(0, .iload_n 0, 1, [0], 0, []), (1, .istore_n 2, 1, [2], 0, []), (2, .iload_n 1, 1, [1], 0, []), (3, .istore_n 3, 1, [3], 0, []), (4, .iconst 0, 1, [], 0, []), (5, .istore 4, 2, [4], 0, []), (7, .iload 4, 2, [4], 0, []), (9, .bipush 40, 2, [], 40, []), (11, .if_icmp .ge 23, 3, [34], 0, []), (14, .iload_n 3, 1, [3], 0, []), (15, .ifCond .le 19, 3, [34], 0, []), (18, .iload_n 2, 1, [2], 0, []), (19, .iload_n 3, 1, [3], 0, []), (20, .irem, 1, [], 0, []), (21, .istore 5, 2, [5], 0, []), (23, .iload_n 3, 1, [3], 0, []), (24, .istore_n 2, 1, [2], 0, []), (25, .iload 5, 2, [5], 0, []), (27, .istore_n 3, 1, [3], 0, []), (28, .iinc 4 1, 3, [4], 1, []), (31, .goto (-24), 3, [7], 0, []), (34, .iload_n 2, 1, [2], 0, []), (35, .ireturn, 1, [], 0, [])]
def hd_X9_commonDivisor : List (Nat × List Bool) := [(7, [false, false, true, true, true, false])]
def me_X9_commonDivisor : z_Me := (⟨"StayingGuests", "commonDivisor", "(II)I"⟩, prog_1_method_40_code, 6, some .int, cd_X9_commonDivisor, hd_X9_commonDivisor)
def cd_X9_begin : List z_En := [(0, .aload_n 0, 1, [0], 0, []), (1, .bipush 31, 2, [], 31, []), (3, .aload_n 0, 1, [0], 0, []), (4, .getfield 274, 3, [9, 9, 0], 0, [304]), (7, .imul, 1, [], 0, []), (8, .iload_n 1, 1, [1], 0, []), (9, .iadd, 1, [], 0, []), (10, .putfield 274, 3, [9, 9, 0], 0, [304]), (13, .return_, 1, [], 0, [])]
def hd_X9_begin : List (Nat × List Bool) := []
def me_X9_begin : z_Me := (⟨"StayingGuests", "begin", "(I)V"⟩, prog_1_method_41_code, 2, none, cd_X9_begin, hd_X9_begin)
def cd_X9_missTells : List z_En := [(0, .aload_n 0, 1, [0], 0, []), (1, .iconst 1, 1, [], 1, []), (2, .invokevirtual 271, 3, [101, 2, 0, 9], 0, [691]), (5, .aload_n 0, 1, [0], 0, []), (6, .getfield 20, 3, [9, 1, 2], 0, [296]), (9, .getfield 113, 3, [2, 1, 2], 0, [142]), (12, .iload_n 1, 1, [1], 0, []), (13, .aaload, 1, [1, 1, 6], 0, []), (14, .getfield 122, 3, [1, 1, 0], 0, [95]), (17, .ireturn, 1, [], 0, [])]
def hd_X9_missTells : List (Nat × List Bool) := []
def me_X9_missTells : z_Me := (⟨"StayingGuests", "missTells", "(I)I"⟩, prog_1_method_42_code, 2, some .int, cd_X9_missTells, hd_X9_missTells)
def cd_X9_colonelTells : List z_En := [(0, .aload_n 0, 1, [0], 0, []), (1, .iconst 2, 1, [], 2, []), (2, .invokevirtual 271, 3, [101, 2, 0, 9], 0, [691]), (5, .aload_n 0, 1, [0], 0, []), (6, .iload_n 1, 1, [1], 0, []), (7, .invokevirtual 262, 3, [102, 2, 1, 9], 0, [687]), (10, .bipush 100, 2, [], 100, []), (12, .iadd, 1, [], 0, []), (13, .ireturn, 1, [], 0, [])]
def hd_X9_colonelTells : List (Nat × List Bool) := []
def me_X9_colonelTells : z_Me := (⟨"StayingGuests", "colonelTells", "(I)I"⟩, prog_1_method_43_code, 2, some .int, cd_X9_colonelTells, hd_X9_colonelTells)
def cd_X9_brokerTells : List z_En := [(0, .aload_n 0, 1, [0], 0, []), (1, .iconst 3, 1, [], 3, []), (2, .invokevirtual 271, 3, [101, 2, 0, 9], 0, [691]), (5, .aload_n 0, 1, [0], 0, []), (6, .iload_n 1, 1, [1], 0, []), (7, .invokevirtual 265, 3, [103, 2, 1, 9], 0, [695]), (10, .istore_n 2, 1, [2], 0, []), (11, .iload_n 2, 1, [2], 0, []), (12, .aload_n 0, 1, [0], 0, []), (13, .iload_n 1, 1, [1], 0, []), (14, .invokevirtual 262, 3, [102, 2, 1, 9], 0, [687]), (17, .iadd, 1, [], 0, []), (18, .ireturn, 1, [], 0, [])]
def hd_X9_brokerTells : List (Nat × List Bool) := []
def me_X9_brokerTells : z_Me := (⟨"StayingGuests", "brokerTells", "(I)I"⟩, prog_1_method_44_code, 3, some .int, cd_X9_brokerTells, hd_X9_brokerTells)
def cd_X10_init : List z_En := [(0, .aload_n 0, 1, [0], 0, []), (1, .invokespecial 1, 3, [], 0, [735, 73, 74]), (4, .aload_n 0, 1, [0], 0, []), (5, .iconst 4, 1, [], 4, []), (6, .newarray .int, 2, [0], 0, [136]), (8, .dup, 1, [], 0, []), (9, .iconst 0, 1, [], 0, []), (10, .bipush (-9), 2, [], -9, []), (12, .iastore, 1, [], 0, []), (13, .dup, 1, [], 0, []), (14, .iconst 1, 1, [], 1, []), (15, .bipush (-9), 2, [], -9, []), (17, .iastore, 1, [], 0, []), (18, .dup, 1, [], 0, []), (19, .iconst 2, 1, [], 2, []), (20, .bipush (-9), 2, [], -9, []), (22, .iastore, 1, [], 0, []), (23, .dup, 1, [], 0, []), (24, .iconst 3, 1, [], 3, []), (25, .bipush (-9), 2, [], -9, []), (27, .iastore, 1, [], 0, []), (28, .putfield 9, 3, [10, 2, 2], 0, [738]), (31, .aload_n 0, 1, [0], 0, []), (32, .iconst 4, 1, [], 4, []), (33, .newarray .int, 2, [0], 0, [136]), (35, .putfield 13, 3, [10, 3, 2], 0, [739]), (38, .aload_n 0, 1, [0], 0, []), (39, .sipush 240, 3, [], 240, []), (42, .newarray .int, 2, [0], 0, [136]), (44, .putfield 16, 3, [10, 4, 2], 0, [740]), (47, .aload_n 0, 1, [0], 0, []), (48, .iconst 5, 1, [], 5, []), (49, .newarray .int, 2, [0], 0, [136]), (51, .putfield 19, 3, [10, 10, 2], 0, [746]), (54, .aload_n 0, 1, [0], 0, []), (55, .bipush 6, 2, [], 6, []), (57, .newarray .int, 2, [0], 0, [136]), (59, .putfield 22, 3, [10, 11, 2], 0, [747]), (62, .aload_n 0, 1, [0], 0, []), (63, .bipush 6, 2, [], 6, []), (65, .newarray .int, 2, [0], 0, [136]), (67, .putfield 25, 3, [10, 12, 2], 0, [748]), (70, .aload_n 0, 1, [0], 0, []), (71, .bipush 6, 2, [], 6, []), (73, .newarray .int, 2, [0], 0, [136]), (75, .putfield 28, 3, [10, 13, 2], 0, [749]), (78, .aload_n 0, 1, [0], 0, []), (79, .bipush 6, 2, [], 6, []), (81, .newarray .int, 2, [0], 0, [136]), (83, .putfield 31, 3, [10, 14, 2], 0, [750]), (86, .aload_n 0, 1, [0], 0, []), (87, .bipush 6, 2, [], 6, []), (89, .newarray .int, 2, [0], 0, [136]), (91, .putfield 34, 3, [10, 15, 2], 0, [751]), (94, .aload_n 0, 1, [0], 0, []), (95, .iconst 5, 1, [], 5, []), (96, .newarray .int, 2, [0], 0, [136]), (98, .putfield 37, 3, [10, 19, 2], 0, [755]), (101, .aload_n 0, 1, [0], 0, []), (102, .bipush 24, 2, [], 24, []), (104, .newarray .int, 2, [0], 0, [136]), (106, .putfield 40, 3, [10, 20, 2], 0, [756]), (109, .aload_n 0, 1, [0], 0, []), (110, .bipush 6, 2, [], 6, []), (112, .newarray .int, 2, [0], 0, [136]), (114, .putfield 43, 3, [10, 21, 2], 0, [757]), (117, .aload_n 0, 1, [0], 0, []), (118, .bipush 6, 2, [], 6, []), (120, .newarray .int, 2, [0], 0, [136]), (122, .putfield 46, 3, [10, 22, 2], 0, [758]), (125, .aload_n 0, 1, [0], 0, []), (126, .bipush 55, 2, [], 55, []), (128, .newarray .int, 2, [0], 0, [136]), (130, .putfield 49, 3, [10, 27, 2], 0, [763]), (133, .aload_n 0, 1, [0], 0, []), (134, .bipush 6, 2, [], 6, []), (136, .newarray .int, 2, [0], 0, [136]), (138, .putfield 52, 3, [10, 28, 2], 0, [764]), (141, .aload_n 0, 1, [0], 0, []), (142, .bipush 6, 2, [], 6, []), (144, .newarray .int, 2, [0], 0, [136]), (146, .putfield 55, 3, [10, 29, 2], 0, [765]), (149, .aload_n 0, 1, [0], 0, []), (150, .bipush 6, 2, [], 6, []), (152, .newarray .int, 2, [0], 0, [136]), (154, .putfield 58, 3, [10, 30, 2], 0, [766]), (157, .aload_n 0, 1, [0], 0, []), (158, .bipush 8, 2, [], 8, []), (160, .newarray .int, 2, [0], 0, [136]), (162, .putfield 61, 3, [10, 34, 2], 0, [770]), (165, .aload_n 0, 1, [0], 0, []), (166, .bipush 8, 2, [], 8, []), (168, .newarray .int, 2, [0], 0, [136]), (170, .putfield 64, 3, [10, 35, 2], 0, [771]), (173, .aload_n 0, 1, [0], 0, []), (174, .bipush 8, 2, [], 8, []), (176, .newarray .int, 2, [0], 0, [136]), (178, .putfield 67, 3, [10, 36, 2], 0, [772]), (181, .return_, 1, [], 0, [])]
def hd_X10_init : List (Nat × List Bool) := []
def me_X10_init : z_Me := (⟨"StayingGuestsModel", "<init>", "()V"⟩, prog_12_method_1_code, 1, none, cd_X10_init, hd_X10_init)
def cd_X10_fails : List z_En := [(0, .aload_n 0, 1, [0], 0, []), (1, .iload_n 1, 1, [1], 0, []), (2, .putfield 70, 3, [10, 0, 0], 0, [736]), (5, .bipush (-10), 2, [], -10, []), (7, .iload_n 1, 1, [1], 0, []), (8, .isub, 1, [], 0, []), (9, .ireturn, 1, [], 0, [])]
def hd_X10_fails : List (Nat × List Bool) := []
def me_X10_fails : z_Me := (⟨"StayingGuestsModel", "fails", "(I)I"⟩, prog_12_method_3_code, 2, some .int, cd_X10_fails, hd_X10_fails)
def cd_X10_lost : List z_En := [(0, .aload_n 0, 1, [0], 0, []), (1, .iload_n 1, 1, [1], 0, []), (2, .putfield 70, 3, [10, 0, 0], 0, [736]), (5, .ldc2_w 74, 3, [], 0, [1065]), (8, .lreturn, 1, [], 0, [])]
def hd_X10_lost : List (Nat × List Bool) := []
def me_X10_lost : z_Me := (⟨"StayingGuestsModel", "lost", "(I)J"⟩, prog_12_method_4_code, 2, some .long, cd_X10_lost, hd_X10_lost)
def cd_X10_within : List z_En := [(0, .iload_n 0, 1, [0], 0, []), (1, .iload_n 1, 1, [1], 0, []), (2, .if_icmp .lt 12, 3, [14], 0, []), (5, .iload_n 0, 1, [0], 0, []), (6, .iload_n 2, 1, [2], 0, []), (7, .if_icmp .gt 7, 3, [14], 0, []), (10, .iconst 1, 1, [], 1, []), (11, .goto 4, 3, [15], 0, []), (14, .iconst 0, 1, [], 0, []), (15, .ireturn, 1, [], 0, [])]
def hd_X10_within : List (Nat × List Bool) := []
def me_X10_within : z_Me := (⟨"StayingGuestsModel", "within", "(III)Z"⟩, prog_12_method_5_code, 3, some .boolean, cd_X10_within, hd_X10_within)
def cd_X10_isSheet : List z_En := [(0, .iload_n 0, 1, [0], 0, []), (1, .iconst 0, 1, [], 0, []), (2, .iconst 3, 1, [], 3, []), (3, .invokestatic 76, 3, [108, 3, 3], 0, [855]), (6, .ireturn, 1, [], 0, [])]
def hd_X10_isSheet : List (Nat × List Bool) := []
def me_X10_isSheet : z_Me := (⟨"StayingGuestsModel", "isSheet", "(I)Z"⟩, prog_12_method_6_code, 1, some .boolean, cd_X10_isSheet, hd_X10_isSheet)
def cd_X10_isSort : List z_En := [(0, .iload_n 0, 1, [0], 0, []), (1, .iconst 0, 1, [], 0, []), (2, .iconst 2, 1, [], 2, []), (3, .invokestatic 76, 3, [108, 3, 3], 0, [855]), (6, .ireturn, 1, [], 0, [])]
def hd_X10_isSort : List (Nat × List Bool) := []
def me_X10_isSort : z_Me := (⟨"StayingGuestsModel", "isSort", "(I)Z"⟩, prog_12_method_7_code, 1, some .boolean, cd_X10_isSort, hd_X10_isSort)
def cd_X10_against : List z_En := [(0, .aload_n 0, 1, [0], 0, []), (1, .getfield 9, 3, [10, 2, 2], 0, [738]), (4, .iload_n 1, 1, [1], 0, []), (5, .iaload, 1, [], 0, []), (6, .bipush (-9), 2, [], -9, []), (8, .if_icmp .eq 15, 3, [23], 0, []), (11, .aload_n 0, 1, [0], 0, []), (12, .getfield 9, 3, [10, 2, 2], 0, [738]), (15, .iload_n 1, 1, [1], 0, []), (16, .iaload, 1, [], 0, []), (17, .iload_n 2, 1, [2], 0, []), (18, .if_icmp .eq 5, 3, [23], 0, []), (21, .iconst 2, 1, [], 2, []), (22, .ireturn, 1, [], 0, []), (23, .aload_n 0, 1, [0], 0, []), (24, .getfield 9, 3, [10, 2, 2], 0, [738]), (27, .iload_n 1, 1, [1], 0, []), (28, .iaload, 1, [], 0, []), (29, .bipush (-9), 2, [], -9, []), (31, .if_icmp .ne 5, 3, [36], 0, []), (34, .iconst 1, 1, [], 1, []), (35, .ireturn, 1, [], 0, []), (36, .iload 4, 2, [4], 0, []), (38, .ifCond .ge 5, 3, [43], 0, []), (41, .iconst 4, 1, [], 4, []), (42, .ireturn, 1, [], 0, []), (43, .iload_n 3, 1, [3], 0, []), (44, .ifCond .lt 26, 3, [70], 0, []), (47, .iload_n 3, 1, [3], 0, []), (48, .aload_n 0, 1, [0], 0, []), (49, .getfield 13, 3, [10, 3, 2], 0, [739]), (52, .iload_n 1, 1, [1], 0, []), (53, .iaload, 1, [], 0, []), (54, .if_icmp .gt 16, 3, [70], 0, []), (57, .iload 4, 2, [4], 0, []), (59, .aload_n 0, 1, [0], 0, []), (60, .getfield 13, 3, [10, 3, 2], 0, [739]), (63, .iload_n 1, 1, [1], 0, []), (64, .iaload, 1, [], 0, []), (65, .iload_n 3, 1, [3], 0, []), (66, .isub, 1, [], 0, []), (67, .if_icmp .le 7, 3, [74], 0, []), (70, .iconst 3, 1, [], 3, []), (71, .goto 4, 3, [75], 0, []), (74, .iconst 0, 1, [], 0, []), (75, .ireturn, 1, [], 0, [])]
def hd_X10_against : List (Nat × List Bool) := []
def me_X10_against : z_Me := (⟨"StayingGuestsModel", "against", "(IIII)I"⟩, prog_12_method_8_code, 5, some .int, cd_X10_against, hd_X10_against)
def cd_X10_isSignOf : List z_En := [(0, .iload_n 1, 1, [1], 0, []), (1, .ifCond .lt 15, 3, [16], 0, []), (4, .iload_n 1, 1, [1], 0, []), (5, .aload_n 0, 1, [0], 0, []), (6, .getfield 80, 3, [10, 5, 0], 0, [741]), (9, .if_icmp .ge 7, 3, [16], 0, []), (12, .iconst 1, 1, [], 1, []), (13, .goto 4, 3, [17], 0, []), (16, .iconst 0, 1, [], 0, []), (17, .ireturn, 1, [], 0, [])]
def hd_X10_isSignOf : List (Nat × List Bool) := []
def me_X10_isSignOf : z_Me := (⟨"StayingGuestsModel", "isSignOf", "(I)Z"⟩, prog_12_method_9_code, 2, some .boolean, cd_X10_isSignOf, hd_X10_isSignOf)
def cd_X10_isGuest : List z_En := [(0, .iload_n 1, 1, [1], 0, []), (1, .ifCond .lt 15, 3, [16], 0, []), (4, .iload_n 1, 1, [1], 0, []), (5, .aload_n 0, 1, [0], 0, []), (6, .getfield 83, 3, [10, 6, 0], 0, [742]), (9, .if_icmp .ge 7, 3, [16], 0, []), (12, .iconst 1, 1, [], 1, []), (13, .goto 4, 3, [17], 0, []), (16, .iconst 0, 1, [], 0, []), (17, .ireturn, 1, [], 0, [])]
def hd_X10_isGuest : List (Nat × List Bool) := []
def me_X10_isGuest : z_Me := (⟨"StayingGuestsModel", "isGuest", "(I)Z"⟩, prog_12_method_10_code, 2, some .boolean, cd_X10_isGuest, hd_X10_isGuest)
def cd_X10_isTable : List z_En := [(0, .iload_n 0, 1, [0], 0, []), (1, .iconst 0, 1, [], 0, []), (2, .iconst 5, 1, [], 5, []), (3, .invokestatic 76, 3, [108, 3, 3], 0, [855]), (6, .ireturn, 1, [], 0, [])]
def hd_X10_isTable : List (Nat × List Bool) := []
def me_X10_isTable : z_Me := (⟨"StayingGuestsModel", "isTable", "(I)Z"⟩, prog_12_method_11_code, 1, some .boolean, cd_X10_isTable, hd_X10_isTable)
def cd_X10_isOf : List z_En := [(0, .iload_n 0, 1, [0], 0, []), (1, .iload_n 1, 1, [1], 0, []), (2, .ishr, 1, [], 0, []), (3, .iconst 1, 1, [], 1, []), (4, .iand, 1, [], 0, []), (5, .iconst 1, 1, [], 1, []), (6, .if_icmp .ne 7, 3, [13], 0, []), (9, .iconst 1, 1, [], 1, []), (10, .goto 4, 3, [14], 0, []), (13, .iconst 0, 1, [], 0, []), (14, .ireturn, 1, [], 0, [])]
def hd_X10_isOf : List (Nat × List Bool) := []
def me_X10_isOf : z_Me := (⟨"StayingGuestsModel", "isOf", "(II)Z"⟩, prog_12_method_12_code, 2, some .boolean, cd_X10_isOf, hd_X10_isOf)
def cd_X10_size : List z_En := [(0, .iconst 0, 1, [], 0, []), (1, .istore_n 1, 1, [1], 0, []), (2, .iload_n 0, 1, [0], 0, []), (3, .istore_n 2, 1, [2], 0, []), (4, .iload_n 2, 1, [2], 0, []), (5, .ifCond .le 16, 3, [21], 0, []), (8, .iload_n 1, 1, [1], 0, []), (9, .iload_n 2, 1, [2], 0, []), (10, .iconst 1, 1, [], 1, []), (11, .iand, 1, [], 0, []), (12, .iadd, 1, [], 0, []), (13, .istore_n 1, 1, [1], 0, []), (14, .iload_n 2, 1, [2], 0, []), (15, .iconst 1, 1, [], 1, []), (16, .ishr, 1, [], 0, []), (17, .istore_n 2, 1, [2], 0, []), (18, .goto (-14), 3, [4], 0, []), (21, .iload_n 1, 1, [1], 0, []), (22, .ireturn, 1, [], 0, [])]
def hd_X10_size : List (Nat × List Bool) := [(4, [false, true, true])]
def me_X10_size : z_Me := (⟨"StayingGuestsModel", "size", "(I)I"⟩, prog_12_method_13_code, 3, some .int, cd_X10_size, hd_X10_size)
def cd_X10_digit : List z_En := [(0, .aload_n 0, 1, [0], 0, []), (1, .getfield 86, 3, [10, 16, 0], 0, [752]), (4, .iload_n 1, 1, [1], 0, []), (5, .if_icmp .ge 26, 3, [31], 0, []), (8, .aload_n 0, 1, [0], 0, []), (9, .getfield 16, 3, [10, 4, 2], 0, [740]), (12, .aload_n 0, 1, [0], 0, []), (13, .getfield 86, 3, [10, 16, 0], 0, [752]), (16, .iaload, 1, [], 0, []), (17, .bipush 48, 2, [], 48, []), (19, .iload_n 2, 1, [2], 0, []), (20, .iadd, 1, [], 0, []), (21, .bipush 48, 2, [], 48, []), (23, .iload_n 3, 1, [3], 0, []), (24, .iadd, 1, [], 0, []), (25, .invokestatic 76, 3, [108, 3, 3], 0, [855]), (28, .ifCond .ne 6, 3, [34], 0, []), (31, .bipush (-9), 2, [], -9, []), (33, .ireturn, 1, [], 0, []), (34, .aload_n 0, 1, [0], 0, []), (35, .dup, 1, [], 0, []), (36, .getfield 86, 3, [10, 16, 0], 0, [752]), (39, .iconst 1, 1, [], 1, []), (40, .iadd, 1, [], 0, []), (41, .putfield 86, 3, [10, 16, 0], 0, [752]), (44, .aload_n 0, 1, [0], 0, []), (45, .getfield 16, 3, [10, 4, 2], 0, [740]), (48, .aload_n 0, 1, [0], 0, []), (49, .getfield 86, 3, [10, 16, 0], 0, [752]), (52, .iconst 1, 1, [], 1, []), (53, .isub, 1, [], 0, []), (54, .iaload, 1, [], 0, []), (55, .bipush 48, 2, [], 48, []), (57, .isub, 1, [], 0, []), (58, .ireturn, 1, [], 0, [])]
def hd_X10_digit : List (Nat × List Bool) := []
def me_X10_digit : z_Me := (⟨"StayingGuestsModel", "digit", "(III)I"⟩, prog_12_method_14_code, 4, some .int, cd_X10_digit, hd_X10_digit)
def cd_X10_isSign : List z_En := [(0, .aload_n 0, 1, [0], 0, []), (1, .getfield 86, 3, [10, 16, 0], 0, [752]), (4, .iload_n 1, 1, [1], 0, []), (5, .if_icmp .ge 16, 3, [21], 0, []), (8, .aload_n 0, 1, [0], 0, []), (9, .getfield 16, 3, [10, 4, 2], 0, [740]), (12, .aload_n 0, 1, [0], 0, []), (13, .getfield 86, 3, [10, 16, 0], 0, [752]), (16, .iaload, 1, [], 0, []), (17, .iload_n 2, 1, [2], 0, []), (18, .if_icmp .eq 5, 3, [23], 0, []), (21, .iconst 0, 1, [], 0, []), (22, .ireturn, 1, [], 0, []), (23, .aload_n 0, 1, [0], 0, []), (24, .dup, 1, [], 0, []), (25, .getfield 86, 3, [10, 16, 0], 0, [752]), (28, .iconst 1, 1, [], 1, []), (29, .iadd, 1, [], 0, []), (30, .putfield 86, 3, [10, 16, 0], 0, [752]), (33, .iconst 1, 1, [], 1, []), (34, .ireturn, 1, [], 0, [])]
def hd_X10_isSign : List (Nat × List Bool) := []
def me_X10_isSign : z_Me := (⟨"StayingGuestsModel", "isSign", "(II)Z"⟩, prog_12_method_15_code, 3, some .boolean, cd_X10_isSign, hd_X10_isSign)
def cd_X10_hotel : List z_En := [(0, .aload_n 0, 1, [0], 0, []), (1, .iconst 0, 1, [], 0, []), (2, .putfield 70, 3, [10, 0, 0], 0, [736]), (5, .iload_n 1, 1, [1], 0, []), (6, .invokestatic 89, 3, [109, 1, 3], 0, [852]), (9, .ifCond .ne 5, 3, [14], 0, []), (12, .iconst (-1), 1, [], -1, []), (13, .ireturn, 1, [], 0, []), (14, .iload_n 2, 1, [2], 0, []), (15, .invokestatic 93, 3, [110, 1, 3], 0, [858]), (18, .ifCond .ne 6, 3, [24], 0, []), (21, .bipush (-2), 2, [], -2, []), (23, .ireturn, 1, [], 0, []), (24, .aload_n 0, 1, [0], 0, []), (25, .iload_n 1, 1, [1], 0, []), (26, .iload_n 2, 1, [2], 0, []), (27, .iload_n 3, 1, [3], 0, []), (28, .iload 4, 2, [4], 0, []), (30, .invokevirtual 96, 3, [111, 5, 1, 10], 0, [861]), (33, .istore 5, 2, [5], 0, []), (35, .iload 5, 2, [5], 0, []), (37, .ifCond .eq 10, 3, [47], 0, []), (40, .aload_n 0, 1, [0], 0, []), (41, .iload 5, 2, [5], 0, []), (43, .invokevirtual 100, 3, [106, 2, 1, 10], 0, [865]), (46, .ireturn, 1, [], 0, []), (47, .bipush 60, 2, [], 60, []), (49, .iload_n 1, 1, [1], 0, []), (50, .imul, 1, [], 0, []), (51, .iload_n 3, 1, [3], 0, []), (52, .iadd, 1, [], 0, []), (53, .istore 6, 2, [6], 0, []), (55, .aload_n 0, 1, [0], 0, []), (56, .iload 6, 2, [6], 0, []), (58, .putfield 86, 3, [10, 16, 0], 0, [752]), (61, .aload_n 0, 1, [0], 0, []), (62, .iload 6, 2, [6], 0, []), (64, .iload 4, 2, [4], 0, []), (66, .iadd, 1, [], 0, []), (67, .invokevirtual 104, 3, [121, 2, 3, 10], 0, [869]), (70, .ifCond .ne 14, 3, [84], 0, []), (73, .bipush (-100), 2, [], -100, []), (75, .aload_n 0, 1, [0], 0, []), (76, .getfield 86, 3, [10, 16, 0], 0, [752]), (79, .iload 6, 2, [6], 0, []), (81, .isub, 1, [], 0, []), (82, .isub, 1, [], 0, []), (83, .ireturn, 1, [], 0, []), (84, .aload_n 0, 1, [0], 0, []), (85, .invokevirtual 107, 3, [120, 1, 0, 10], 0, [889]), (88, .aload_n 0, 1, [0], 0, []), (89, .getfield 83, 3, [10, 6, 0], 0, [742]), (92, .ireturn, 1, [], 0, [])]
def hd_X10_hotel : List (Nat × List Bool) := []
def me_X10_hotel : z_Me := (⟨"StayingGuestsModel", "hotel", "(IIII)I"⟩, prog_12_method_16_code, 7, some .int, cd_X10_hotel, hd_X10_hotel)
def cd_X10_takeHotel : List z_En := [(0, .aload_n 0, 1, [0], 0, []), (1, .aload_n 0, 1, [0], 0, []), (2, .getfield 110, 3, [10, 17, 0], 0, [753]), (5, .putfield 80, 3, [10, 5, 0], 0, [741]), (8, .iconst 0, 1, [], 0, []), (9, .istore_n 1, 1, [1], 0, []), (10, .iload_n 1, 1, [1], 0, []), (11, .aload_n 0, 1, [0], 0, []), (12, .getfield 80, 3, [10, 5, 0], 0, [741]), (15, .if_icmp .ge 21, 3, [36], 0, []), (18, .aload_n 0, 1, [0], 0, []), (19, .getfield 19, 3, [10, 10, 2], 0, [746]), (22, .iload_n 1, 1, [1], 0, []), (23, .aload_n 0, 1, [0], 0, []), (24, .getfield 37, 3, [10, 19, 2], 0, [755]), (27, .iload_n 1, 1, [1], 0, []), (28, .iaload, 1, [], 0, []), (29, .iastore, 1, [], 0, []), (30, .iinc 1 1, 3, [1], 1, []), (33, .goto (-23), 3, [10], 0, []), (36, .aload_n 0, 1, [0], 0, []), (37, .aload_n 0, 1, [0], 0, []), (38, .getfield 113, 3, [10, 18, 0], 0, [754]), (41, .putfield 83, 3, [10, 6, 0], 0, [742]), (44, .iconst 0, 1, [], 0, []), (45, .istore_n 1, 1, [1], 0, []), (46, .iload_n 1, 1, [1], 0, []), (47, .aload_n 0, 1, [0], 0, []), (48, .getfield 83, 3, [10, 6, 0], 0, [742]), (51, .if_icmp .ge 78, 3, [129], 0, []), (54, .aload_n 0, 1, [0], 0, []), (55, .getfield 22, 3, [10, 11, 2], 0, [747]), (58, .iload_n 1, 1, [1], 0, []), (59, .aload_n 0, 1, [0], 0, []), (60, .getfield 40, 3, [10, 20, 2], 0, [756]), (63, .iconst 4, 1, [], 4, []), (64, .iload_n 1, 1, [1], 0, []), (65, .imul, 1, [], 0, []), (66, .iaload, 1, [], 0, []), (67, .iastore, 1, [], 0, []), (68, .aload_n 0, 1, [0], 0, []), (69, .getfield 25, 3, [10, 12, 2], 0, [748]), (72, .iload_n 1, 1, [1], 0, []), (73, .aload_n 0, 1, [0], 0, []), (74, .getfield 40, 3, [10, 20, 2], 0, [756]), (77, .iconst 4, 1, [], 4, []), (78, .iload_n 1, 1, [1], 0, []), (79, .imul, 1, [], 0, []), (80, .iconst 1, 1, [], 1, []), (81, .iadd, 1, [], 0, []), (82, .iaload, 1, [], 0, []), (83, .iastore, 1, [], 0, []), (84, .aload_n 0, 1, [0], 0, []), (85, .getfield 28, 3, [10, 13, 2], 0, [749]), (88, .iload_n 1, 1, [1], 0, []), (89, .aload_n 0, 1, [0], 0, []), (90, .getfield 40, 3, [10, 20, 2], 0, [756]), (93, .iconst 4, 1, [], 4, []), (94, .iload_n 1, 1, [1], 0, []), (95, .imul, 1, [], 0, []), (96, .iconst 2, 1, [], 2, []), (97, .iadd, 1, [], 0, []), (98, .iaload, 1, [], 0, []), (99, .iastore, 1, [], 0, []), (100, .aload_n 0, 1, [0], 0, []), (101, .getfield 31, 3, [10, 14, 2], 0, [750]), (104, .iload_n 1, 1, [1], 0, []), (105, .aload_n 0, 1, [0], 0, []), (106, .getfield 40, 3, [10, 20, 2], 0, [756]), (109, .iconst 4, 1, [], 4, []), (110, .iload_n 1, 1, [1], 0, []), (111, .imul, 1, [], 0, []), (112, .iconst 3, 1, [], 3, []), (113, .iadd, 1, [], 0, []), (114, .iaload, 1, [], 0, []), (115, .iastore, 1, [], 0, []), (116, .aload_n 0, 1, [0], 0, []), (117, .getfield 34, 3, [10, 15, 2], 0, [751]), (120, .iload_n 1, 1, [1], 0, []), (121, .iconst 0, 1, [], 0, []), (122, .iastore, 1, [], 0, []), (123, .iinc 1 1, 3, [1], 1, []), (126, .goto (-80), 3, [46], 0, []), (129, .aload_n 0, 1, [0], 0, []), (130, .iconst 0, 1, [], 0, []), (131, .putfield 116, 3, [10, 7, 0], 0, [743]), (134, .aload_n 0, 1, [0], 0, []), (135, .iconst 0, 1, [], 0, []), (136, .putfield 119, 3, [10, 8, 0], 0, [744]), (139, .aload_n 0, 1, [0], 0, []), (140, .iconst 0, 1, [], 0, []), (141, .putfield 122, 3, [10, 9, 0], 0, [745]), (144, .aload_n 0, 1, [0], 0, []), (145, .iconst 0, 1, [], 0, []), (146, .putfield 125, 3, [10, 33, 0], 0, [769]), (149, .return_, 1, [], 0, [])]
def hd_X10_takeHotel : List (Nat × List Bool) := [(10, [true, true]), (46, [true, true])]
def me_X10_takeHotel : z_Me := (⟨"StayingGuestsModel", "takeHotel", "()V"⟩, prog_12_method_17_code, 2, none, cd_X10_takeHotel, hd_X10_takeHotel)
def cd_X10_readHotel : List z_En := [(0, .aload_n 0, 1, [0], 0, []), (1, .iconst 0, 1, [], 0, []), (2, .putfield 113, 3, [10, 18, 0], 0, [754]), (5, .aload_n 0, 1, [0], 0, []), (6, .iload_n 1, 1, [1], 0, []), (7, .bipush 104, 2, [], 104, []), (9, .invokevirtual 128, 3, [118, 3, 3, 10], 0, [873]), (12, .ifCond .eq 11, 3, [23], 0, []), (15, .aload_n 0, 1, [0], 0, []), (16, .iload_n 1, 1, [1], 0, []), (17, .invokevirtual 132, 3, [122, 2, 3, 10], 0, [877]), (20, .ifCond .ne 5, 3, [25], 0, []), (23, .iconst 0, 1, [], 0, []), (24, .ireturn, 1, [], 0, []), (25, .aload_n 0, 1, [0], 0, []), (26, .getfield 113, 3, [10, 18, 0], 0, [754]), (29, .ifCond .eq 20, 3, [49], 0, []), (32, .aload_n 0, 1, [0], 0, []), (33, .getfield 113, 3, [10, 18, 0], 0, [754]), (36, .bipush 6, 2, [], 6, []), (38, .if_icmp .ge 31, 3, [69], 0, []), (41, .aload_n 0, 1, [0], 0, []), (42, .getfield 86, 3, [10, 16, 0], 0, [752]), (45, .iload_n 1, 1, [1], 0, []), (46, .if_icmp .ge 23, 3, [69], 0, []), (49, .aload_n 0, 1, [0], 0, []), (50, .iload_n 1, 1, [1], 0, []), (51, .bipush 59, 2, [], 59, []), (53, .invokevirtual 128, 3, [118, 3, 3, 10], 0, [873]), (56, .ifCond .eq 11, 3, [67], 0, []), (59, .aload_n 0, 1, [0], 0, []), (60, .iload_n 1, 1, [1], 0, []), (61, .invokevirtual 135, 3, [123, 2, 3, 10], 0, [885]), (64, .ifCond .ne (-39), 3, [25], 0, []), (67, .iconst 0, 1, [], 0, []), (68, .ireturn, 1, [], 0, []), (69, .aload_n 0, 1, [0], 0, []), (70, .getfield 86, 3, [10, 16, 0], 0, [752]), (73, .iload_n 1, 1, [1], 0, []), (74, .if_icmp .ne 7, 3, [81], 0, []), (77, .iconst 1, 1, [], 1, []), (78, .goto 4, 3, [82], 0, []), (81, .iconst 0, 1, [], 0, []), (82, .ireturn, 1, [], 0, [])]
def hd_X10_readHotel : List (Nat × List Bool) := [(25, [true, true])]
def me_X10_readHotel : z_Me := (⟨"StayingGuestsModel", "readHotel", "(I)Z"⟩, prog_12_method_18_code, 2, some .boolean, cd_X10_readHotel, hd_X10_readHotel)
def cd_X10_readTheSigns : List z_En := [(0, .aload_n 0, 1, [0], 0, []), (1, .iconst 0, 1, [], 0, []), (2, .putfield 110, 3, [10, 17, 0], 0, [753]), (5, .aload_n 0, 1, [0], 0, []), (6, .getfield 110, 3, [10, 17, 0], 0, [753]), (9, .iconst 5, 1, [], 5, []), (10, .if_icmp .ge 54, 3, [64], 0, []), (13, .aload_n 0, 1, [0], 0, []), (14, .iload_n 1, 1, [1], 0, []), (15, .iconst 1, 1, [], 1, []), (16, .bipush 9, 2, [], 9, []), (18, .invokevirtual 138, 3, [117, 4, 1, 10], 0, [881]), (21, .istore_n 2, 1, [2], 0, []), (22, .iload_n 2, 1, [2], 0, []), (23, .bipush (-9), 2, [], -9, []), (25, .if_icmp .ne 16, 3, [41], 0, []), (28, .aload_n 0, 1, [0], 0, []), (29, .getfield 110, 3, [10, 17, 0], 0, [753]), (32, .ifCond .le 7, 3, [39], 0, []), (35, .iconst 1, 1, [], 1, []), (36, .goto 4, 3, [40], 0, []), (39, .iconst 0, 1, [], 0, []), (40, .ireturn, 1, [], 0, []), (41, .aload_n 0, 1, [0], 0, []), (42, .getfield 37, 3, [10, 19, 2], 0, [755]), (45, .aload_n 0, 1, [0], 0, []), (46, .getfield 110, 3, [10, 17, 0], 0, [753]), (49, .iload_n 2, 1, [2], 0, []), (50, .iastore, 1, [], 0, []), (51, .aload_n 0, 1, [0], 0, []), (52, .dup, 1, [], 0, []), (53, .getfield 110, 3, [10, 17, 0], 0, [753]), (56, .iconst 1, 1, [], 1, []), (57, .iadd, 1, [], 0, []), (58, .putfield 110, 3, [10, 17, 0], 0, [753]), (61, .goto (-56), 3, [5], 0, []), (64, .iconst 1, 1, [], 1, []), (65, .ireturn, 1, [], 0, [])]
def hd_X10_readTheSigns : List (Nat × List Bool) := [(5, [true, true, false])]
def me_X10_readTheSigns : z_Me := (⟨"StayingGuestsModel", "readTheSigns", "(I)Z"⟩, prog_12_method_19_code, 3, some .boolean, cd_X10_readTheSigns, hd_X10_readTheSigns)
def cd_X10_readGuest : List z_En := [(0, .aload_n 0, 1, [0], 0, []), (1, .getfield 86, 3, [10, 16, 0], 0, [752]), (4, .iload_n 1, 1, [1], 0, []), (5, .if_icmp .ge 15, 3, [20], 0, []), (8, .aload_n 0, 1, [0], 0, []), (9, .getfield 16, 3, [10, 4, 2], 0, [740]), (12, .aload_n 0, 1, [0], 0, []), (13, .getfield 86, 3, [10, 16, 0], 0, [752]), (16, .iaload, 1, [], 0, []), (17, .goto 4, 3, [21], 0, []), (20, .iconst 0, 1, [], 0, []), (21, .istore_n 2, 1, [2], 0, []), (22, .iconst 4, 1, [], 4, []), (23, .aload_n 0, 1, [0], 0, []), (24, .getfield 113, 3, [10, 18, 0], 0, [754]), (27, .imul, 1, [], 0, []), (28, .istore_n 3, 1, [3], 0, []), (29, .aload_n 0, 1, [0], 0, []), (30, .getfield 40, 3, [10, 20, 2], 0, [756]), (33, .iload_n 3, 1, [3], 0, []), (34, .iload_n 2, 1, [2], 0, []), (35, .bipush 109, 2, [], 109, []), (37, .if_icmp .ne 7, 3, [44], 0, []), (40, .iconst 0, 1, [], 0, []), (41, .goto 25, 3, [66], 0, []), (44, .iload_n 2, 1, [2], 0, []), (45, .bipush 99, 2, [], 99, []), (47, .if_icmp .ne 7, 3, [54], 0, []), (50, .iconst 1, 1, [], 1, []), (51, .goto 15, 3, [66], 0, []), (54, .iload_n 2, 1, [2], 0, []), (55, .bipush 98, 2, [], 98, []), (57, .if_icmp .ne 7, 3, [64], 0, []), (60, .iconst 2, 1, [], 2, []), (61, .goto 5, 3, [66], 0, []), (64, .bipush (-9), 2, [], -9, []), (66, .iastore, 1, [], 0, []), (67, .aload_n 0, 1, [0], 0, []), (68, .getfield 40, 3, [10, 20, 2], 0, [756]), (71, .iload_n 3, 1, [3], 0, []), (72, .iaload, 1, [], 0, []), (73, .bipush (-9), 2, [], -9, []), (75, .if_icmp .ne 5, 3, [80], 0, []), (78, .iconst 0, 1, [], 0, []), (79, .ireturn, 1, [], 0, []), (80, .aload_n 0, 1, [0], 0, []), (81, .dup, 1, [], 0, []), (82, .getfield 86, 3, [10, 16, 0], 0, [752]), (85, .iconst 1, 1, [], 1, []), (86, .iadd, 1, [], 0, []), (87, .putfield 86, 3, [10, 16, 0], 0, [752]), (90, .iconst 1, 1, [], 1, []), (91, .istore 4, 2, [4], 0, []), (93, .iload 4, 2, [4], 0, []), (95, .iconst 4, 1, [], 4, []), (96, .if_icmp .ge 62, 3, [158], 0, []), (99, .aload_n 0, 1, [0], 0, []), (100, .getfield 40, 3, [10, 20, 2], 0, [756]), (103, .iload_n 3, 1, [3], 0, []), (104, .iload 4, 2, [4], 0, []), (106, .iadd, 1, [], 0, []), (107, .aload_n 0, 1, [0], 0, []), (108, .iload_n 1, 1, [1], 0, []), (109, .iload 4, 2, [4], 0, []), (111, .iconst 3, 1, [], 3, []), (112, .if_icmp .ne 7, 3, [119], 0, []), (115, .iconst 0, 1, [], 0, []), (116, .goto 4, 3, [120], 0, []), (119, .iconst 1, 1, [], 1, []), (120, .iload 4, 2, [4], 0, []), (122, .iconst 3, 1, [], 3, []), (123, .if_icmp .ne 7, 3, [130], 0, []), (126, .iconst 5, 1, [], 5, []), (127, .goto 5, 3, [132], 0, []), (130, .bipush 9, 2, [], 9, []), (132, .invokevirtual 138, 3, [117, 4, 1, 10], 0, [881]), (135, .iastore, 1, [], 0, []), (136, .aload_n 0, 1, [0], 0, []), (137, .getfield 40, 3, [10, 20, 2], 0, [756]), (140, .iload_n 3, 1, [3], 0, []), (141, .iload 4, 2, [4], 0, []), (143, .iadd, 1, [], 0, []), (144, .iaload, 1, [], 0, []), (145, .bipush (-9), 2, [], -9, []), (147, .if_icmp .ne 5, 3, [152], 0, []), (150, .iconst 0, 1, [], 0, []), (151, .ireturn, 1, [], 0, []), (152, .iinc 4 1, 3, [4], 1, []), (155, .goto (-62), 3, [93], 0, []), (158, .aload_n 0, 1, [0], 0, []), (159, .dup, 1, [], 0, []), (160, .getfield 113, 3, [10, 18, 0], 0, [754]), (163, .iconst 1, 1, [], 1, []), (164, .iadd, 1, [], 0, []), (165, .putfield 113, 3, [10, 18, 0], 0, [754]), (168, .iconst 1, 1, [], 1, []), (169, .ireturn, 1, [], 0, [])]
def hd_X10_readGuest : List (Nat × List Bool) := [(93, [true, true, false, true, true])]
def me_X10_readGuest : z_Me := (⟨"StayingGuestsModel", "readGuest", "(I)Z"⟩, prog_12_method_20_code, 5, some .boolean, cd_X10_readGuest, hd_X10_readGuest)
def cd_X10_weighsOf : List z_En := [(0, .aload_n 0, 1, [0], 0, []), (1, .getfield 22, 3, [10, 11, 2], 0, [747]), (4, .iload_n 2, 1, [2], 0, []), (5, .iaload, 1, [], 0, []), (6, .ifCond .ne 12, 3, [18], 0, []), (9, .aload_n 0, 1, [0], 0, []), (10, .getfield 19, 3, [10, 10, 2], 0, [746]), (13, .iload_n 1, 1, [1], 0, []), (14, .iaload, 1, [], 0, []), (15, .goto 32, 3, [47], 0, []), (18, .aload_n 0, 1, [0], 0, []), (19, .getfield 22, 3, [10, 11, 2], 0, [747]), (22, .iload_n 2, 1, [2], 0, []), (23, .iaload, 1, [], 0, []), (24, .iconst 1, 1, [], 1, []), (25, .if_icmp .ne 14, 3, [39], 0, []), (28, .aload_n 0, 1, [0], 0, []), (29, .getfield 19, 3, [10, 10, 2], 0, [746]), (32, .iload_n 1, 1, [1], 0, []), (33, .iaload, 1, [], 0, []), (34, .iconst 1, 1, [], 1, []), (35, .isub, 1, [], 0, []), (36, .goto 11, 3, [47], 0, []), (39, .aload_n 0, 1, [0], 0, []), (40, .getfield 19, 3, [10, 10, 2], 0, [746]), (43, .iload_n 1, 1, [1], 0, []), (44, .iaload, 1, [], 0, []), (45, .iconst 2, 1, [], 2, []), (46, .idiv, 1, [], 0, []), (47, .ireturn, 1, [], 0, [])]
def hd_X10_weighsOf : List (Nat × List Bool) := []
def me_X10_weighsOf : z_Me := (⟨"StayingGuestsModel", "weighsOf", "(II)I"⟩, prog_12_method_21_code, 3, some .int, cd_X10_weighsOf, hd_X10_weighsOf)
def cd_X10_ofGuest : List z_En := [(0, .aload_n 0, 1, [0], 0, []), (1, .iload_n 1, 1, [1], 0, []), (2, .invokevirtual 142, 3, [113, 2, 3, 10], 0, [897]), (5, .ifCond .ne 5, 3, [10], 0, []), (8, .iconst (-1), 1, [], -1, []), (9, .ireturn, 1, [], 0, []), (10, .iload_n 2, 1, [2], 0, []), (11, .tableswitch 94 0 6 #[41, 48, 55, 62, 69, 76, 85], 41, [105, 0, 52, 1, 59, 2, 66, 3, 73, 4, 80, 5, 87, 6, 96], 0, []), (52, .aload_n 0, 1, [0], 0, []), (53, .getfield 22, 3, [10, 11, 2], 0, [747]), (56, .iload_n 1, 1, [1], 0, []), (57, .iaload, 1, [], 0, []), (58, .ireturn, 1, [], 0, []), (59, .aload_n 0, 1, [0], 0, []), (60, .getfield 25, 3, [10, 12, 2], 0, [748]), (63, .iload_n 1, 1, [1], 0, []), (64, .iaload, 1, [], 0, []), (65, .ireturn, 1, [], 0, []), (66, .aload_n 0, 1, [0], 0, []), (67, .getfield 28, 3, [10, 13, 2], 0, [749]), (70, .iload_n 1, 1, [1], 0, []), (71, .iaload, 1, [], 0, []), (72, .ireturn, 1, [], 0, []), (73, .aload_n 0, 1, [0], 0, []), (74, .getfield 31, 3, [10, 14, 2], 0, [750]), (77, .iload_n 1, 1, [1], 0, []), (78, .iaload, 1, [], 0, []), (79, .ireturn, 1, [], 0, []), (80, .aload_n 0, 1, [0], 0, []), (81, .getfield 34, 3, [10, 15, 2], 0, [751]), (84, .iload_n 1, 1, [1], 0, []), (85, .iaload, 1, [], 0, []), (86, .ireturn, 1, [], 0, []), (87, .aload_n 0, 1, [0], 0, []), (88, .getfield 119, 3, [10, 8, 0], 0, [744]), (91, .iload_n 1, 1, [1], 0, []), (92, .ishr, 1, [], 0, []), (93, .iconst 1, 1, [], 1, []), (94, .iand, 1, [], 0, []), (95, .ireturn, 1, [], 0, []), (96, .aload_n 0, 1, [0], 0, []), (97, .getfield 122, 3, [10, 9, 0], 0, [745]), (100, .iload_n 1, 1, [1], 0, []), (101, .ishr, 1, [], 0, []), (102, .iconst 1, 1, [], 1, []), (103, .iand, 1, [], 0, []), (104, .ireturn, 1, [], 0, []), (105, .bipush (-2), 2, [], -2, []), (107, .ireturn, 1, [], 0, [])]
def hd_X10_ofGuest : List (Nat × List Bool) := []
def me_X10_ofGuest : z_Me := (⟨"StayingGuestsModel", "ofGuest", "(II)I"⟩, prog_12_method_22_code, 3, some .int, cd_X10_ofGuest, hd_X10_ofGuest)
def cd_X10_hint : List z_En := [(0, .aload_n 0, 1, [0], 0, []), (1, .iload_n 1, 1, [1], 0, []), (2, .invokevirtual 145, 3, [112, 2, 3, 10], 0, [905]), (5, .ifCond .eq 12, 3, [17], 0, []), (8, .aload_n 0, 1, [0], 0, []), (9, .getfield 19, 3, [10, 10, 2], 0, [746]), (12, .iload_n 1, 1, [1], 0, []), (13, .iaload, 1, [], 0, []), (14, .goto 4, 3, [18], 0, []), (17, .iconst (-1), 1, [], -1, []), (18, .ireturn, 1, [], 0, [])]
def hd_X10_hint : List (Nat × List Bool) := []
def me_X10_hint : z_Me := (⟨"StayingGuestsModel", "hint", "(I)I"⟩, prog_12_method_23_code, 2, some .int, cd_X10_hint, hd_X10_hint)
def cd_X10_word : List z_En := [(0, .aload_n 0, 1, [0], 0, []), (1, .iload_n 1, 1, [1], 0, []), (2, .invokevirtual 145, 3, [112, 2, 3, 10], 0, [905]), (5, .ifCond .ne 5, 3, [10], 0, []), (8, .iconst (-1), 1, [], -1, []), (9, .ireturn, 1, [], 0, []), (10, .iload_n 2, 1, [2], 0, []), (11, .iconst 1, 1, [], 1, []), (12, .bipush 9, 2, [], 9, []), (14, .invokestatic 76, 3, [108, 3, 3], 0, [855]), (17, .ifCond .ne 6, 3, [23], 0, []), (20, .bipush (-2), 2, [], -2, []), (22, .ireturn, 1, [], 0, []), (23, .aload_n 0, 1, [0], 0, []), (24, .getfield 19, 3, [10, 10, 2], 0, [746]), (27, .iload_n 1, 1, [1], 0, []), (28, .iaload, 1, [], 0, []), (29, .istore_n 3, 1, [3], 0, []), (30, .aload_n 0, 1, [0], 0, []), (31, .getfield 19, 3, [10, 10, 2], 0, [746]), (34, .iload_n 1, 1, [1], 0, []), (35, .iload_n 2, 1, [2], 0, []), (36, .iastore, 1, [], 0, []), (37, .iload_n 3, 1, [3], 0, []), (38, .ireturn, 1, [], 0, [])]
def hd_X10_word : List (Nat × List Bool) := []
def me_X10_word : z_Me := (⟨"StayingGuestsModel", "word", "(II)I"⟩, prog_12_method_24_code, 4, some .int, cd_X10_word, hd_X10_word)
def cd_X10_weighs : List z_En := [(0, .aload_n 0, 1, [0], 0, []), (1, .iload_n 1, 1, [1], 0, []), (2, .invokevirtual 145, 3, [112, 2, 3, 10], 0, [905]), (5, .ifCond .eq 20, 3, [25], 0, []), (8, .aload_n 0, 1, [0], 0, []), (9, .iload_n 2, 1, [2], 0, []), (10, .invokevirtual 142, 3, [113, 2, 3, 10], 0, [897]), (13, .ifCond .eq 12, 3, [25], 0, []), (16, .aload_n 0, 1, [0], 0, []), (17, .iload_n 1, 1, [1], 0, []), (18, .iload_n 2, 1, [2], 0, []), (19, .invokevirtual 148, 3, [124, 3, 1, 10], 0, [917]), (22, .goto 4, 3, [26], 0, []), (25, .iconst (-1), 1, [], -1, []), (26, .ireturn, 1, [], 0, [])]
def hd_X10_weighs : List (Nat × List Bool) := []
def me_X10_weighs : z_Me := (⟨"StayingGuestsModel", "weighs", "(II)I"⟩, prog_12_method_25_code, 3, some .int, cd_X10_weighs, hd_X10_weighs)
def cd_X10_seat : List z_En := [(0, .aload_n 0, 1, [0], 0, []), (1, .iload_n 1, 1, [1], 0, []), (2, .invokevirtual 142, 3, [113, 2, 3, 10], 0, [897]), (5, .ifCond .ne 5, 3, [10], 0, []), (8, .iconst (-1), 1, [], -1, []), (9, .ireturn, 1, [], 0, []), (10, .iload_n 2, 1, [2], 0, []), (11, .invokestatic 152, 3, [114, 1, 3], 0, [925]), (14, .ifCond .ne 6, 3, [20], 0, []), (17, .bipush (-2), 2, [], -2, []), (19, .ireturn, 1, [], 0, []), (20, .aload_n 0, 1, [0], 0, []), (21, .getfield 31, 3, [10, 14, 2], 0, [750]), (24, .iload_n 1, 1, [1], 0, []), (25, .iaload, 1, [], 0, []), (26, .istore_n 3, 1, [3], 0, []), (27, .aload_n 0, 1, [0], 0, []), (28, .getfield 31, 3, [10, 14, 2], 0, [750]), (31, .iload_n 1, 1, [1], 0, []), (32, .iload_n 2, 1, [2], 0, []), (33, .iastore, 1, [], 0, []), (34, .iload_n 3, 1, [3], 0, []), (35, .ireturn, 1, [], 0, [])]
def hd_X10_seat : List (Nat × List Bool) := []
def me_X10_seat : z_Me := (⟨"StayingGuestsModel", "seat", "(II)I"⟩, prog_12_method_26_code, 4, some .int, cd_X10_seat, hd_X10_seat)
def cd_X10_nextToKnow : List z_En := [(0, .iconst 0, 1, [], 0, []), (1, .istore_n 1, 1, [1], 0, []), (2, .iload_n 1, 1, [1], 0, []), (3, .aload_n 0, 1, [0], 0, []), (4, .getfield 83, 3, [10, 6, 0], 0, [742]), (7, .if_icmp .ge 37, 3, [44], 0, []), (10, .aload_n 0, 1, [0], 0, []), (11, .getfield 119, 3, [10, 8, 0], 0, [744]), (14, .iload_n 1, 1, [1], 0, []), (15, .invokestatic 155, 3, [115, 2, 3], 0, [932]), (18, .ifCond .ne 20, 3, [38], 0, []), (21, .aload_n 0, 1, [0], 0, []), (22, .getfield 34, 3, [10, 15, 2], 0, [751]), (25, .iload_n 1, 1, [1], 0, []), (26, .iaload, 1, [], 0, []), (27, .aload_n 0, 1, [0], 0, []), (28, .getfield 28, 3, [10, 13, 2], 0, [749]), (31, .iload_n 1, 1, [1], 0, []), (32, .iaload, 1, [], 0, []), (33, .if_icmp .lt 5, 3, [38], 0, []), (36, .iload_n 1, 1, [1], 0, []), (37, .ireturn, 1, [], 0, []), (38, .iinc 1 1, 3, [1], 1, []), (41, .goto (-39), 3, [2], 0, []), (44, .bipush (-9), 2, [], -9, []), (46, .ireturn, 1, [], 0, [])]
def hd_X10_nextToKnow : List (Nat × List Bool) := [(2, [true, true])]
def me_X10_nextToKnow : z_Me := (⟨"StayingGuestsModel", "nextToKnow", "()I"⟩, prog_12_method_27_code, 2, some .int, cd_X10_nextToKnow, hd_X10_nextToKnow)
def cd_X10_dawns : List z_En := [(0, .iconst 0, 1, [], 0, []), (1, .istore_n 1, 1, [1], 0, []), (2, .aload_n 0, 1, [0], 0, []), (3, .invokevirtual 158, 3, [130, 1, 1, 10], 0, [943]), (6, .istore_n 2, 1, [2], 0, []), (7, .iload_n 2, 1, [2], 0, []), (8, .bipush (-9), 2, [], -9, []), (10, .if_icmp .eq 82, 3, [92], 0, []), (13, .aload_n 0, 1, [0], 0, []), (14, .dup, 1, [], 0, []), (15, .getfield 119, 3, [10, 8, 0], 0, [744]), (18, .iconst 1, 1, [], 1, []), (19, .iload_n 2, 1, [2], 0, []), (20, .ishl, 1, [], 0, []), (21, .ior, 1, [], 0, []), (22, .putfield 119, 3, [10, 8, 0], 0, [744]), (25, .iinc 1 1, 3, [1], 1, []), (28, .iconst 0, 1, [], 0, []), (29, .istore_n 3, 1, [3], 0, []), (30, .iload_n 3, 1, [3], 0, []), (31, .aload_n 0, 1, [0], 0, []), (32, .getfield 83, 3, [10, 6, 0], 0, [742]), (35, .if_icmp .ge 49, 3, [84], 0, []), (38, .aload_n 0, 1, [0], 0, []), (39, .getfield 34, 3, [10, 15, 2], 0, [751]), (42, .iload_n 3, 1, [3], 0, []), (43, .dup2, 1, [], 0, []), (44, .iaload, 1, [], 0, []), (45, .aload_n 0, 1, [0], 0, []), (46, .getfield 119, 3, [10, 8, 0], 0, [744]), (49, .iload_n 3, 1, [3], 0, []), (50, .invokestatic 155, 3, [115, 2, 3], 0, [932]), (53, .ifCond .ne 22, 3, [75], 0, []), (56, .aload_n 0, 1, [0], 0, []), (57, .getfield 31, 3, [10, 14, 2], 0, [750]), (60, .iload_n 3, 1, [3], 0, []), (61, .iaload, 1, [], 0, []), (62, .aload_n 0, 1, [0], 0, []), (63, .getfield 31, 3, [10, 14, 2], 0, [750]), (66, .iload_n 2, 1, [2], 0, []), (67, .iaload, 1, [], 0, []), (68, .if_icmp .ne 7, 3, [75], 0, []), (71, .iconst 1, 1, [], 1, []), (72, .goto 4, 3, [76], 0, []), (75, .iconst 0, 1, [], 0, []), (76, .iadd, 1, [], 0, []), (77, .iastore, 1, [], 0, []), (78, .iinc 3 1, 3, [3], 1, []), (81, .goto (-51), 3, [30], 0, []), (84, .aload_n 0, 1, [0], 0, []), (85, .invokevirtual 158, 3, [130, 1, 1, 10], 0, [943]), (88, .istore_n 2, 1, [2], 0, []), (89, .goto (-82), 3, [7], 0, []), (92, .iload_n 1, 1, [1], 0, []), (93, .ireturn, 1, [], 0, [])]
def hd_X10_dawns : List (Nat × List Bool) := [(7, [true, true, true, false]), (30, [true, true, true, true])]
def me_X10_dawns : z_Me := (⟨"StayingGuestsModel", "dawns", "()I"⟩, prog_12_method_28_code, 4, some .int, cd_X10_dawns, hd_X10_dawns)
def cd_X10_isGiven : List z_En := [(0, .aload_n 0, 1, [0], 0, []), (1, .iload_n 1, 1, [1], 0, []), (2, .iload_n 2, 1, [2], 0, []), (3, .invokevirtual 148, 3, [124, 3, 1, 10], 0, [917]), (6, .istore_n 3, 1, [3], 0, []), (7, .iload_n 3, 1, [3], 0, []), (8, .aload_n 0, 1, [0], 0, []), (9, .getfield 25, 3, [10, 12, 2], 0, [748]), (12, .iload_n 2, 1, [2], 0, []), (13, .iaload, 1, [], 0, []), (14, .if_icmp .le 18, 3, [32], 0, []), (17, .aload_n 0, 1, [0], 0, []), (18, .dup, 1, [], 0, []), (19, .getfield 122, 3, [10, 9, 0], 0, [745]), (22, .iconst 1, 1, [], 1, []), (23, .iload_n 2, 1, [2], 0, []), (24, .ishl, 1, [], 0, []), (25, .ior, 1, [], 0, []), (26, .putfield 122, 3, [10, 9, 0], 0, [745]), (29, .bipush (-9), 2, [], -9, []), (31, .ireturn, 1, [], 0, []), (32, .aload_n 0, 1, [0], 0, []), (33, .getfield 34, 3, [10, 15, 2], 0, [751]), (36, .iload_n 2, 1, [2], 0, []), (37, .dup2, 1, [], 0, []), (38, .iaload, 1, [], 0, []), (39, .iload_n 3, 1, [3], 0, []), (40, .iadd, 1, [], 0, []), (41, .iastore, 1, [], 0, []), (42, .aload_n 0, 1, [0], 0, []), (43, .invokevirtual 162, 3, [131, 1, 1, 10], 0, [939]), (46, .ireturn, 1, [], 0, [])]
def hd_X10_isGiven : List (Nat × List Bool) := []
def me_X10_isGiven : z_Me := (⟨"StayingGuestsModel", "isGiven", "(II)I"⟩, prog_12_method_29_code, 4, some .int, cd_X10_isGiven, hd_X10_isGiven)
def cd_X10_give : List z_En := [(0, .aload_n 0, 1, [0], 0, []), (1, .iload_n 1, 1, [1], 0, []), (2, .invokevirtual 145, 3, [112, 2, 3, 10], 0, [905]), (5, .ifCond .eq 11, 3, [16], 0, []), (8, .aload_n 0, 1, [0], 0, []), (9, .iload_n 2, 1, [2], 0, []), (10, .invokevirtual 142, 3, [113, 2, 3, 10], 0, [897]), (13, .ifCond .ne 5, 3, [18], 0, []), (16, .iconst (-1), 1, [], -1, []), (17, .ireturn, 1, [], 0, []), (18, .aload_n 0, 1, [0], 0, []), (19, .getfield 119, 3, [10, 8, 0], 0, [744]), (22, .iload_n 2, 1, [2], 0, []), (23, .invokestatic 155, 3, [115, 2, 3], 0, [932]), (26, .ifCond .eq 8, 3, [34], 0, []), (29, .bipush (-3), 2, [], -3, []), (31, .goto 9, 3, [40], 0, []), (34, .aload_n 0, 1, [0], 0, []), (35, .iload_n 1, 1, [1], 0, []), (36, .iload_n 2, 1, [2], 0, []), (37, .invokevirtual 165, 3, [132, 3, 1, 10], 0, [935]), (40, .ireturn, 1, [], 0, [])]
def hd_X10_give : List (Nat × List Bool) := []
def me_X10_give : z_Me := (⟨"StayingGuestsModel", "give", "(II)I"⟩, prog_12_method_30_code, 3, some .int, cd_X10_give, hd_X10_give)
def cd_X10_oneNight : List z_En := [(0, .iconst 0, 1, [], 0, []), (1, .istore_n 1, 1, [1], 0, []), (2, .iload_n 1, 1, [1], 0, []), (3, .aload_n 0, 1, [0], 0, []), (4, .getfield 83, 3, [10, 6, 0], 0, [742]), (7, .if_icmp .ge 43, 3, [50], 0, []), (10, .aload_n 0, 1, [0], 0, []), (11, .getfield 34, 3, [10, 15, 2], 0, [751]), (14, .iload_n 1, 1, [1], 0, []), (15, .dup2, 1, [], 0, []), (16, .iaload, 1, [], 0, []), (17, .aload_n 0, 1, [0], 0, []), (18, .getfield 119, 3, [10, 8, 0], 0, [744]), (21, .iload_n 1, 1, [1], 0, []), (22, .invokestatic 155, 3, [115, 2, 3], 0, [932]), (25, .ifCond .ne 16, 3, [41], 0, []), (28, .aload_n 0, 1, [0], 0, []), (29, .getfield 34, 3, [10, 15, 2], 0, [751]), (32, .iload_n 1, 1, [1], 0, []), (33, .iaload, 1, [], 0, []), (34, .ifCond .le 7, 3, [41], 0, []), (37, .iconst 1, 1, [], 1, []), (38, .goto 4, 3, [42], 0, []), (41, .iconst 0, 1, [], 0, []), (42, .isub, 1, [], 0, []), (43, .iastore, 1, [], 0, []), (44, .iinc 1 1, 3, [1], 1, []), (47, .goto (-45), 3, [2], 0, []), (50, .return_, 1, [], 0, [])]
def hd_X10_oneNight : List (Nat × List Bool) := [(2, [true, true])]
def me_X10_oneNight : z_Me := (⟨"StayingGuestsModel", "oneNight", "()V"⟩, prog_12_method_31_code, 2, none, cd_X10_oneNight, hd_X10_oneNight)
def cd_X10_nights : List z_En := [(0, .iload_n 1, 1, [1], 0, []), (1, .iconst 1, 1, [], 1, []), (2, .bipush 30, 2, [], 30, []), (4, .invokestatic 76, 3, [108, 3, 3], 0, [855]), (7, .ifCond .ne 6, 3, [13], 0, []), (10, .bipush (-2), 2, [], -2, []), (12, .ireturn, 1, [], 0, []), (13, .aload_n 0, 1, [0], 0, []), (14, .getfield 83, 3, [10, 6, 0], 0, [742]), (17, .ifCond .ne 6, 3, [23], 0, []), (20, .bipush (-3), 2, [], -3, []), (22, .ireturn, 1, [], 0, []), (23, .iconst 0, 1, [], 0, []), (24, .istore_n 2, 1, [2], 0, []), (25, .iload_n 2, 1, [2], 0, []), (26, .iload_n 1, 1, [1], 0, []), (27, .if_icmp .ge 13, 3, [40], 0, []), (30, .aload_n 0, 1, [0], 0, []), (31, .invokevirtual 168, 3, [134, 1, 0, 10], 0, [951]), (34, .iinc 2 1, 3, [2], 1, []), (37, .goto (-12), 3, [25], 0, []), (40, .aload_n 0, 1, [0], 0, []), (41, .dup, 1, [], 0, []), (42, .getfield 116, 3, [10, 7, 0], 0, [743]), (45, .iload_n 1, 1, [1], 0, []), (46, .iadd, 1, [], 0, []), (47, .putfield 116, 3, [10, 7, 0], 0, [743]), (50, .iconst 0, 1, [], 0, []), (51, .istore_n 2, 1, [2], 0, []), (52, .iconst 0, 1, [], 0, []), (53, .istore_n 3, 1, [3], 0, []), (54, .iload_n 3, 1, [3], 0, []), (55, .aload_n 0, 1, [0], 0, []), (56, .getfield 83, 3, [10, 6, 0], 0, [742]), (59, .if_icmp .ge 33, 3, [92], 0, []), (62, .iload_n 2, 1, [2], 0, []), (63, .aload_n 0, 1, [0], 0, []), (64, .getfield 119, 3, [10, 8, 0], 0, [744]), (67, .iload_n 3, 1, [3], 0, []), (68, .invokestatic 155, 3, [115, 2, 3], 0, [932]), (71, .ifCond .eq 7, 3, [78], 0, []), (74, .iconst 0, 1, [], 0, []), (75, .goto 9, 3, [84], 0, []), (78, .aload_n 0, 1, [0], 0, []), (79, .getfield 34, 3, [10, 15, 2], 0, [751]), (82, .iload_n 3, 1, [3], 0, []), (83, .iaload, 1, [], 0, []), (84, .iadd, 1, [], 0, []), (85, .istore_n 2, 1, [2], 0, []), (86, .iinc 3 1, 3, [3], 1, []), (89, .goto (-35), 3, [54], 0, []), (92, .iload_n 2, 1, [2], 0, []), (93, .ireturn, 1, [], 0, [])]
def hd_X10_nights : List (Nat × List Bool) := [(25, [true, true, true, false]), (54, [true, false, true, true])]
def me_X10_nights : z_Me := (⟨"StayingGuestsModel", "nights", "(I)I"⟩, prog_12_method_32_code, 4, some .int, cd_X10_nights, hd_X10_nights)
def cd_X10_arrive : List z_En := [(0, .iload_n 1, 1, [1], 0, []), (1, .iconst 0, 1, [], 0, []), (2, .iconst 2, 1, [], 2, []), (3, .invokestatic 76, 3, [108, 3, 3], 0, [855]), (6, .ifCond .eq 31, 3, [37], 0, []), (9, .iload_n 2, 1, [2], 0, []), (10, .iconst 1, 1, [], 1, []), (11, .bipush 9, 2, [], 9, []), (13, .invokestatic 76, 3, [108, 3, 3], 0, [855]), (16, .ifCond .eq 21, 3, [37], 0, []), (19, .iload_n 3, 1, [3], 0, []), (20, .iconst 1, 1, [], 1, []), (21, .bipush 9, 2, [], 9, []), (23, .invokestatic 76, 3, [108, 3, 3], 0, [855]), (26, .ifCond .eq 11, 3, [37], 0, []), (29, .iload 4, 2, [4], 0, []), (31, .invokestatic 152, 3, [114, 1, 3], 0, [925]), (34, .ifCond .ne 6, 3, [40], 0, []), (37, .bipush (-2), 2, [], -2, []), (39, .ireturn, 1, [], 0, []), (40, .aload_n 0, 1, [0], 0, []), (41, .getfield 83, 3, [10, 6, 0], 0, [742]), (44, .ifCond .ne 6, 3, [50], 0, []), (47, .bipush (-3), 2, [], -3, []), (49, .ireturn, 1, [], 0, []), (50, .aload_n 0, 1, [0], 0, []), (51, .getfield 83, 3, [10, 6, 0], 0, [742]), (54, .bipush 6, 2, [], 6, []), (56, .if_icmp .ne 6, 3, [62], 0, []), (59, .bipush (-4), 2, [], -4, []), (61, .ireturn, 1, [], 0, []), (62, .aload_n 0, 1, [0], 0, []), (63, .getfield 22, 3, [10, 11, 2], 0, [747]), (66, .aload_n 0, 1, [0], 0, []), (67, .getfield 83, 3, [10, 6, 0], 0, [742]), (70, .iload_n 1, 1, [1], 0, []), (71, .iastore, 1, [], 0, []), (72, .aload_n 0, 1, [0], 0, []), (73, .getfield 25, 3, [10, 12, 2], 0, [748]), (76, .aload_n 0, 1, [0], 0, []), (77, .getfield 83, 3, [10, 6, 0], 0, [742]), (80, .iload_n 2, 1, [2], 0, []), (81, .iastore, 1, [], 0, []), (82, .aload_n 0, 1, [0], 0, []), (83, .getfield 28, 3, [10, 13, 2], 0, [749]), (86, .aload_n 0, 1, [0], 0, []), (87, .getfield 83, 3, [10, 6, 0], 0, [742]), (90, .iload_n 3, 1, [3], 0, []), (91, .iastore, 1, [], 0, []), (92, .aload_n 0, 1, [0], 0, []), (93, .getfield 31, 3, [10, 14, 2], 0, [750]), (96, .aload_n 0, 1, [0], 0, []), (97, .getfield 83, 3, [10, 6, 0], 0, [742]), (100, .iload 4, 2, [4], 0, []), (102, .iastore, 1, [], 0, []), (103, .aload_n 0, 1, [0], 0, []), (104, .getfield 34, 3, [10, 15, 2], 0, [751]), (107, .aload_n 0, 1, [0], 0, []), (108, .getfield 83, 3, [10, 6, 0], 0, [742]), (111, .iconst 0, 1, [], 0, []), (112, .iastore, 1, [], 0, []), (113, .aload_n 0, 1, [0], 0, []), (114, .dup, 1, [], 0, []), (115, .getfield 83, 3, [10, 6, 0], 0, [742]), (118, .iconst 1, 1, [], 1, []), (119, .iadd, 1, [], 0, []), (120, .putfield 83, 3, [10, 6, 0], 0, [742]), (123, .aload_n 0, 1, [0], 0, []), (124, .getfield 83, 3, [10, 6, 0], 0, [742]), (127, .iconst 1, 1, [], 1, []), (128, .isub, 1, [], 0, []), (129, .ireturn, 1, [], 0, [])]
def hd_X10_arrive : List (Nat × List Bool) := []
def me_X10_arrive : z_Me := (⟨"StayingGuestsModel", "arrive", "(IIII)I"⟩, prog_12_method_33_code, 5, some .int, cd_X10_arrive, hd_X10_arrive)
def cd_X10_without : List z_En := [(0, .iconst 1, 1, [], 1, []), (1, .iload_n 1, 1, [1], 0, []), (2, .ishl, 1, [], 0, []), (3, .iconst 1, 1, [], 1, []), (4, .isub, 1, [], 0, []), (5, .istore_n 2, 1, [2], 0, []), (6, .iload_n 0, 1, [0], 0, []), (7, .iload_n 2, 1, [2], 0, []), (8, .iand, 1, [], 0, []), (9, .iload_n 0, 1, [0], 0, []), (10, .iconst 1, 1, [], 1, []), (11, .ishr, 1, [], 0, []), (12, .iload_n 2, 1, [2], 0, []), (13, .iconst (-1), 1, [], -1, []), (14, .ixor, 1, [], 0, []), (15, .iand, 1, [], 0, []), (16, .ior, 1, [], 0, []), (17, .ireturn, 1, [], 0, [])]
def hd_X10_without : List (Nat × List Bool) := []
def me_X10_without : z_Me := (⟨"StayingGuestsModel", "without", "(II)I"⟩, prog_12_method_34_code, 3, some .int, cd_X10_without, hd_X10_without)
def cd_X10_leave : List z_En := [(0, .aload_n 0, 1, [0], 0, []), (1, .iload_n 1, 1, [1], 0, []), (2, .invokevirtual 142, 3, [113, 2, 3, 10], 0, [897]), (5, .ifCond .ne 5, 3, [10], 0, []), (8, .iconst (-1), 1, [], -1, []), (9, .ireturn, 1, [], 0, []), (10, .aload_n 0, 1, [0], 0, []), (11, .getfield 83, 3, [10, 6, 0], 0, [742]), (14, .iconst 1, 1, [], 1, []), (15, .if_icmp .ne 6, 3, [21], 0, []), (18, .bipush (-3), 2, [], -3, []), (20, .ireturn, 1, [], 0, []), (21, .aload_n 0, 1, [0], 0, []), (22, .dup, 1, [], 0, []), (23, .getfield 83, 3, [10, 6, 0], 0, [742]), (26, .iconst 1, 1, [], 1, []), (27, .isub, 1, [], 0, []), (28, .putfield 83, 3, [10, 6, 0], 0, [742]), (31, .iload_n 1, 1, [1], 0, []), (32, .istore_n 2, 1, [2], 0, []), (33, .iload_n 2, 1, [2], 0, []), (34, .aload_n 0, 1, [0], 0, []), (35, .getfield 83, 3, [10, 6, 0], 0, [742]), (38, .if_icmp .ge 79, 3, [117], 0, []), (41, .aload_n 0, 1, [0], 0, []), (42, .getfield 22, 3, [10, 11, 2], 0, [747]), (45, .iload_n 2, 1, [2], 0, []), (46, .aload_n 0, 1, [0], 0, []), (47, .getfield 22, 3, [10, 11, 2], 0, [747]), (50, .iload_n 2, 1, [2], 0, []), (51, .iconst 1, 1, [], 1, []), (52, .iadd, 1, [], 0, []), (53, .iaload, 1, [], 0, []), (54, .iastore, 1, [], 0, []), (55, .aload_n 0, 1, [0], 0, []), (56, .getfield 25, 3, [10, 12, 2], 0, [748]), (59, .iload_n 2, 1, [2], 0, []), (60, .aload_n 0, 1, [0], 0, []), (61, .getfield 25, 3, [10, 12, 2], 0, [748]), (64, .iload_n 2, 1, [2], 0, []), (65, .iconst 1, 1, [], 1, []), (66, .iadd, 1, [], 0, []), (67, .iaload, 1, [], 0, []), (68, .iastore, 1, [], 0, []), (69, .aload_n 0, 1, [0], 0, []), (70, .getfield 28, 3, [10, 13, 2], 0, [749]), (73, .iload_n 2, 1, [2], 0, []), (74, .aload_n 0, 1, [0], 0, []), (75, .getfield 28, 3, [10, 13, 2], 0, [749]), (78, .iload_n 2, 1, [2], 0, []), (79, .iconst 1, 1, [], 1, []), (80, .iadd, 1, [], 0, []), (81, .iaload, 1, [], 0, []), (82, .iastore, 1, [], 0, []), (83, .aload_n 0, 1, [0], 0, []), (84, .getfield 31, 3, [10, 14, 2], 0, [750]), (87, .iload_n 2, 1, [2], 0, []), (88, .aload_n 0, 1, [0], 0, []), (89, .getfield 31, 3, [10, 14, 2], 0, [750]), (92, .iload_n 2, 1, [2], 0, []), (93, .iconst 1, 1, [], 1, []), (94, .iadd, 1, [], 0, []), (95, .iaload, 1, [], 0, []), (96, .iastore, 1, [], 0, []), (97, .aload_n 0, 1, [0], 0, []), (98, .getfield 34, 3, [10, 15, 2], 0, [751]), (101, .iload_n 2, 1, [2], 0, []), (102, .aload_n 0, 1, [0], 0, []), (103, .getfield 34, 3, [10, 15, 2], 0, [751]), (106, .iload_n 2, 1, [2], 0, []), (107, .iconst 1, 1, [], 1, []), (108, .iadd, 1, [], 0, []), (109, .iaload, 1, [], 0, []), (110, .iastore, 1, [], 0, []), (111, .iinc 2 1, 3, [2], 1, []), (114, .goto (-81), 3, [33], 0, []), (117, .aload_n 0, 1, [0], 0, []), (118, .aload_n 0, 1, [0], 0, []), (119, .getfield 119, 3, [10, 8, 0], 0, [744]), (122, .iload_n 1, 1, [1], 0, []), (123, .invokestatic 171, 3, [137, 2, 1], 0, [963]), (126, .putfield 119, 3, [10, 8, 0], 0, [744]), (129, .aload_n 0, 1, [0], 0, []), (130, .aload_n 0, 1, [0], 0, []), (131, .getfield 122, 3, [10, 9, 0], 0, [745]), (134, .iload_n 1, 1, [1], 0, []), (135, .invokestatic 171, 3, [137, 2, 1], 0, [963]), (138, .putfield 122, 3, [10, 9, 0], 0, [745]), (141, .aload_n 0, 1, [0], 0, []), (142, .iconst 0, 1, [], 0, []), (143, .putfield 125, 3, [10, 33, 0], 0, [769]), (146, .aload_n 0, 1, [0], 0, []), (147, .getfield 83, 3, [10, 6, 0], 0, [742]), (150, .ireturn, 1, [], 0, [])]
def hd_X10_leave : List (Nat × List Bool) := [(33, [true, true, true])]
def me_X10_leave : z_Me := (⟨"StayingGuestsModel", "leave", "(I)I"⟩, prog_12_method_35_code, 3, some .int, cd_X10_leave, hd_X10_leave)
def cd_X10_keep : List z_En := [(0, .aload_n 0, 1, [0], 0, []), (1, .aload_n 0, 1, [0], 0, []), (2, .getfield 119, 3, [10, 8, 0], 0, [744]), (5, .putfield 174, 3, [10, 23, 0], 0, [759]), (8, .aload_n 0, 1, [0], 0, []), (9, .aload_n 0, 1, [0], 0, []), (10, .getfield 122, 3, [10, 9, 0], 0, [745]), (13, .putfield 177, 3, [10, 24, 0], 0, [760]), (16, .iconst 0, 1, [], 0, []), (17, .istore_n 1, 1, [1], 0, []), (18, .iload_n 1, 1, [1], 0, []), (19, .aload_n 0, 1, [0], 0, []), (20, .getfield 83, 3, [10, 6, 0], 0, [742]), (23, .if_icmp .ge 33, 3, [56], 0, []), (26, .aload_n 0, 1, [0], 0, []), (27, .getfield 43, 3, [10, 21, 2], 0, [757]), (30, .iload_n 1, 1, [1], 0, []), (31, .aload_n 0, 1, [0], 0, []), (32, .getfield 31, 3, [10, 14, 2], 0, [750]), (35, .iload_n 1, 1, [1], 0, []), (36, .iaload, 1, [], 0, []), (37, .iastore, 1, [], 0, []), (38, .aload_n 0, 1, [0], 0, []), (39, .getfield 46, 3, [10, 22, 2], 0, [758]), (42, .iload_n 1, 1, [1], 0, []), (43, .aload_n 0, 1, [0], 0, []), (44, .getfield 34, 3, [10, 15, 2], 0, [751]), (47, .iload_n 1, 1, [1], 0, []), (48, .iaload, 1, [], 0, []), (49, .iastore, 1, [], 0, []), (50, .iinc 1 1, 3, [1], 1, []), (53, .goto (-35), 3, [18], 0, []), (56, .return_, 1, [], 0, [])]
def hd_X10_keep : List (Nat × List Bool) := [(18, [true, true])]
def me_X10_keep : z_Me := (⟨"StayingGuestsModel", "keep", "()V"⟩, prog_12_method_36_code, 2, none, cd_X10_keep, hd_X10_keep)
def cd_X10_putBack : List z_En := [(0, .aload_n 0, 1, [0], 0, []), (1, .aload_n 0, 1, [0], 0, []), (2, .getfield 174, 3, [10, 23, 0], 0, [759]), (5, .putfield 119, 3, [10, 8, 0], 0, [744]), (8, .aload_n 0, 1, [0], 0, []), (9, .aload_n 0, 1, [0], 0, []), (10, .getfield 177, 3, [10, 24, 0], 0, [760]), (13, .putfield 122, 3, [10, 9, 0], 0, [745]), (16, .iconst 0, 1, [], 0, []), (17, .istore_n 1, 1, [1], 0, []), (18, .iload_n 1, 1, [1], 0, []), (19, .aload_n 0, 1, [0], 0, []), (20, .getfield 83, 3, [10, 6, 0], 0, [742]), (23, .if_icmp .ge 33, 3, [56], 0, []), (26, .aload_n 0, 1, [0], 0, []), (27, .getfield 31, 3, [10, 14, 2], 0, [750]), (30, .iload_n 1, 1, [1], 0, []), (31, .aload_n 0, 1, [0], 0, []), (32, .getfield 43, 3, [10, 21, 2], 0, [757]), (35, .iload_n 1, 1, [1], 0, []), (36, .iaload, 1, [], 0, []), (37, .iastore, 1, [], 0, []), (38, .aload_n 0, 1, [0], 0, []), (39, .getfield 34, 3, [10, 15, 2], 0, [751]), (42, .iload_n 1, 1, [1], 0, []), (43, .aload_n 0, 1, [0], 0, []), (44, .getfield 46, 3, [10, 22, 2], 0, [758]), (47, .iload_n 1, 1, [1], 0, []), (48, .iaload, 1, [], 0, []), (49, .iastore, 1, [], 0, []), (50, .iinc 1 1, 3, [1], 1, []), (53, .goto (-35), 3, [18], 0, []), (56, .return_, 1, [], 0, [])]
def hd_X10_putBack : List (Nat × List Bool) := [(18, [true, true])]
def me_X10_putBack : z_Me := (⟨"StayingGuestsModel", "putBack", "()V"⟩, prog_12_method_37_code, 2, none, cd_X10_putBack, hd_X10_putBack)
def cd_X10_does : List z_En := [(0, .iload_n 2, 1, [2], 0, []), (1, .bipush 10, 2, [], 10, []), (3, .if_icmp .ne 22, 3, [25], 0, []), (6, .iconst 0, 1, [], 0, []), (7, .istore_n 3, 1, [3], 0, []), (8, .iload_n 3, 1, [3], 0, []), (9, .iload_n 1, 1, [1], 0, []), (10, .if_icmp .ge 13, 3, [23], 0, []), (13, .aload_n 0, 1, [0], 0, []), (14, .invokevirtual 168, 3, [134, 1, 0, 10], 0, [951]), (17, .iinc 3 1, 3, [3], 1, []), (20, .goto (-12), 3, [8], 0, []), (23, .iconst 1, 1, [], 1, []), (24, .ireturn, 1, [], 0, []), (25, .iload_n 2, 1, [2], 0, []), (26, .bipush 20, 2, [], 20, []), (28, .if_icmp .lt 15, 3, [43], 0, []), (31, .aload_n 0, 1, [0], 0, []), (32, .getfield 31, 3, [10, 14, 2], 0, [750]), (35, .iload_n 1, 1, [1], 0, []), (36, .iload_n 2, 1, [2], 0, []), (37, .bipush 20, 2, [], 20, []), (39, .isub, 1, [], 0, []), (40, .iastore, 1, [], 0, []), (41, .iconst 1, 1, [], 1, []), (42, .ireturn, 1, [], 0, []), (43, .aload_n 0, 1, [0], 0, []), (44, .getfield 119, 3, [10, 8, 0], 0, [744]), (47, .iload_n 1, 1, [1], 0, []), (48, .invokestatic 155, 3, [115, 2, 3], 0, [932]), (51, .ifCond .ne 11, 3, [62], 0, []), (54, .aload_n 0, 1, [0], 0, []), (55, .iload_n 2, 1, [2], 0, []), (56, .invokevirtual 145, 3, [112, 2, 3, 10], 0, [905]), (59, .ifCond .ne 5, 3, [64], 0, []), (62, .iconst 0, 1, [], 0, []), (63, .ireturn, 1, [], 0, []), (64, .aload_n 0, 1, [0], 0, []), (65, .iload_n 2, 1, [2], 0, []), (66, .iload_n 1, 1, [1], 0, []), (67, .invokevirtual 165, 3, [132, 3, 1, 10], 0, [935]), (70, .istore_n 3, 1, [3], 0, []), (71, .aload_n 0, 1, [0], 0, []), (72, .dup, 1, [], 0, []), (73, .getfield 180, 3, [10, 25, 0], 0, [761]), (76, .iload_n 3, 1, [3], 0, []), (77, .ifCond .le 7, 3, [84], 0, []), (80, .iload_n 3, 1, [3], 0, []), (81, .goto 4, 3, [85], 0, []), (84, .iconst 0, 1, [], 0, []), (85, .iadd, 1, [], 0, []), (86, .putfield 180, 3, [10, 25, 0], 0, [761]), (89, .aload_n 0, 1, [0], 0, []), (90, .dup, 1, [], 0, []), (91, .getfield 183, 3, [10, 26, 0], 0, [762]), (94, .iload_n 3, 1, [3], 0, []), (95, .iconst 1, 1, [], 1, []), (96, .if_icmp .le 9, 3, [105], 0, []), (99, .iload_n 3, 1, [3], 0, []), (100, .iconst 1, 1, [], 1, []), (101, .isub, 1, [], 0, []), (102, .goto 4, 3, [106], 0, []), (105, .iconst 0, 1, [], 0, []), (106, .iadd, 1, [], 0, []), (107, .putfield 183, 3, [10, 26, 0], 0, [762]), (110, .iconst 1, 1, [], 1, []), (111, .ireturn, 1, [], 0, [])]
def hd_X10_does : List (Nat × List Bool) := [(8, [true, true, false, true])]
def me_X10_does : z_Me := (⟨"StayingGuestsModel", "does", "(II)Z"⟩, prog_12_method_38_code, 4, some .boolean, cd_X10_does, hd_X10_does)
def cd_X10_goDinner : List z_En := [(0, .aload_n 0, 1, [0], 0, []), (1, .iconst 0, 1, [], 0, []), (2, .putfield 180, 3, [10, 25, 0], 0, [761]), (5, .aload_n 0, 1, [0], 0, []), (6, .iconst 0, 1, [], 0, []), (7, .putfield 183, 3, [10, 26, 0], 0, [762]), (10, .iconst 0, 1, [], 0, []), (11, .istore_n 3, 1, [3], 0, []), (12, .iload_n 3, 1, [3], 0, []), (13, .iload_n 2, 1, [2], 0, []), (14, .if_icmp .ge 40, 3, [54], 0, []), (17, .aload_n 0, 1, [0], 0, []), (18, .aload_n 0, 1, [0], 0, []), (19, .getfield 16, 3, [10, 4, 2], 0, [740]), (22, .iload_n 1, 1, [1], 0, []), (23, .iconst 2, 1, [], 2, []), (24, .iload_n 3, 1, [3], 0, []), (25, .imul, 1, [], 0, []), (26, .iadd, 1, [], 0, []), (27, .iaload, 1, [], 0, []), (28, .aload_n 0, 1, [0], 0, []), (29, .getfield 16, 3, [10, 4, 2], 0, [740]), (32, .iload_n 1, 1, [1], 0, []), (33, .iconst 2, 1, [], 2, []), (34, .iload_n 3, 1, [3], 0, []), (35, .imul, 1, [], 0, []), (36, .iadd, 1, [], 0, []), (37, .iconst 1, 1, [], 1, []), (38, .iadd, 1, [], 0, []), (39, .iaload, 1, [], 0, []), (40, .invokevirtual 186, 3, [141, 3, 3, 10], 0, [982]), (43, .ifCond .ne 5, 3, [48], 0, []), (46, .iload_n 3, 1, [3], 0, []), (47, .ireturn, 1, [], 0, []), (48, .iinc 3 1, 3, [3], 1, []), (51, .goto (-39), 3, [12], 0, []), (54, .bipush (-9), 2, [], -9, []), (56, .ireturn, 1, [], 0, [])]
def hd_X10_goDinner : List (Nat × List Bool) := [(12, [true, true, true, true])]
def me_X10_goDinner : z_Me := (⟨"StayingGuestsModel", "goDinner", "(II)I"⟩, prog_12_method_39_code, 4, some .int, cd_X10_goDinner, hd_X10_goDinner)
def cd_X10_refusesPair : List z_En := [(0, .iload_n 2, 1, [2], 0, []), (1, .iconst 0, 1, [], 0, []), (2, .iconst 4, 1, [], 4, []), (3, .invokestatic 76, 3, [108, 3, 3], 0, [855]), (6, .ifCond .ne 20, 3, [26], 0, []), (9, .iload_n 2, 1, [2], 0, []), (10, .bipush 10, 2, [], 10, []), (12, .if_icmp .eq 14, 3, [26], 0, []), (15, .iload_n 2, 1, [2], 0, []), (16, .bipush 20, 2, [], 20, []), (18, .bipush 25, 2, [], 25, []), (20, .invokestatic 76, 3, [108, 3, 3], 0, [855]), (23, .ifCond .eq 7, 3, [30], 0, []), (26, .iconst 1, 1, [], 1, []), (27, .goto 4, 3, [31], 0, []), (30, .iconst 0, 1, [], 0, []), (31, .istore_n 3, 1, [3], 0, []), (32, .iload_n 3, 1, [3], 0, []), (33, .ifCond .eq 19, 3, [52], 0, []), (36, .iload_n 2, 1, [2], 0, []), (37, .bipush 10, 2, [], 10, []), (39, .if_icmp .ne 16, 3, [55], 0, []), (42, .iload_n 1, 1, [1], 0, []), (43, .iconst 0, 1, [], 0, []), (44, .bipush 9, 2, [], 9, []), (46, .invokestatic 76, 3, [108, 3, 3], 0, [855]), (49, .ifCond .ne 6, 3, [55], 0, []), (52, .bipush (-2), 2, [], -2, []), (54, .ireturn, 1, [], 0, []), (55, .iload_n 2, 1, [2], 0, []), (56, .bipush 10, 2, [], 10, []), (58, .if_icmp .eq 15, 3, [73], 0, []), (61, .aload_n 0, 1, [0], 0, []), (62, .iload_n 1, 1, [1], 0, []), (63, .invokevirtual 142, 3, [113, 2, 3, 10], 0, [897]), (66, .ifCond .ne 7, 3, [73], 0, []), (69, .iconst (-1), 1, [], -1, []), (70, .goto 4, 3, [74], 0, []), (73, .iconst 0, 1, [], 0, []), (74, .ireturn, 1, [], 0, [])]
def hd_X10_refusesPair : List (Nat × List Bool) := [(31, [true, true, true, false])]
def me_X10_refusesPair : z_Me := (⟨"StayingGuestsModel", "refusesPair", "(II)I"⟩, prog_12_method_40_code, 4, some .int, cd_X10_refusesPair, hd_X10_refusesPair)
def cd_X10_dinner : List z_En := [(0, .aload_n 0, 1, [0], 0, []), (1, .iconst 0, 1, [], 0, []), (2, .putfield 70, 3, [10, 0, 0], 0, [736]), (5, .iload_n 1, 1, [1], 0, []), (6, .invokestatic 89, 3, [109, 1, 3], 0, [852]), (9, .ifCond .ne 5, 3, [14], 0, []), (12, .iconst (-1), 1, [], -1, []), (13, .ireturn, 1, [], 0, []), (14, .iload_n 2, 1, [2], 0, []), (15, .invokestatic 93, 3, [110, 1, 3], 0, [858]), (18, .ifCond .eq 36, 3, [54], 0, []), (21, .iload 4, 2, [4], 0, []), (23, .iconst 0, 1, [], 0, []), (24, .bipush 20, 2, [], 20, []), (26, .invokestatic 76, 3, [108, 3, 3], 0, [855]), (29, .ifCond .eq 25, 3, [54], 0, []), (32, .iload 5, 2, [5], 0, []), (34, .iconst 0, 1, [], 0, []), (35, .iconst 4, 1, [], 4, []), (36, .invokestatic 76, 3, [108, 3, 3], 0, [855]), (39, .ifCond .ne 18, 3, [57], 0, []), (42, .iload 5, 2, [5], 0, []), (44, .bipush 10, 2, [], 10, []), (46, .bipush 15, 2, [], 15, []), (48, .invokestatic 76, 3, [108, 3, 3], 0, [855]), (51, .ifCond .ne 6, 3, [57], 0, []), (54, .bipush (-2), 2, [], -2, []), (56, .ireturn, 1, [], 0, []), (57, .aload_n 0, 1, [0], 0, []), (58, .iload_n 1, 1, [1], 0, []), (59, .iload_n 2, 1, [2], 0, []), (60, .iload_n 3, 1, [3], 0, []), (61, .iconst 2, 1, [], 2, []), (62, .iload 4, 2, [4], 0, []), (64, .imul, 1, [], 0, []), (65, .invokevirtual 96, 3, [111, 5, 1, 10], 0, [861]), (68, .istore 6, 2, [6], 0, []), (70, .iload 6, 2, [6], 0, []), (72, .ifCond .eq 10, 3, [82], 0, []), (75, .aload_n 0, 1, [0], 0, []), (76, .iload 6, 2, [6], 0, []), (78, .invokevirtual 100, 3, [106, 2, 1, 10], 0, [865]), (81, .ireturn, 1, [], 0, []), (82, .aload_n 0, 1, [0], 0, []), (83, .getfield 83, 3, [10, 6, 0], 0, [742]), (86, .ifCond .ne 6, 3, [92], 0, []), (89, .bipush (-3), 2, [], -3, []), (91, .ireturn, 1, [], 0, []), (92, .bipush 60, 2, [], 60, []), (94, .iload_n 1, 1, [1], 0, []), (95, .imul, 1, [], 0, []), (96, .iload_n 3, 1, [3], 0, []), (97, .iadd, 1, [], 0, []), (98, .istore 7, 2, [7], 0, []), (100, .iconst 0, 1, [], 0, []), (101, .istore 8, 2, [8], 0, []), (103, .iload 8, 2, [8], 0, []), (105, .iload 4, 2, [4], 0, []), (107, .if_icmp .ge 49, 3, [156], 0, []), (110, .aload_n 0, 1, [0], 0, []), (111, .aload_n 0, 1, [0], 0, []), (112, .getfield 16, 3, [10, 4, 2], 0, [740]), (115, .iload 7, 2, [7], 0, []), (117, .iconst 2, 1, [], 2, []), (118, .iload 8, 2, [8], 0, []), (120, .imul, 1, [], 0, []), (121, .iadd, 1, [], 0, []), (122, .iaload, 1, [], 0, []), (123, .aload_n 0, 1, [0], 0, []), (124, .getfield 16, 3, [10, 4, 2], 0, [740]), (127, .iload 7, 2, [7], 0, []), (129, .iconst 2, 1, [], 2, []), (130, .iload 8, 2, [8], 0, []), (132, .imul, 1, [], 0, []), (133, .iadd, 1, [], 0, []), (134, .iconst 1, 1, [], 1, []), (135, .iadd, 1, [], 0, []), (136, .iaload, 1, [], 0, []), (137, .invokevirtual 189, 3, [143, 3, 1, 10], 0, [970]), (140, .istore 9, 2, [9], 0, []), (142, .iload 9, 2, [9], 0, []), (144, .ifCond .eq 6, 3, [150], 0, []), (147, .iload 9, 2, [9], 0, []), (149, .ireturn, 1, [], 0, []), (150, .iinc 8 1, 3, [8], 1, []), (153, .goto (-50), 3, [103], 0, []), (156, .aload_n 0, 1, [0], 0, []), (157, .invokevirtual 192, 3, [139, 1, 0, 10], 0, [974]), (160, .aload_n 0, 1, [0], 0, []), (161, .iload 7, 2, [7], 0, []), (163, .iload 4, 2, [4], 0, []), (165, .invokevirtual 195, 3, [142, 3, 1, 10], 0, [978]), (168, .istore 8, 2, [8], 0, []), (170, .aload_n 0, 1, [0], 0, []), (171, .iload 5, 2, [5], 0, []), (173, .invokevirtual 198, 3, [145, 2, 1, 10], 0, [986]), (176, .istore 9, 2, [9], 0, []), (178, .aload_n 0, 1, [0], 0, []), (179, .invokevirtual 201, 3, [140, 1, 0, 10], 0, [990]), (182, .iload 5, 2, [5], 0, []), (184, .iconst 1, 1, [], 1, []), (185, .if_icmp .ne 8, 3, [193], 0, []), (188, .iload 8, 2, [8], 0, []), (190, .goto 20, 3, [210], 0, []), (193, .iload 8, 2, [8], 0, []), (195, .bipush (-9), 2, [], -9, []), (197, .if_icmp .ne 8, 3, [205], 0, []), (200, .iload 9, 2, [9], 0, []), (202, .goto 8, 3, [210], 0, []), (205, .bipush (-100), 2, [], -100, []), (207, .iload 8, 2, [8], 0, []), (209, .isub, 1, [], 0, []), (210, .ireturn, 1, [], 0, [])]
def hd_X10_dinner : List (Nat × List Bool) := [(103, [true, false, false, false, true, true, false, true, true, false])]
def me_X10_dinner : z_Me := (⟨"StayingGuestsModel", "dinner", "(IIIII)I"⟩, prog_12_method_41_code, 10, some .int, cd_X10_dinner, hd_X10_dinner)
def cd_X10_tellDinner : List z_En := [(0, .iload_n 1, 1, [1], 0, []), (1, .bipush 10, 2, [], 10, []), (3, .if_icmp .lt 29, 3, [32], 0, []), (6, .aload_n 0, 1, [0], 0, []), (7, .iload_n 1, 1, [1], 0, []), (8, .bipush 10, 2, [], 10, []), (10, .isub, 1, [], 0, []), (11, .invokevirtual 142, 3, [113, 2, 3, 10], 0, [897]), (14, .ifCond .eq 15, 3, [29], 0, []), (17, .aload_n 0, 1, [0], 0, []), (18, .getfield 34, 3, [10, 15, 2], 0, [751]), (21, .iload_n 1, 1, [1], 0, []), (22, .bipush 10, 2, [], 10, []), (24, .isub, 1, [], 0, []), (25, .iaload, 1, [], 0, []), (26, .goto 5, 3, [31], 0, []), (29, .bipush (-9), 2, [], -9, []), (31, .ireturn, 1, [], 0, []), (32, .iload_n 1, 1, [1], 0, []), (33, .tableswitch 46 0 3 #[31, 46, 36, 41], 31, [79, 0, 64, 1, 79, 2, 69, 3, 74], 0, []), (64, .aload_n 0, 1, [0], 0, []), (65, .getfield 119, 3, [10, 8, 0], 0, [744]), (68, .ireturn, 1, [], 0, []), (69, .aload_n 0, 1, [0], 0, []), (70, .getfield 122, 3, [10, 9, 0], 0, [745]), (73, .ireturn, 1, [], 0, []), (74, .aload_n 0, 1, [0], 0, []), (75, .getfield 180, 3, [10, 25, 0], 0, [761]), (78, .ireturn, 1, [], 0, []), (79, .aload_n 0, 1, [0], 0, []), (80, .getfield 183, 3, [10, 26, 0], 0, [762]), (83, .ireturn, 1, [], 0, [])]
def hd_X10_tellDinner : List (Nat × List Bool) := []
def me_X10_tellDinner : z_Me := (⟨"StayingGuestsModel", "tellDinner", "(I)I"⟩, prog_12_method_42_code, 2, some .int, cd_X10_tellDinner, hd_X10_tellDinner)
def cd_X10_isSoft : List z_En := [(0, .aload_n 0, 1, [0], 0, []), (1, .iload_n 1, 1, [1], 0, []), (2, .iload_n 2, 1, [2], 0, []), (3, .invokevirtual 148, 3, [124, 3, 1, 10], 0, [917]), (6, .ifCond .le 22, 3, [28], 0, []), (9, .aload_n 0, 1, [0], 0, []), (10, .iload_n 1, 1, [1], 0, []), (11, .iload_n 2, 1, [2], 0, []), (12, .invokevirtual 148, 3, [124, 3, 1, 10], 0, [917]), (15, .aload_n 0, 1, [0], 0, []), (16, .getfield 25, 3, [10, 12, 2], 0, [748]), (19, .iload_n 2, 1, [2], 0, []), (20, .iaload, 1, [], 0, []), (21, .if_icmp .gt 7, 3, [28], 0, []), (24, .iconst 1, 1, [], 1, []), (25, .goto 4, 3, [29], 0, []), (28, .iconst 0, 1, [], 0, []), (29, .ireturn, 1, [], 0, [])]
def hd_X10_isSoft : List (Nat × List Bool) := []
def me_X10_isSoft : z_Me := (⟨"StayingGuestsModel", "isSoft", "(II)Z"⟩, prog_12_method_43_code, 3, some .boolean, cd_X10_isSoft, hd_X10_isSoft)
def cd_X10_heaviest : List z_En := [(0, .iconst 0, 1, [], 0, []), (1, .istore_n 2, 1, [2], 0, []), (2, .iconst 0, 1, [], 0, []), (3, .istore_n 3, 1, [3], 0, []), (4, .iload_n 3, 1, [3], 0, []), (5, .aload_n 0, 1, [0], 0, []), (6, .getfield 80, 3, [10, 5, 0], 0, [741]), (9, .if_icmp .ge 39, 3, [48], 0, []), (12, .aload_n 0, 1, [0], 0, []), (13, .iload_n 3, 1, [3], 0, []), (14, .iload_n 1, 1, [1], 0, []), (15, .invokevirtual 204, 3, [146, 3, 3, 10], 0, [1002]), (18, .ifCond .eq 22, 3, [40], 0, []), (21, .aload_n 0, 1, [0], 0, []), (22, .iload_n 3, 1, [3], 0, []), (23, .iload_n 1, 1, [1], 0, []), (24, .invokevirtual 148, 3, [124, 3, 1, 10], 0, [917]), (27, .iload_n 2, 1, [2], 0, []), (28, .if_icmp .le 12, 3, [40], 0, []), (31, .aload_n 0, 1, [0], 0, []), (32, .iload_n 3, 1, [3], 0, []), (33, .iload_n 1, 1, [1], 0, []), (34, .invokevirtual 148, 3, [124, 3, 1, 10], 0, [917]), (37, .goto 4, 3, [41], 0, []), (40, .iload_n 2, 1, [2], 0, []), (41, .istore_n 2, 1, [2], 0, []), (42, .iinc 3 1, 3, [3], 1, []), (45, .goto (-41), 3, [4], 0, []), (48, .iload_n 2, 1, [2], 0, []), (49, .ireturn, 1, [], 0, [])]
def hd_X10_heaviest : List (Nat × List Bool) := [(4, [true, true, true, true])]
def me_X10_heaviest : z_Me := (⟨"StayingGuestsModel", "heaviest", "(I)I"⟩, prog_12_method_44_code, 4, some .int, cd_X10_heaviest, hd_X10_heaviest)
def cd_X10_softly : List z_En := [(0, .aload_n 0, 1, [0], 0, []), (1, .iload_n 1, 1, [1], 0, []), (2, .invokevirtual 142, 3, [113, 2, 3, 10], 0, [897]), (5, .ifCond .ne 5, 3, [10], 0, []), (8, .iconst (-1), 1, [], -1, []), (9, .ireturn, 1, [], 0, []), (10, .iload_n 2, 1, [2], 0, []), (11, .iconst (-1), 1, [], -1, []), (12, .bipush 8, 2, [], 8, []), (14, .invokestatic 76, 3, [108, 3, 3], 0, [855]), (17, .ifCond .ne 6, 3, [23], 0, []), (20, .bipush (-2), 2, [], -2, []), (22, .ireturn, 1, [], 0, []), (23, .aload_n 0, 1, [0], 0, []), (24, .getfield 119, 3, [10, 8, 0], 0, [744]), (27, .iload_n 1, 1, [1], 0, []), (28, .invokestatic 155, 3, [115, 2, 3], 0, [932]), (31, .ifCond .eq 6, 3, [37], 0, []), (34, .bipush (-3), 2, [], -3, []), (36, .ireturn, 1, [], 0, []), (37, .aload_n 0, 1, [0], 0, []), (38, .getfield 28, 3, [10, 13, 2], 0, [749]), (41, .iload_n 1, 1, [1], 0, []), (42, .iaload, 1, [], 0, []), (43, .aload_n 0, 1, [0], 0, []), (44, .getfield 34, 3, [10, 15, 2], 0, [751]), (47, .iload_n 1, 1, [1], 0, []), (48, .iaload, 1, [], 0, []), (49, .isub, 1, [], 0, []), (50, .istore_n 3, 1, [3], 0, []), (51, .aload_n 0, 1, [0], 0, []), (52, .iload_n 1, 1, [1], 0, []), (53, .invokevirtual 207, 3, [147, 2, 1, 10], 0, [998]), (56, .istore 4, 2, [4], 0, []), (58, .iload 4, 2, [4], 0, []), (60, .ifCond .ne 6, 3, [66], 0, []), (63, .bipush (-9), 2, [], -9, []), (65, .ireturn, 1, [], 0, []), (66, .iload_n 3, 1, [3], 0, []), (67, .iload 4, 2, [4], 0, []), (69, .iadd, 1, [], 0, []), (70, .iconst 1, 1, [], 1, []), (71, .isub, 1, [], 0, []), (72, .iload 4, 2, [4], 0, []), (74, .idiv, 1, [], 0, []), (75, .istore 5, 2, [5], 0, []), (77, .iload_n 2, 1, [2], 0, []), (78, .iconst (-1), 1, [], -1, []), (79, .if_icmp .eq 9, 3, [88], 0, []), (82, .iload_n 2, 1, [2], 0, []), (83, .iload 5, 2, [5], 0, []), (85, .if_icmp .lt 16, 3, [101], 0, []), (88, .iload_n 2, 1, [2], 0, []), (89, .iconst (-1), 1, [], -1, []), (90, .if_icmp .ne 8, 3, [98], 0, []), (93, .iload 5, 2, [5], 0, []), (95, .goto 5, 3, [100], 0, []), (98, .bipush (-9), 2, [], -9, []), (100, .ireturn, 1, [], 0, []), (101, .iconst 0, 1, [], 0, []), (102, .istore 6, 2, [6], 0, []), (104, .iconst 0, 1, [], 0, []), (105, .istore 7, 2, [7], 0, []), (107, .iload 7, 2, [7], 0, []), (109, .iload_n 2, 1, [2], 0, []), (110, .if_icmp .gt 60, 3, [170], 0, []), (113, .iconst 0, 1, [], 0, []), (114, .istore 6, 2, [6], 0, []), (116, .aload_n 0, 1, [0], 0, []), (117, .iload 6, 2, [6], 0, []), (119, .iload_n 1, 1, [1], 0, []), (120, .invokevirtual 204, 3, [146, 3, 3, 10], 0, [1002]), (123, .ifCond .eq 25, 3, [148], 0, []), (126, .aload_n 0, 1, [0], 0, []), (127, .iload 6, 2, [6], 0, []), (129, .iload_n 1, 1, [1], 0, []), (130, .invokevirtual 148, 3, [124, 3, 1, 10], 0, [917]), (133, .iload 5, 2, [5], 0, []), (135, .iconst 1, 1, [], 1, []), (136, .isub, 1, [], 0, []), (137, .iload 7, 2, [7], 0, []), (139, .isub, 1, [], 0, []), (140, .iload 4, 2, [4], 0, []), (142, .imul, 1, [], 0, []), (143, .iadd, 1, [], 0, []), (144, .iload_n 3, 1, [3], 0, []), (145, .if_icmp .ge 9, 3, [154], 0, []), (148, .iinc 6 1, 3, [6], 1, []), (151, .goto (-35), 3, [116], 0, []), (154, .iload_n 3, 1, [3], 0, []), (155, .aload_n 0, 1, [0], 0, []), (156, .iload 6, 2, [6], 0, []), (158, .iload_n 1, 1, [1], 0, []), (159, .invokevirtual 148, 3, [124, 3, 1, 10], 0, [917]), (162, .isub, 1, [], 0, []), (163, .istore_n 3, 1, [3], 0, []), (164, .iinc 7 1, 3, [7], 1, []), (167, .goto (-60), 3, [107], 0, []), (170, .iload 6, 2, [6], 0, []), (172, .ireturn, 1, [], 0, [])]
def hd_X10_softly : List (Nat × List Bool) := [(107, [true, true, true, true, true, true, true, true]), (116, [true, true, true, true, true, true, true, true])]
def me_X10_softly : z_Me := (⟨"StayingGuestsModel", "softly", "(II)I"⟩, prog_12_method_45_code, 8, some .int, cd_X10_softly, hd_X10_softly)
def cd_X10_just : List z_En := [(0, .aload_n 0, 1, [0], 0, []), (1, .iload_n 1, 1, [1], 0, []), (2, .invokevirtual 142, 3, [113, 2, 3, 10], 0, [897]), (5, .ifCond .ne 5, 3, [10], 0, []), (8, .iconst (-1), 1, [], -1, []), (9, .ireturn, 1, [], 0, []), (10, .iload_n 2, 1, [2], 0, []), (11, .iconst 0, 1, [], 0, []), (12, .bipush 6, 2, [], 6, []), (14, .invokestatic 76, 3, [108, 3, 3], 0, [855]), (17, .ifCond .eq 13, 3, [30], 0, []), (20, .iload_n 3, 1, [3], 0, []), (21, .iconst 0, 1, [], 0, []), (22, .bipush 54, 2, [], 54, []), (24, .invokestatic 76, 3, [108, 3, 3], 0, [855]), (27, .ifCond .ne 6, 3, [33], 0, []), (30, .bipush (-2), 2, [], -2, []), (32, .ireturn, 1, [], 0, []), (33, .iconst 0, 1, [], 0, []), (34, .istore 4, 2, [4], 0, []), (36, .iload 4, 2, [4], 0, []), (38, .bipush 54, 2, [], 54, []), (40, .if_icmp .gt 26, 3, [66], 0, []), (43, .aload_n 0, 1, [0], 0, []), (44, .getfield 49, 3, [10, 27, 2], 0, [763]), (47, .iload 4, 2, [4], 0, []), (49, .iload 4, 2, [4], 0, []), (51, .ifCond .ne 7, 3, [58], 0, []), (54, .iconst 1, 1, [], 1, []), (55, .goto 4, 3, [59], 0, []), (58, .iconst 0, 1, [], 0, []), (59, .iastore, 1, [], 0, []), (60, .iinc 4 1, 3, [4], 1, []), (63, .goto (-27), 3, [36], 0, []), (66, .iconst 0, 1, [], 0, []), (67, .istore 4, 2, [4], 0, []), (69, .iload 4, 2, [4], 0, []), (71, .iload_n 2, 1, [2], 0, []), (72, .if_icmp .ge 100, 3, [172], 0, []), (75, .bipush 54, 2, [], 54, []), (77, .istore 5, 2, [5], 0, []), (79, .iload 5, 2, [5], 0, []), (81, .ifCond .lt 85, 3, [166], 0, []), (84, .iconst 0, 1, [], 0, []), (85, .istore 6, 2, [6], 0, []), (87, .iconst 0, 1, [], 0, []), (88, .istore 7, 2, [7], 0, []), (90, .iload 7, 2, [7], 0, []), (92, .aload_n 0, 1, [0], 0, []), (93, .getfield 80, 3, [10, 5, 0], 0, [741]), (96, .if_icmp .ge 55, 3, [151], 0, []), (99, .iload 6, 2, [6], 0, []), (101, .aload_n 0, 1, [0], 0, []), (102, .iload 7, 2, [7], 0, []), (104, .iload_n 1, 1, [1], 0, []), (105, .invokevirtual 204, 3, [146, 3, 3, 10], 0, [1002]), (108, .ifCond .eq 33, 3, [141], 0, []), (111, .aload_n 0, 1, [0], 0, []), (112, .iload 7, 2, [7], 0, []), (114, .iload_n 1, 1, [1], 0, []), (115, .invokevirtual 148, 3, [124, 3, 1, 10], 0, [917]), (118, .iload 5, 2, [5], 0, []), (120, .if_icmp .gt 21, 3, [141], 0, []), (123, .aload_n 0, 1, [0], 0, []), (124, .getfield 49, 3, [10, 27, 2], 0, [763]), (127, .iload 5, 2, [5], 0, []), (129, .aload_n 0, 1, [0], 0, []), (130, .iload 7, 2, [7], 0, []), (132, .iload_n 1, 1, [1], 0, []), (133, .invokevirtual 148, 3, [124, 3, 1, 10], 0, [917]), (136, .isub, 1, [], 0, []), (137, .iaload, 1, [], 0, []), (138, .goto 4, 3, [142], 0, []), (141, .iconst 0, 1, [], 0, []), (142, .iadd, 1, [], 0, []), (143, .istore 6, 2, [6], 0, []), (145, .iinc 7 1, 3, [7], 1, []), (148, .goto (-58), 3, [90], 0, []), (151, .aload_n 0, 1, [0], 0, []), (152, .getfield 49, 3, [10, 27, 2], 0, [763]), (155, .iload 5, 2, [5], 0, []), (157, .iload 6, 2, [6], 0, []), (159, .iastore, 1, [], 0, []), (160, .iinc 5 (-1), 3, [5], -1, []), (163, .goto (-84), 3, [79], 0, []), (166, .iinc 4 1, 3, [4], 1, []), (169, .goto (-100), 3, [69], 0, []), (172, .aload_n 0, 1, [0], 0, []), (173, .getfield 49, 3, [10, 27, 2], 0, [763]), (176, .iload_n 3, 1, [3], 0, []), (177, .iaload, 1, [], 0, []), (178, .ireturn, 1, [], 0, [])]
def hd_X10_just : List (Nat × List Bool) := [(36, [true, true, true, true, true, false, false, false]), (69, [true, true, true, true, true, false, false, false]), (79, [true, true, true, true, true, true, false, false]), (90, [true, true, true, true, true, true, true, true])]
def me_X10_just : z_Me := (⟨"StayingGuestsModel", "just", "(III)I"⟩, prog_12_method_46_code, 8, some .int, cd_X10_just, hd_X10_just)
def cd_X10_canSit : List z_En := [(0, .iload_n 1, 1, [1], 0, []), (1, .istore_n 3, 1, [3], 0, []), (2, .aload_n 0, 1, [0], 0, []), (3, .getfield 83, 3, [10, 6, 0], 0, [742]), (6, .iconst 1, 1, [], 1, []), (7, .isub, 1, [], 0, []), (8, .istore 4, 2, [4], 0, []), (10, .iload 4, 2, [4], 0, []), (12, .ifCond .lt 44, 3, [56], 0, []), (15, .aload_n 0, 1, [0], 0, []), (16, .getfield 52, 3, [10, 28, 2], 0, [764]), (19, .iload 4, 2, [4], 0, []), (21, .bipush (-9), 2, [], -9, []), (23, .iastore, 1, [], 0, []), (24, .aload_n 0, 1, [0], 0, []), (25, .getfield 119, 3, [10, 8, 0], 0, [744]), (28, .iload 4, 2, [4], 0, []), (30, .invokestatic 155, 3, [115, 2, 3], 0, [932]), (33, .ifCond .ne 17, 3, [50], 0, []), (36, .aload_n 0, 1, [0], 0, []), (37, .getfield 52, 3, [10, 28, 2], 0, [764]), (40, .iload 4, 2, [4], 0, []), (42, .iload_n 3, 1, [3], 0, []), (43, .iload_n 2, 1, [2], 0, []), (44, .irem, 1, [], 0, []), (45, .iastore, 1, [], 0, []), (46, .iload_n 3, 1, [3], 0, []), (47, .iload_n 2, 1, [2], 0, []), (48, .idiv, 1, [], 0, []), (49, .istore_n 3, 1, [3], 0, []), (50, .iinc 4 (-1), 3, [4], -1, []), (53, .goto (-43), 3, [10], 0, []), (56, .iconst 0, 1, [], 0, []), (57, .istore 4, 2, [4], 0, []), (59, .iconst 0, 1, [], 0, []), (60, .istore 5, 2, [5], 0, []), (62, .iload 5, 2, [5], 0, []), (64, .aload_n 0, 1, [0], 0, []), (65, .getfield 83, 3, [10, 6, 0], 0, [742]), (68, .if_icmp .ge 139, 3, [207], 0, []), (71, .iload 4, 2, [4], 0, []), (73, .aload_n 0, 1, [0], 0, []), (74, .getfield 52, 3, [10, 28, 2], 0, [764]), (77, .iload 5, 2, [5], 0, []), (79, .iaload, 1, [], 0, []), (80, .bipush (-9), 2, [], -9, []), (82, .if_icmp .ne 7, 3, [89], 0, []), (85, .iconst 0, 1, [], 0, []), (86, .goto 12, 3, [98], 0, []), (89, .iconst 1, 1, [], 1, []), (90, .aload_n 0, 1, [0], 0, []), (91, .getfield 52, 3, [10, 28, 2], 0, [764]), (94, .iload 5, 2, [5], 0, []), (96, .iaload, 1, [], 0, []), (97, .ishl, 1, [], 0, []), (98, .ior, 1, [], 0, []), (99, .istore 4, 2, [4], 0, []), (101, .iconst 0, 1, [], 0, []), (102, .istore 6, 2, [6], 0, []), (104, .iload 6, 2, [6], 0, []), (106, .iload 5, 2, [5], 0, []), (108, .if_icmp .ge 93, 3, [201], 0, []), (111, .aload_n 0, 1, [0], 0, []), (112, .getfield 22, 3, [10, 11, 2], 0, [747]), (115, .iload 5, 2, [5], 0, []), (117, .iaload, 1, [], 0, []), (118, .aload_n 0, 1, [0], 0, []), (119, .getfield 22, 3, [10, 11, 2], 0, [747]), (122, .iload 6, 2, [6], 0, []), (124, .iaload, 1, [], 0, []), (125, .if_icmp .eq 31, 3, [156], 0, []), (128, .aload_n 0, 1, [0], 0, []), (129, .getfield 122, 3, [10, 9, 0], 0, [745]), (132, .iload 5, 2, [5], 0, []), (134, .invokestatic 155, 3, [115, 2, 3], 0, [932]), (137, .ifCond .eq 15, 3, [152], 0, []), (140, .aload_n 0, 1, [0], 0, []), (141, .getfield 122, 3, [10, 9, 0], 0, [745]), (144, .iload 6, 2, [6], 0, []), (146, .invokestatic 155, 3, [115, 2, 3], 0, [932]), (149, .ifCond .ne 7, 3, [156], 0, []), (152, .iconst 1, 1, [], 1, []), (153, .goto 4, 3, [157], 0, []), (156, .iconst 0, 1, [], 0, []), (157, .istore 7, 2, [7], 0, []), (159, .aload_n 0, 1, [0], 0, []), (160, .getfield 52, 3, [10, 28, 2], 0, [764]), (163, .iload 5, 2, [5], 0, []), (165, .iaload, 1, [], 0, []), (166, .bipush (-9), 2, [], -9, []), (168, .if_icmp .eq 27, 3, [195], 0, []), (171, .aload_n 0, 1, [0], 0, []), (172, .getfield 52, 3, [10, 28, 2], 0, [764]), (175, .iload 5, 2, [5], 0, []), (177, .iaload, 1, [], 0, []), (178, .aload_n 0, 1, [0], 0, []), (179, .getfield 52, 3, [10, 28, 2], 0, [764]), (182, .iload 6, 2, [6], 0, []), (184, .iaload, 1, [], 0, []), (185, .if_icmp .ne 10, 3, [195], 0, []), (188, .iload 7, 2, [7], 0, []), (190, .ifCond .ne 5, 3, [195], 0, []), (193, .iconst 0, 1, [], 0, []), (194, .ireturn, 1, [], 0, []), (195, .iinc 6 1, 3, [6], 1, []), (198, .goto (-94), 3, [104], 0, []), (201, .iinc 5 1, 3, [5], 1, []), (204, .goto (-142), 3, [62], 0, []), (207, .iload 4, 2, [4], 0, []), (209, .iconst 1, 1, [], 1, []), (210, .iload_n 2, 1, [2], 0, []), (211, .ishl, 1, [], 0, []), (212, .iconst 1, 1, [], 1, []), (213, .isub, 1, [], 0, []), (214, .if_icmp .ne 7, 3, [221], 0, []), (217, .iconst 1, 1, [], 1, []), (218, .goto 4, 3, [222], 0, []), (221, .iconst 0, 1, [], 0, []), (222, .ireturn, 1, [], 0, [])]
def hd_X10_canSit : List (Nat × List Bool) := [(10, [true, false, true, true, true, false, false, false]), (62, [true, false, true, false, true, true, false, false]), (104, [true, false, true, false, true, true, true, false]), (157, [true, false, true, false, true, true, true, false])]
def me_X10_canSit : z_Me := (⟨"StayingGuestsModel", "canSit", "(II)Z"⟩, prog_12_method_47_code, 8, some .boolean, cd_X10_canSit, hd_X10_canSit)
def cd_X10_findTables : List z_En := [(0, .aload_n 0, 1, [0], 0, []), (1, .getfield 83, 3, [10, 6, 0], 0, [742]), (4, .aload_n 0, 1, [0], 0, []), (5, .getfield 119, 3, [10, 8, 0], 0, [744]), (8, .invokestatic 210, 3, [116, 1, 1], 0, [1018]), (11, .isub, 1, [], 0, []), (12, .istore_n 1, 1, [1], 0, []), (13, .iload_n 1, 1, [1], 0, []), (14, .ifCond .ne 7, 3, [21], 0, []), (17, .iconst 0, 1, [], 0, []), (18, .goto 4, 3, [22], 0, []), (21, .iconst 1, 1, [], 1, []), (22, .istore_n 2, 1, [2], 0, []), (23, .iload_n 2, 1, [2], 0, []), (24, .iload_n 1, 1, [1], 0, []), (25, .if_icmp .gt 57, 3, [82], 0, []), (28, .iconst 1, 1, [], 1, []), (29, .istore_n 3, 1, [3], 0, []), (30, .iconst 0, 1, [], 0, []), (31, .istore 4, 2, [4], 0, []), (33, .iload 4, 2, [4], 0, []), (35, .iload_n 1, 1, [1], 0, []), (36, .if_icmp .ge 13, 3, [49], 0, []), (39, .iload_n 3, 1, [3], 0, []), (40, .iload_n 2, 1, [2], 0, []), (41, .imul, 1, [], 0, []), (42, .istore_n 3, 1, [3], 0, []), (43, .iinc 4 1, 3, [4], 1, []), (46, .goto (-13), 3, [33], 0, []), (49, .iconst 0, 1, [], 0, []), (50, .istore 4, 2, [4], 0, []), (52, .iload 4, 2, [4], 0, []), (54, .iload_n 3, 1, [3], 0, []), (55, .if_icmp .ge 21, 3, [76], 0, []), (58, .aload_n 0, 1, [0], 0, []), (59, .iload 4, 2, [4], 0, []), (61, .iload_n 2, 1, [2], 0, []), (62, .invokevirtual 213, 3, [150, 3, 3, 10], 0, [1021]), (65, .ifCond .eq 5, 3, [70], 0, []), (68, .iload_n 2, 1, [2], 0, []), (69, .ireturn, 1, [], 0, []), (70, .iinc 4 1, 3, [4], 1, []), (73, .goto (-21), 3, [52], 0, []), (76, .iinc 2 1, 3, [2], 1, []), (79, .goto (-56), 3, [23], 0, []), (82, .iconst 0, 1, [], 0, []), (83, .ireturn, 1, [], 0, [])]
def hd_X10_findTables : List (Nat × List Bool) := [(23, [true, true, true, false, false]), (33, [true, true, true, true, true]), (52, [true, true, true, true, true])]
def me_X10_findTables : z_Me := (⟨"StayingGuestsModel", "findTables", "()I"⟩, prog_12_method_48_code, 5, some .int, cd_X10_findTables, hd_X10_findTables)
def cd_X10_apart : List z_En := [(0, .iload_n 1, 1, [1], 0, []), (1, .iconst (-1), 1, [], -1, []), (2, .iconst 5, 1, [], 5, []), (3, .invokestatic 76, 3, [108, 3, 3], 0, [855]), (6, .ifCond .ne 6, 3, [12], 0, []), (9, .bipush (-2), 2, [], -2, []), (11, .ireturn, 1, [], 0, []), (12, .aload_n 0, 1, [0], 0, []), (13, .getfield 83, 3, [10, 6, 0], 0, [742]), (16, .ifCond .ne 6, 3, [22], 0, []), (19, .bipush (-3), 2, [], -3, []), (21, .ireturn, 1, [], 0, []), (22, .aload_n 0, 1, [0], 0, []), (23, .invokevirtual 216, 3, [151, 1, 1, 10], 0, [1014]), (26, .istore_n 2, 1, [2], 0, []), (27, .iload_n 1, 1, [1], 0, []), (28, .iconst (-1), 1, [], -1, []), (29, .if_icmp .ne 5, 3, [34], 0, []), (32, .iload_n 2, 1, [2], 0, []), (33, .ireturn, 1, [], 0, []), (34, .aload_n 0, 1, [0], 0, []), (35, .iload_n 1, 1, [1], 0, []), (36, .invokevirtual 142, 3, [113, 2, 3, 10], 0, [897]), (39, .ifCond .eq 23, 3, [62], 0, []), (42, .aload_n 0, 1, [0], 0, []), (43, .getfield 119, 3, [10, 8, 0], 0, [744]), (46, .iload_n 1, 1, [1], 0, []), (47, .invokestatic 155, 3, [115, 2, 3], 0, [932]), (50, .ifCond .ne 12, 3, [62], 0, []), (53, .aload_n 0, 1, [0], 0, []), (54, .getfield 52, 3, [10, 28, 2], 0, [764]), (57, .iload_n 1, 1, [1], 0, []), (58, .iaload, 1, [], 0, []), (59, .goto 5, 3, [64], 0, []), (62, .bipush (-9), 2, [], -9, []), (64, .ireturn, 1, [], 0, [])]
def hd_X10_apart : List (Nat × List Bool) := []
def me_X10_apart : z_Me := (⟨"StayingGuestsModel", "apart", "(I)I"⟩, prog_12_method_49_code, 3, some .int, cd_X10_apart, hd_X10_apart)
def cd_X10_canGive : List z_En := [(0, .iload_n 1, 1, [1], 0, []), (1, .istore_n 2, 1, [2], 0, []), (2, .iconst 0, 1, [], 0, []), (3, .istore_n 3, 1, [3], 0, []), (4, .aload_n 0, 1, [0], 0, []), (5, .getfield 83, 3, [10, 6, 0], 0, [742]), (8, .iconst 1, 1, [], 1, []), (9, .isub, 1, [], 0, []), (10, .istore 4, 2, [4], 0, []), (12, .iload 4, 2, [4], 0, []), (14, .ifCond .lt 108, 3, [122], 0, []), (17, .iload_n 2, 1, [2], 0, []), (18, .aload_n 0, 1, [0], 0, []), (19, .getfield 80, 3, [10, 5, 0], 0, [741]), (22, .iconst 1, 1, [], 1, []), (23, .iadd, 1, [], 0, []), (24, .irem, 1, [], 0, []), (25, .istore 5, 2, [5], 0, []), (27, .iload_n 2, 1, [2], 0, []), (28, .aload_n 0, 1, [0], 0, []), (29, .getfield 80, 3, [10, 5, 0], 0, [741]), (32, .iconst 1, 1, [], 1, []), (33, .iadd, 1, [], 0, []), (34, .idiv, 1, [], 0, []), (35, .istore_n 2, 1, [2], 0, []), (36, .aload_n 0, 1, [0], 0, []), (37, .getfield 55, 3, [10, 29, 2], 0, [765]), (40, .iload 4, 2, [4], 0, []), (42, .iload 5, 2, [5], 0, []), (44, .aload_n 0, 1, [0], 0, []), (45, .getfield 80, 3, [10, 5, 0], 0, [741]), (48, .if_icmp .ne 8, 3, [56], 0, []), (51, .bipush 9, 2, [], 9, []), (53, .goto 5, 3, [58], 0, []), (56, .iload 5, 2, [5], 0, []), (58, .iastore, 1, [], 0, []), (59, .iload 5, 2, [5], 0, []), (61, .aload_n 0, 1, [0], 0, []), (62, .getfield 80, 3, [10, 5, 0], 0, [741]), (65, .if_icmp .ge 51, 3, [116], 0, []), (68, .iload_n 3, 1, [3], 0, []), (69, .iload 5, 2, [5], 0, []), (71, .invokestatic 155, 3, [115, 2, 3], 0, [932]), (74, .ifCond .ne 33, 3, [107], 0, []), (77, .aload_n 0, 1, [0], 0, []), (78, .getfield 119, 3, [10, 8, 0], 0, [744]), (81, .iload 4, 2, [4], 0, []), (83, .invokestatic 155, 3, [115, 2, 3], 0, [932]), (86, .ifCond .ne 21, 3, [107], 0, []), (89, .aload_n 0, 1, [0], 0, []), (90, .iload 5, 2, [5], 0, []), (92, .iload 4, 2, [4], 0, []), (94, .invokevirtual 148, 3, [124, 3, 1, 10], 0, [917]), (97, .aload_n 0, 1, [0], 0, []), (98, .getfield 25, 3, [10, 12, 2], 0, [748]), (101, .iload 4, 2, [4], 0, []), (103, .iaload, 1, [], 0, []), (104, .if_icmp .le 5, 3, [109], 0, []), (107, .iconst 0, 1, [], 0, []), (108, .ireturn, 1, [], 0, []), (109, .iload_n 3, 1, [3], 0, []), (110, .iconst 1, 1, [], 1, []), (111, .iload 5, 2, [5], 0, []), (113, .ishl, 1, [], 0, []), (114, .ior, 1, [], 0, []), (115, .istore_n 3, 1, [3], 0, []), (116, .iinc 4 (-1), 3, [4], -1, []), (119, .goto (-107), 3, [12], 0, []), (122, .iconst 1, 1, [], 1, []), (123, .ireturn, 1, [], 0, [])]
def hd_X10_canGive : List (Nat × List Bool) := [(12, [true, false, true, true, true, false])]
def me_X10_canGive : z_Me := (⟨"StayingGuestsModel", "canGive", "(I)Z"⟩, prog_12_method_50_code, 6, some .boolean, cd_X10_canGive, hd_X10_canGive)
def cd_X10_tryRow : List z_En := [(0, .iconst 0, 1, [], 0, []), (1, .istore_n 1, 1, [1], 0, []), (2, .iconst 0, 1, [], 0, []), (3, .istore_n 2, 1, [2], 0, []), (4, .iconst 0, 1, [], 0, []), (5, .istore_n 3, 1, [3], 0, []), (6, .iload_n 3, 1, [3], 0, []), (7, .aload_n 0, 1, [0], 0, []), (8, .getfield 83, 3, [10, 6, 0], 0, [742]), (11, .if_icmp .ge 69, 3, [80], 0, []), (14, .aload_n 0, 1, [0], 0, []), (15, .getfield 55, 3, [10, 29, 2], 0, [765]), (18, .iload_n 3, 1, [3], 0, []), (19, .iaload, 1, [], 0, []), (20, .bipush 9, 2, [], 9, []), (22, .if_icmp .eq 52, 3, [74], 0, []), (25, .iload_n 1, 1, [1], 0, []), (26, .aload_n 0, 1, [0], 0, []), (27, .getfield 34, 3, [10, 15, 2], 0, [751]), (30, .iload_n 3, 1, [3], 0, []), (31, .iaload, 1, [], 0, []), (32, .aload_n 0, 1, [0], 0, []), (33, .aload_n 0, 1, [0], 0, []), (34, .getfield 55, 3, [10, 29, 2], 0, [765]), (37, .iload_n 3, 1, [3], 0, []), (38, .iaload, 1, [], 0, []), (39, .iload_n 3, 1, [3], 0, []), (40, .invokevirtual 148, 3, [124, 3, 1, 10], 0, [917]), (43, .iadd, 1, [], 0, []), (44, .aload_n 0, 1, [0], 0, []), (45, .getfield 28, 3, [10, 13, 2], 0, [749]), (48, .iload_n 3, 1, [3], 0, []), (49, .iaload, 1, [], 0, []), (50, .if_icmp .lt 7, 3, [57], 0, []), (53, .iconst 1, 1, [], 1, []), (54, .goto 4, 3, [58], 0, []), (57, .iconst 0, 1, [], 0, []), (58, .iadd, 1, [], 0, []), (59, .istore_n 1, 1, [1], 0, []), (60, .iload_n 2, 1, [2], 0, []), (61, .aload_n 0, 1, [0], 0, []), (62, .getfield 19, 3, [10, 10, 2], 0, [746]), (65, .aload_n 0, 1, [0], 0, []), (66, .getfield 55, 3, [10, 29, 2], 0, [765]), (69, .iload_n 3, 1, [3], 0, []), (70, .iaload, 1, [], 0, []), (71, .iaload, 1, [], 0, []), (72, .iadd, 1, [], 0, []), (73, .istore_n 2, 1, [2], 0, []), (74, .iinc 3 1, 3, [3], 1, []), (77, .goto (-71), 3, [6], 0, []), (80, .iload_n 1, 1, [1], 0, []), (81, .aload_n 0, 1, [0], 0, []), (82, .getfield 219, 3, [10, 31, 0], 0, [767]), (85, .if_icmp .gt 19, 3, [104], 0, []), (88, .iload_n 1, 1, [1], 0, []), (89, .aload_n 0, 1, [0], 0, []), (90, .getfield 219, 3, [10, 31, 0], 0, [767]), (93, .if_icmp .ne 49, 3, [142], 0, []), (96, .iload_n 2, 1, [2], 0, []), (97, .aload_n 0, 1, [0], 0, []), (98, .getfield 222, 3, [10, 32, 0], 0, [768]), (101, .if_icmp .ge 41, 3, [142], 0, []), (104, .aload_n 0, 1, [0], 0, []), (105, .iload_n 1, 1, [1], 0, []), (106, .putfield 219, 3, [10, 31, 0], 0, [767]), (109, .aload_n 0, 1, [0], 0, []), (110, .iload_n 2, 1, [2], 0, []), (111, .putfield 222, 3, [10, 32, 0], 0, [768]), (114, .iconst 0, 1, [], 0, []), (115, .istore_n 3, 1, [3], 0, []), (116, .iload_n 3, 1, [3], 0, []), (117, .aload_n 0, 1, [0], 0, []), (118, .getfield 83, 3, [10, 6, 0], 0, [742]), (121, .if_icmp .ge 21, 3, [142], 0, []), (124, .aload_n 0, 1, [0], 0, []), (125, .getfield 58, 3, [10, 30, 2], 0, [766]), (128, .iload_n 3, 1, [3], 0, []), (129, .aload_n 0, 1, [0], 0, []), (130, .getfield 55, 3, [10, 29, 2], 0, [765]), (133, .iload_n 3, 1, [3], 0, []), (134, .iaload, 1, [], 0, []), (135, .iastore, 1, [], 0, []), (136, .iinc 3 1, 3, [3], 1, []), (139, .goto (-23), 3, [116], 0, []), (142, .return_, 1, [], 0, [])]
def hd_X10_tryRow : List (Nat × List Bool) := [(6, [true, true, true, true]), (116, [true, false, false, true])]
def me_X10_tryRow : z_Me := (⟨"StayingGuestsModel", "tryRow", "()V"⟩, prog_12_method_51_code, 4, none, cd_X10_tryRow, hd_X10_tryRow)
def cd_X10_best : List z_En := [(0, .iload_n 1, 1, [1], 0, []), (1, .bipush (-2), 2, [], -2, []), (3, .iconst 5, 1, [], 5, []), (4, .invokestatic 76, 3, [108, 3, 3], 0, [855]), (7, .ifCond .ne 6, 3, [13], 0, []), (10, .bipush (-2), 2, [], -2, []), (12, .ireturn, 1, [], 0, []), (13, .aload_n 0, 1, [0], 0, []), (14, .getfield 83, 3, [10, 6, 0], 0, [742]), (17, .ifCond .ne 6, 3, [23], 0, []), (20, .bipush (-3), 2, [], -3, []), (22, .ireturn, 1, [], 0, []), (23, .iconst 1, 1, [], 1, []), (24, .istore_n 2, 1, [2], 0, []), (25, .iconst 0, 1, [], 0, []), (26, .istore_n 3, 1, [3], 0, []), (27, .iload_n 3, 1, [3], 0, []), (28, .aload_n 0, 1, [0], 0, []), (29, .getfield 83, 3, [10, 6, 0], 0, [742]), (32, .if_icmp .ge 18, 3, [50], 0, []), (35, .iload_n 2, 1, [2], 0, []), (36, .aload_n 0, 1, [0], 0, []), (37, .getfield 80, 3, [10, 5, 0], 0, [741]), (40, .iconst 1, 1, [], 1, []), (41, .iadd, 1, [], 0, []), (42, .imul, 1, [], 0, []), (43, .istore_n 2, 1, [2], 0, []), (44, .iinc 3 1, 3, [3], 1, []), (47, .goto (-20), 3, [27], 0, []), (50, .aload_n 0, 1, [0], 0, []), (51, .bipush (-9), 2, [], -9, []), (53, .putfield 219, 3, [10, 31, 0], 0, [767]), (56, .aload_n 0, 1, [0], 0, []), (57, .iconst 0, 1, [], 0, []), (58, .putfield 222, 3, [10, 32, 0], 0, [768]), (61, .iconst 0, 1, [], 0, []), (62, .istore_n 3, 1, [3], 0, []), (63, .iload_n 3, 1, [3], 0, []), (64, .iload_n 2, 1, [2], 0, []), (65, .if_icmp .ge 21, 3, [86], 0, []), (68, .aload_n 0, 1, [0], 0, []), (69, .iload_n 3, 1, [3], 0, []), (70, .invokevirtual 225, 3, [153, 2, 3, 10], 0, [1029]), (73, .ifCond .eq 7, 3, [80], 0, []), (76, .aload_n 0, 1, [0], 0, []), (77, .invokevirtual 228, 3, [154, 1, 0, 10], 0, [1033]), (80, .iinc 3 1, 3, [3], 1, []), (83, .goto (-20), 3, [63], 0, []), (86, .iload_n 1, 1, [1], 0, []), (87, .ifCond .ge 21, 3, [108], 0, []), (90, .iload_n 1, 1, [1], 0, []), (91, .bipush (-2), 2, [], -2, []), (93, .if_icmp .ne 10, 3, [103], 0, []), (96, .aload_n 0, 1, [0], 0, []), (97, .getfield 219, 3, [10, 31, 0], 0, [767]), (100, .goto 7, 3, [107], 0, []), (103, .aload_n 0, 1, [0], 0, []), (104, .getfield 222, 3, [10, 32, 0], 0, [768]), (107, .ireturn, 1, [], 0, []), (108, .aload_n 0, 1, [0], 0, []), (109, .iload_n 1, 1, [1], 0, []), (110, .invokevirtual 142, 3, [113, 2, 3, 10], 0, [897]), (113, .ifCond .eq 23, 3, [136], 0, []), (116, .aload_n 0, 1, [0], 0, []), (117, .getfield 58, 3, [10, 30, 2], 0, [766]), (120, .iload_n 1, 1, [1], 0, []), (121, .iaload, 1, [], 0, []), (122, .bipush 9, 2, [], 9, []), (124, .if_icmp .eq 12, 3, [136], 0, []), (127, .aload_n 0, 1, [0], 0, []), (128, .getfield 58, 3, [10, 30, 2], 0, [766]), (131, .iload_n 1, 1, [1], 0, []), (132, .iaload, 1, [], 0, []), (133, .goto 5, 3, [138], 0, []), (136, .bipush (-9), 2, [], -9, []), (138, .ireturn, 1, [], 0, [])]
def hd_X10_best : List (Nat × List Bool) := [(27, [true, true, true, true]), (63, [true, true, true, true])]
def me_X10_best : z_Me := (⟨"StayingGuestsModel", "best", "(I)I"⟩, prog_12_method_52_code, 4, some .int, cd_X10_best, hd_X10_best)
def cd_X10_reading : List z_En := [(0, .aload_n 0, 1, [0], 0, []), (1, .iload_n 1, 1, [1], 0, []), (2, .invokevirtual 145, 3, [112, 2, 3, 10], 0, [905]), (5, .ifCond .eq 11, 3, [16], 0, []), (8, .aload_n 0, 1, [0], 0, []), (9, .iload_n 2, 1, [2], 0, []), (10, .invokevirtual 142, 3, [113, 2, 3, 10], 0, [897]), (13, .ifCond .ne 5, 3, [18], 0, []), (16, .iconst (-1), 1, [], -1, []), (17, .ireturn, 1, [], 0, []), (18, .iload_n 3, 1, [3], 0, []), (19, .iconst 0, 1, [], 0, []), (20, .iconst 1, 1, [], 1, []), (21, .invokestatic 76, 3, [108, 3, 3], 0, [855]), (24, .ifCond .ne 6, 3, [30], 0, []), (27, .bipush (-2), 2, [], -2, []), (29, .ireturn, 1, [], 0, []), (30, .aload_n 0, 1, [0], 0, []), (31, .getfield 125, 3, [10, 33, 0], 0, [769]), (34, .bipush 8, 2, [], 8, []), (36, .if_icmp .ne 6, 3, [42], 0, []), (39, .bipush (-4), 2, [], -4, []), (41, .ireturn, 1, [], 0, []), (42, .aload_n 0, 1, [0], 0, []), (43, .getfield 61, 3, [10, 34, 2], 0, [770]), (46, .aload_n 0, 1, [0], 0, []), (47, .getfield 125, 3, [10, 33, 0], 0, [769]), (50, .iload_n 1, 1, [1], 0, []), (51, .iastore, 1, [], 0, []), (52, .aload_n 0, 1, [0], 0, []), (53, .getfield 64, 3, [10, 35, 2], 0, [771]), (56, .aload_n 0, 1, [0], 0, []), (57, .getfield 125, 3, [10, 33, 0], 0, [769]), (60, .iload_n 2, 1, [2], 0, []), (61, .iastore, 1, [], 0, []), (62, .aload_n 0, 1, [0], 0, []), (63, .getfield 67, 3, [10, 36, 2], 0, [772]), (66, .aload_n 0, 1, [0], 0, []), (67, .getfield 125, 3, [10, 33, 0], 0, [769]), (70, .iload_n 3, 1, [3], 0, []), (71, .iastore, 1, [], 0, []), (72, .aload_n 0, 1, [0], 0, []), (73, .dup, 1, [], 0, []), (74, .getfield 125, 3, [10, 33, 0], 0, [769]), (77, .iconst 1, 1, [], 1, []), (78, .iadd, 1, [], 0, []), (79, .putfield 125, 3, [10, 33, 0], 0, [769]), (82, .aload_n 0, 1, [0], 0, []), (83, .getfield 125, 3, [10, 33, 0], 0, [769]), (86, .iconst 1, 1, [], 1, []), (87, .isub, 1, [], 0, []), (88, .ireturn, 1, [], 0, [])]
def hd_X10_reading : List (Nat × List Bool) := []
def me_X10_reading : z_Me := (⟨"StayingGuestsModel", "reading", "(III)I"⟩, prog_12_method_53_code, 4, some .int, cd_X10_reading, hd_X10_reading)
def cd_X10_back : List z_En := [(0, .iload_n 1, 1, [1], 0, []), (1, .iconst 0, 1, [], 0, []), (2, .aload_n 0, 1, [0], 0, []), (3, .getfield 125, 3, [10, 33, 0], 0, [769]), (6, .invokestatic 76, 3, [108, 3, 3], 0, [855]), (9, .ifCond .ne 6, 3, [15], 0, []), (12, .bipush (-2), 2, [], -2, []), (14, .ireturn, 1, [], 0, []), (15, .aload_n 0, 1, [0], 0, []), (16, .dup, 1, [], 0, []), (17, .getfield 125, 3, [10, 33, 0], 0, [769]), (20, .iload_n 1, 1, [1], 0, []), (21, .isub, 1, [], 0, []), (22, .putfield 125, 3, [10, 33, 0], 0, [769]), (25, .aload_n 0, 1, [0], 0, []), (26, .getfield 125, 3, [10, 33, 0], 0, [769]), (29, .ireturn, 1, [], 0, [])]
def hd_X10_back : List (Nat × List Bool) := []
def me_X10_back : z_Me := (⟨"StayingGuestsModel", "back", "(I)I"⟩, prog_12_method_54_code, 2, some .int, cd_X10_back, hd_X10_back)
def cd_X10_areSo : List z_En := [(0, .iconst 0, 1, [], 0, []), (1, .istore_n 1, 1, [1], 0, []), (2, .iload_n 1, 1, [1], 0, []), (3, .aload_n 0, 1, [0], 0, []), (4, .getfield 125, 3, [10, 33, 0], 0, [769]), (7, .if_icmp .ge 57, 3, [64], 0, []), (10, .aload_n 0, 1, [0], 0, []), (11, .aload_n 0, 1, [0], 0, []), (12, .getfield 61, 3, [10, 34, 2], 0, [770]), (15, .iload_n 1, 1, [1], 0, []), (16, .iaload, 1, [], 0, []), (17, .aload_n 0, 1, [0], 0, []), (18, .getfield 64, 3, [10, 35, 2], 0, [771]), (21, .iload_n 1, 1, [1], 0, []), (22, .iaload, 1, [], 0, []), (23, .invokevirtual 148, 3, [124, 3, 1, 10], 0, [917]), (26, .aload_n 0, 1, [0], 0, []), (27, .getfield 25, 3, [10, 12, 2], 0, [748]), (30, .aload_n 0, 1, [0], 0, []), (31, .getfield 64, 3, [10, 35, 2], 0, [771]), (34, .iload_n 1, 1, [1], 0, []), (35, .iaload, 1, [], 0, []), (36, .iaload, 1, [], 0, []), (37, .if_icmp .le 7, 3, [44], 0, []), (40, .iconst 1, 1, [], 1, []), (41, .goto 4, 3, [45], 0, []), (44, .iconst 0, 1, [], 0, []), (45, .istore_n 2, 1, [2], 0, []), (46, .iload_n 2, 1, [2], 0, []), (47, .aload_n 0, 1, [0], 0, []), (48, .getfield 67, 3, [10, 36, 2], 0, [772]), (51, .iload_n 1, 1, [1], 0, []), (52, .iaload, 1, [], 0, []), (53, .if_icmp .eq 5, 3, [58], 0, []), (56, .iconst 0, 1, [], 0, []), (57, .ireturn, 1, [], 0, []), (58, .iinc 1 1, 3, [1], 1, []), (61, .goto (-59), 3, [2], 0, []), (64, .iconst 1, 1, [], 1, []), (65, .ireturn, 1, [], 0, [])]
def hd_X10_areSo : List (Nat × List Bool) := [(2, [true, true, false])]
def me_X10_areSo : z_Me := (⟨"StayingGuestsModel", "areSo", "()Z"⟩, prog_12_method_55_code, 3, some .boolean, cd_X10_areSo, hd_X10_areSo)
def cd_X10_bearings : List z_En := [(0, .aload_n 0, 1, [0], 0, []), (1, .iload_n 1, 1, [1], 0, []), (2, .invokevirtual 142, 3, [113, 2, 3, 10], 0, [897]), (5, .ifCond .ne 5, 3, [10], 0, []), (8, .iconst (-1), 1, [], -1, []), (9, .ireturn, 1, [], 0, []), (10, .aload_n 0, 1, [0], 0, []), (11, .getfield 25, 3, [10, 12, 2], 0, [748]), (14, .iload_n 1, 1, [1], 0, []), (15, .iaload, 1, [], 0, []), (16, .istore_n 2, 1, [2], 0, []), (17, .iconst 0, 1, [], 0, []), (18, .istore_n 3, 1, [3], 0, []), (19, .iconst 1, 1, [], 1, []), (20, .istore 4, 2, [4], 0, []), (22, .iload 4, 2, [4], 0, []), (24, .bipush 9, 2, [], 9, []), (26, .if_icmp .gt 35, 3, [61], 0, []), (29, .aload_n 0, 1, [0], 0, []), (30, .getfield 25, 3, [10, 12, 2], 0, [748]), (33, .iload_n 1, 1, [1], 0, []), (34, .iload 4, 2, [4], 0, []), (36, .iastore, 1, [], 0, []), (37, .iload_n 3, 1, [3], 0, []), (38, .aload_n 0, 1, [0], 0, []), (39, .invokevirtual 231, 3, [158, 1, 3, 10], 0, [1049]), (42, .ifCond .eq 10, 3, [52], 0, []), (45, .iconst 1, 1, [], 1, []), (46, .iload 4, 2, [4], 0, []), (48, .ishl, 1, [], 0, []), (49, .goto 4, 3, [53], 0, []), (52, .iconst 0, 1, [], 0, []), (53, .ior, 1, [], 0, []), (54, .istore_n 3, 1, [3], 0, []), (55, .iinc 4 1, 3, [4], 1, []), (58, .goto (-36), 3, [22], 0, []), (61, .aload_n 0, 1, [0], 0, []), (62, .getfield 25, 3, [10, 12, 2], 0, [748]), (65, .iload_n 1, 1, [1], 0, []), (66, .iload_n 2, 1, [2], 0, []), (67, .iastore, 1, [], 0, []), (68, .iload_n 3, 1, [3], 0, []), (69, .ireturn, 1, [], 0, [])]
def hd_X10_bearings : List (Nat × List Bool) := [(22, [true, true, true, true, true])]
def me_X10_bearings : z_Me := (⟨"StayingGuestsModel", "bearings", "(I)I"⟩, prog_12_method_56_code, 5, some .int, cd_X10_bearings, hd_X10_bearings)
def cd_X10_kinds : List z_En := [(0, .aload_n 0, 1, [0], 0, []), (1, .iload_n 1, 1, [1], 0, []), (2, .invokevirtual 142, 3, [113, 2, 3, 10], 0, [897]), (5, .ifCond .ne 5, 3, [10], 0, []), (8, .iconst (-1), 1, [], -1, []), (9, .ireturn, 1, [], 0, []), (10, .aload_n 0, 1, [0], 0, []), (11, .getfield 22, 3, [10, 11, 2], 0, [747]), (14, .iload_n 1, 1, [1], 0, []), (15, .iaload, 1, [], 0, []), (16, .istore_n 2, 1, [2], 0, []), (17, .iconst 0, 1, [], 0, []), (18, .istore_n 3, 1, [3], 0, []), (19, .iconst 0, 1, [], 0, []), (20, .istore 4, 2, [4], 0, []), (22, .iload 4, 2, [4], 0, []), (24, .iconst 3, 1, [], 3, []), (25, .if_icmp .ge 35, 3, [60], 0, []), (28, .aload_n 0, 1, [0], 0, []), (29, .getfield 22, 3, [10, 11, 2], 0, [747]), (32, .iload_n 1, 1, [1], 0, []), (33, .iload 4, 2, [4], 0, []), (35, .iastore, 1, [], 0, []), (36, .iload_n 3, 1, [3], 0, []), (37, .aload_n 0, 1, [0], 0, []), (38, .invokevirtual 231, 3, [158, 1, 3, 10], 0, [1049]), (41, .ifCond .eq 10, 3, [51], 0, []), (44, .iconst 1, 1, [], 1, []), (45, .iload 4, 2, [4], 0, []), (47, .ishl, 1, [], 0, []), (48, .goto 4, 3, [52], 0, []), (51, .iconst 0, 1, [], 0, []), (52, .ior, 1, [], 0, []), (53, .istore_n 3, 1, [3], 0, []), (54, .iinc 4 1, 3, [4], 1, []), (57, .goto (-35), 3, [22], 0, []), (60, .aload_n 0, 1, [0], 0, []), (61, .getfield 22, 3, [10, 11, 2], 0, [747]), (64, .iload_n 1, 1, [1], 0, []), (65, .iload_n 2, 1, [2], 0, []), (66, .iastore, 1, [], 0, []), (67, .iload_n 3, 1, [3], 0, []), (68, .ireturn, 1, [], 0, [])]
def hd_X10_kinds : List (Nat × List Bool) := [(22, [true, true, true, true, true])]
def me_X10_kinds : z_Me := (⟨"StayingGuestsModel", "kinds", "(I)I"⟩, prog_12_method_57_code, 5, some .int, cd_X10_kinds, hd_X10_kinds)
def cd_X10_hintings : List z_En := [(0, .aload_n 0, 1, [0], 0, []), (1, .iload_n 1, 1, [1], 0, []), (2, .invokevirtual 145, 3, [112, 2, 3, 10], 0, [905]), (5, .ifCond .ne 5, 3, [10], 0, []), (8, .iconst (-1), 1, [], -1, []), (9, .ireturn, 1, [], 0, []), (10, .aload_n 0, 1, [0], 0, []), (11, .getfield 19, 3, [10, 10, 2], 0, [746]), (14, .iload_n 1, 1, [1], 0, []), (15, .iaload, 1, [], 0, []), (16, .istore_n 2, 1, [2], 0, []), (17, .iconst 0, 1, [], 0, []), (18, .istore_n 3, 1, [3], 0, []), (19, .iconst 1, 1, [], 1, []), (20, .istore 4, 2, [4], 0, []), (22, .iload 4, 2, [4], 0, []), (24, .bipush 9, 2, [], 9, []), (26, .if_icmp .gt 35, 3, [61], 0, []), (29, .aload_n 0, 1, [0], 0, []), (30, .getfield 19, 3, [10, 10, 2], 0, [746]), (33, .iload_n 1, 1, [1], 0, []), (34, .iload 4, 2, [4], 0, []), (36, .iastore, 1, [], 0, []), (37, .iload_n 3, 1, [3], 0, []), (38, .aload_n 0, 1, [0], 0, []), (39, .invokevirtual 231, 3, [158, 1, 3, 10], 0, [1049]), (42, .ifCond .eq 10, 3, [52], 0, []), (45, .iconst 1, 1, [], 1, []), (46, .iload 4, 2, [4], 0, []), (48, .ishl, 1, [], 0, []), (49, .goto 4, 3, [53], 0, []), (52, .iconst 0, 1, [], 0, []), (53, .ior, 1, [], 0, []), (54, .istore_n 3, 1, [3], 0, []), (55, .iinc 4 1, 3, [4], 1, []), (58, .goto (-36), 3, [22], 0, []), (61, .aload_n 0, 1, [0], 0, []), (62, .getfield 19, 3, [10, 10, 2], 0, [746]), (65, .iload_n 1, 1, [1], 0, []), (66, .iload_n 2, 1, [2], 0, []), (67, .iastore, 1, [], 0, []), (68, .iload_n 3, 1, [3], 0, []), (69, .ireturn, 1, [], 0, [])]
def hd_X10_hintings : List (Nat × List Bool) := [(22, [true, true, true, true, true])]
def me_X10_hintings : z_Me := (⟨"StayingGuestsModel", "hintings", "(I)I"⟩, prog_12_method_58_code, 5, some .int, cd_X10_hintings, hd_X10_hintings)
def cd_X10_inLeastTerms : List z_En := [(0, .lload_n 0, 1, [0], 0, []), (1, .lstore 5, 2, [5], 0, []), (3, .lload_n 2, 1, [2], 0, []), (4, .lstore 7, 2, [7], 0, []), (6, .lload 7, 2, [7], 0, []), (8, .lconst 0, 1, [], 0, []), (9, .lcmp, 1, [], 0, []), (10, .ifCond .eq 21, 3, [31], 0, []), (13, .lload 5, 2, [5], 0, []), (15, .lload 7, 2, [7], 0, []), (17, .lrem, 1, [], 0, []), (18, .lstore 9, 2, [9], 0, []), (20, .lload 7, 2, [7], 0, []), (22, .lstore 5, 2, [5], 0, []), (24, .lload 9, 2, [9], 0, []), (26, .lstore 7, 2, [7], 0, []), (28, .goto (-22), 3, [6], 0, []), (31, .iload 4, 2, [4], 0, []), (33, .ifCond .ne 10, 3, [43], 0, []), (36, .lload_n 0, 1, [0], 0, []), (37, .lload 5, 2, [5], 0, []), (39, .ldiv, 1, [], 0, []), (40, .goto 7, 3, [47], 0, []), (43, .lload_n 2, 1, [2], 0, []), (44, .lload 5, 2, [5], 0, []), (46, .ldiv, 1, [], 0, []), (47, .lreturn, 1, [], 0, [])]
def hd_X10_inLeastTerms : List (Nat × List Bool) := [(6, [true, false, true, false, true, true, false, true, false, false, false])]
def me_X10_inLeastTerms : z_Me := (⟨"StayingGuestsModel", "inLeastTerms", "(JJI)J"⟩, prog_12_method_59_code, 11, some .long, cd_X10_inLeastTerms, hd_X10_inLeastTerms)
def cd_X10_odds : List z_En := [(0, .aload_n 0, 1, [0], 0, []), (1, .iload_n 1, 1, [1], 0, []), (2, .invokevirtual 142, 3, [113, 2, 3, 10], 0, [897]), (5, .ifCond .eq 12, 3, [17], 0, []), (8, .iload_n 2, 1, [2], 0, []), (9, .iconst 0, 1, [], 0, []), (10, .iconst 1, 1, [], 1, []), (11, .invokestatic 76, 3, [108, 3, 3], 0, [855]), (14, .ifCond .ne 7, 3, [21], 0, []), (17, .ldc2_w 74, 3, [], 0, [1065]), (20, .lreturn, 1, [], 0, []), (21, .iconst 0, 1, [], 0, []), (22, .istore_n 3, 1, [3], 0, []), (23, .iconst 0, 1, [], 0, []), (24, .istore 4, 2, [4], 0, []), (26, .iload 4, 2, [4], 0, []), (28, .aload_n 0, 1, [0], 0, []), (29, .getfield 80, 3, [10, 5, 0], 0, [741]), (32, .if_icmp .ge 33, 3, [65], 0, []), (35, .iload_n 3, 1, [3], 0, []), (36, .aload_n 0, 1, [0], 0, []), (37, .iload 4, 2, [4], 0, []), (39, .iload_n 1, 1, [1], 0, []), (40, .invokevirtual 148, 3, [124, 3, 1, 10], 0, [917]), (43, .aload_n 0, 1, [0], 0, []), (44, .getfield 25, 3, [10, 12, 2], 0, [748]), (47, .iload_n 1, 1, [1], 0, []), (48, .iaload, 1, [], 0, []), (49, .if_icmp .le 7, 3, [56], 0, []), (52, .iconst 0, 1, [], 0, []), (53, .goto 4, 3, [57], 0, []), (56, .iconst 1, 1, [], 1, []), (57, .iadd, 1, [], 0, []), (58, .istore_n 3, 1, [3], 0, []), (59, .iinc 4 1, 3, [4], 1, []), (62, .goto (-36), 3, [26], 0, []), (65, .iload_n 3, 1, [3], 0, []), (66, .i2l, 1, [], 0, []), (67, .aload_n 0, 1, [0], 0, []), (68, .getfield 80, 3, [10, 5, 0], 0, [741]), (71, .i2l, 1, [], 0, []), (72, .iload_n 2, 1, [2], 0, []), (73, .invokestatic 235, 3, [162, 3, 2], 0, [1066]), (76, .lreturn, 1, [], 0, [])]
def hd_X10_odds : List (Nat × List Bool) := [(26, [true, true, true, true, true])]
def me_X10_odds : z_Me := (⟨"StayingGuestsModel", "odds", "(II)J"⟩, prog_12_method_60_code, 5, some .long, cd_X10_odds, hd_X10_odds)
def cd_X10_sheet : List z_En := [(0, .aload_n 0, 1, [0], 0, []), (1, .iconst 0, 1, [], 0, []), (2, .putfield 70, 3, [10, 0, 0], 0, [736]), (5, .iload_n 1, 1, [1], 0, []), (6, .invokestatic 89, 3, [109, 1, 3], 0, [852]), (9, .ifCond .ne 5, 3, [14], 0, []), (12, .iconst (-1), 1, [], -1, []), (13, .ireturn, 1, [], 0, []), (14, .iload_n 2, 1, [2], 0, []), (15, .invokestatic 93, 3, [110, 1, 3], 0, [858]), (18, .ifCond .eq 9, 3, [27], 0, []), (21, .iload_n 3, 1, [3], 0, []), (22, .bipush 60, 2, [], 60, []), (24, .if_icmp .le 6, 3, [30], 0, []), (27, .bipush (-2), 2, [], -2, []), (29, .ireturn, 1, [], 0, []), (30, .iload_n 3, 1, [3], 0, []), (31, .ifCond .ge 9, 3, [40], 0, []), (34, .aload_n 0, 1, [0], 0, []), (35, .iconst 4, 1, [], 4, []), (36, .invokevirtual 100, 3, [106, 2, 1, 10], 0, [865]), (39, .ireturn, 1, [], 0, []), (40, .aload_n 0, 1, [0], 0, []), (41, .getfield 9, 3, [10, 2, 2], 0, [738]), (44, .iload_n 1, 1, [1], 0, []), (45, .iload_n 2, 1, [2], 0, []), (46, .iastore, 1, [], 0, []), (47, .aload_n 0, 1, [0], 0, []), (48, .getfield 13, 3, [10, 3, 2], 0, [739]), (51, .iload_n 1, 1, [1], 0, []), (52, .iload_n 3, 1, [3], 0, []), (53, .iastore, 1, [], 0, []), (54, .iconst 0, 1, [], 0, []), (55, .istore 4, 2, [4], 0, []), (57, .iload 4, 2, [4], 0, []), (59, .bipush 60, 2, [], 60, []), (61, .if_icmp .ge 22, 3, [83], 0, []), (64, .aload_n 0, 1, [0], 0, []), (65, .getfield 16, 3, [10, 4, 2], 0, [740]), (68, .bipush 60, 2, [], 60, []), (70, .iload_n 1, 1, [1], 0, []), (71, .imul, 1, [], 0, []), (72, .iload 4, 2, [4], 0, []), (74, .iadd, 1, [], 0, []), (75, .iconst 0, 1, [], 0, []), (76, .iastore, 1, [], 0, []), (77, .iinc 4 1, 3, [4], 1, []), (80, .goto (-23), 3, [57], 0, []), (83, .iconst 1, 1, [], 1, []), (84, .ireturn, 1, [], 0, [])]
def hd_X10_sheet : List (Nat × List Bool) := [(57, [true, true, false, false, true])]
def me_X10_sheet : z_Me := (⟨"StayingGuestsModel", "sheet", "(III)I"⟩, prog_12_method_61_code, 5, some .int, cd_X10_sheet, hd_X10_sheet)
def cd_X10_lose : List z_En := [(0, .iload_n 1, 1, [1], 0, []), (1, .invokestatic 89, 3, [109, 1, 3], 0, [852]), (4, .ifCond .ne 5, 3, [9], 0, []), (7, .iconst (-1), 1, [], -1, []), (8, .ireturn, 1, [], 0, []), (9, .aload_n 0, 1, [0], 0, []), (10, .getfield 9, 3, [10, 2, 2], 0, [738]), (13, .iload_n 1, 1, [1], 0, []), (14, .iaload, 1, [], 0, []), (15, .bipush (-9), 2, [], -9, []), (17, .if_icmp .ne 7, 3, [24], 0, []), (20, .iconst 0, 1, [], 0, []), (21, .goto 4, 3, [25], 0, []), (24, .iconst 1, 1, [], 1, []), (25, .istore_n 2, 1, [2], 0, []), (26, .aload_n 0, 1, [0], 0, []), (27, .getfield 9, 3, [10, 2, 2], 0, [738]), (30, .iload_n 1, 1, [1], 0, []), (31, .bipush (-9), 2, [], -9, []), (33, .iastore, 1, [], 0, []), (34, .iload_n 2, 1, [2], 0, []), (35, .ireturn, 1, [], 0, [])]
def hd_X10_lose : List (Nat × List Bool) := []
def me_X10_lose : z_Me := (⟨"StayingGuestsModel", "lose", "(I)I"⟩, prog_12_method_62_code, 3, some .int, cd_X10_lose, hd_X10_lose)
def cd_X10_put : List z_En := [(0, .aload_n 0, 1, [0], 0, []), (1, .iconst 0, 1, [], 0, []), (2, .putfield 70, 3, [10, 0, 0], 0, [736]), (5, .iload_n 1, 1, [1], 0, []), (6, .invokestatic 89, 3, [109, 1, 3], 0, [852]), (9, .ifCond .ne 5, 3, [14], 0, []), (12, .iconst (-1), 1, [], -1, []), (13, .ireturn, 1, [], 0, []), (14, .aload_n 0, 1, [0], 0, []), (15, .getfield 9, 3, [10, 2, 2], 0, [738]), (18, .iload_n 1, 1, [1], 0, []), (19, .iaload, 1, [], 0, []), (20, .bipush (-9), 2, [], -9, []), (22, .if_icmp .ne 9, 3, [31], 0, []), (25, .aload_n 0, 1, [0], 0, []), (26, .iconst 1, 1, [], 1, []), (27, .invokevirtual 100, 3, [106, 2, 1, 10], 0, [865]), (30, .ireturn, 1, [], 0, []), (31, .iload_n 2, 1, [2], 0, []), (32, .iconst 0, 1, [], 0, []), (33, .aload_n 0, 1, [0], 0, []), (34, .getfield 13, 3, [10, 3, 2], 0, [739]), (37, .iload_n 1, 1, [1], 0, []), (38, .iaload, 1, [], 0, []), (39, .iconst 1, 1, [], 1, []), (40, .isub, 1, [], 0, []), (41, .invokestatic 76, 3, [108, 3, 3], 0, [855]), (44, .ifCond .ne 9, 3, [53], 0, []), (47, .aload_n 0, 1, [0], 0, []), (48, .iconst 3, 1, [], 3, []), (49, .invokevirtual 100, 3, [106, 2, 1, 10], 0, [865]), (52, .ireturn, 1, [], 0, []), (53, .aload_n 0, 1, [0], 0, []), (54, .getfield 16, 3, [10, 4, 2], 0, [740]), (57, .bipush 60, 2, [], 60, []), (59, .iload_n 1, 1, [1], 0, []), (60, .imul, 1, [], 0, []), (61, .iload_n 2, 1, [2], 0, []), (62, .iadd, 1, [], 0, []), (63, .aload_n 0, 1, [0], 0, []), (64, .getfield 9, 3, [10, 2, 2], 0, [738]), (67, .iload_n 1, 1, [1], 0, []), (68, .iaload, 1, [], 0, []), (69, .ifCond .ne 8, 3, [77], 0, []), (72, .iload_n 3, 1, [3], 0, []), (73, .i2b, 1, [], 0, []), (74, .goto 19, 3, [93], 0, []), (77, .aload_n 0, 1, [0], 0, []), (78, .getfield 9, 3, [10, 2, 2], 0, [738]), (81, .iload_n 1, 1, [1], 0, []), (82, .iaload, 1, [], 0, []), (83, .iconst 1, 1, [], 1, []), (84, .if_icmp .ne 8, 3, [92], 0, []), (87, .iload_n 3, 1, [3], 0, []), (88, .i2s, 1, [], 0, []), (89, .goto 4, 3, [93], 0, []), (92, .iload_n 3, 1, [3], 0, []), (93, .iastore, 1, [], 0, []), (94, .iconst 1, 1, [], 1, []), (95, .ireturn, 1, [], 0, [])]
def hd_X10_put : List (Nat × List Bool) := []
def me_X10_put : z_Me := (⟨"StayingGuestsModel", "put", "(III)I"⟩, prog_12_method_63_code, 4, some .int, cd_X10_put, hd_X10_put)
def cd_X10_cell : List z_En := [(0, .aload_n 0, 1, [0], 0, []), (1, .iconst 0, 1, [], 0, []), (2, .putfield 70, 3, [10, 0, 0], 0, [736]), (5, .iload_n 1, 1, [1], 0, []), (6, .invokestatic 89, 3, [109, 1, 3], 0, [852]), (9, .ifCond .eq 10, 3, [19], 0, []), (12, .iload_n 3, 1, [3], 0, []), (13, .invokestatic 93, 3, [110, 1, 3], 0, [858]), (16, .ifCond .ne 7, 3, [23], 0, []), (19, .ldc2_w 74, 3, [], 0, [1065]), (22, .lreturn, 1, [], 0, []), (23, .aload_n 0, 1, [0], 0, []), (24, .getfield 9, 3, [10, 2, 2], 0, [738]), (27, .iload_n 1, 1, [1], 0, []), (28, .iaload, 1, [], 0, []), (29, .bipush (-9), 2, [], -9, []), (31, .if_icmp .eq 19, 3, [50], 0, []), (34, .aload_n 0, 1, [0], 0, []), (35, .getfield 9, 3, [10, 2, 2], 0, [738]), (38, .iload_n 1, 1, [1], 0, []), (39, .iaload, 1, [], 0, []), (40, .iload_n 3, 1, [3], 0, []), (41, .if_icmp .eq 9, 3, [50], 0, []), (44, .aload_n 0, 1, [0], 0, []), (45, .iconst 2, 1, [], 2, []), (46, .invokevirtual 239, 3, [107, 2, 2, 10], 0, [1085]), (49, .lreturn, 1, [], 0, []), (50, .aload_n 0, 1, [0], 0, []), (51, .getfield 9, 3, [10, 2, 2], 0, [738]), (54, .iload_n 1, 1, [1], 0, []), (55, .iaload, 1, [], 0, []), (56, .bipush (-9), 2, [], -9, []), (58, .if_icmp .ne 9, 3, [67], 0, []), (61, .aload_n 0, 1, [0], 0, []), (62, .iconst 1, 1, [], 1, []), (63, .invokevirtual 239, 3, [107, 2, 2, 10], 0, [1085]), (66, .lreturn, 1, [], 0, []), (67, .iload_n 2, 1, [2], 0, []), (68, .iconst 0, 1, [], 0, []), (69, .aload_n 0, 1, [0], 0, []), (70, .getfield 13, 3, [10, 3, 2], 0, [739]), (73, .iload_n 1, 1, [1], 0, []), (74, .iaload, 1, [], 0, []), (75, .iconst 1, 1, [], 1, []), (76, .isub, 1, [], 0, []), (77, .invokestatic 76, 3, [108, 3, 3], 0, [855]), (80, .ifCond .ne 9, 3, [89], 0, []), (83, .aload_n 0, 1, [0], 0, []), (84, .iconst 3, 1, [], 3, []), (85, .invokevirtual 239, 3, [107, 2, 2, 10], 0, [1085]), (88, .lreturn, 1, [], 0, []), (89, .aload_n 0, 1, [0], 0, []), (90, .getfield 16, 3, [10, 4, 2], 0, [740]), (93, .bipush 60, 2, [], 60, []), (95, .iload_n 1, 1, [1], 0, []), (96, .imul, 1, [], 0, []), (97, .iload_n 2, 1, [2], 0, []), (98, .iadd, 1, [], 0, []), (99, .iaload, 1, [], 0, []), (100, .i2l, 1, [], 0, []), (101, .lreturn, 1, [], 0, [])]
def hd_X10_cell : List (Nat × List Bool) := []
def me_X10_cell : z_Me := (⟨"StayingGuestsModel", "cell", "(III)J"⟩, prog_12_method_64_code, 4, some .long, cd_X10_cell, hd_X10_cell)
def cd_X10_copy : List z_En := [(0, .aload_n 0, 1, [0], 0, []), (1, .iconst 0, 1, [], 0, []), (2, .putfield 70, 3, [10, 0, 0], 0, [736]), (5, .iload_n 1, 1, [1], 0, []), (6, .invokestatic 89, 3, [109, 1, 3], 0, [852]), (9, .ifCond .eq 10, 3, [19], 0, []), (12, .iload_n 3, 1, [3], 0, []), (13, .invokestatic 89, 3, [109, 1, 3], 0, [852]), (16, .ifCond .ne 5, 3, [21], 0, []), (19, .iconst (-1), 1, [], -1, []), (20, .ireturn, 1, [], 0, []), (21, .aload_n 0, 1, [0], 0, []), (22, .getfield 9, 3, [10, 2, 2], 0, [738]), (25, .iload_n 1, 1, [1], 0, []), (26, .iaload, 1, [], 0, []), (27, .bipush (-9), 2, [], -9, []), (29, .if_icmp .eq 14, 3, [43], 0, []), (32, .aload_n 0, 1, [0], 0, []), (33, .getfield 9, 3, [10, 2, 2], 0, [738]), (36, .iload_n 3, 1, [3], 0, []), (37, .iaload, 1, [], 0, []), (38, .bipush (-9), 2, [], -9, []), (40, .if_icmp .ne 9, 3, [49], 0, []), (43, .aload_n 0, 1, [0], 0, []), (44, .iconst 1, 1, [], 1, []), (45, .invokevirtual 100, 3, [106, 2, 1, 10], 0, [865]), (48, .ireturn, 1, [], 0, []), (49, .aload_n 0, 1, [0], 0, []), (50, .getfield 9, 3, [10, 2, 2], 0, [738]), (53, .iload_n 1, 1, [1], 0, []), (54, .iaload, 1, [], 0, []), (55, .aload_n 0, 1, [0], 0, []), (56, .getfield 9, 3, [10, 2, 2], 0, [738]), (59, .iload_n 3, 1, [3], 0, []), (60, .iaload, 1, [], 0, []), (61, .if_icmp .eq 9, 3, [70], 0, []), (64, .aload_n 0, 1, [0], 0, []), (65, .iconst 2, 1, [], 2, []), (66, .invokevirtual 100, 3, [106, 2, 1, 10], 0, [865]), (69, .ireturn, 1, [], 0, []), (70, .iload_n 2, 1, [2], 0, []), (71, .ifCond .lt 38, 3, [109], 0, []), (74, .iload 4, 2, [4], 0, []), (76, .ifCond .lt 33, 3, [109], 0, []), (79, .iload 5, 2, [5], 0, []), (81, .ifCond .lt 28, 3, [109], 0, []), (84, .iload_n 2, 1, [2], 0, []), (85, .aload_n 0, 1, [0], 0, []), (86, .getfield 13, 3, [10, 3, 2], 0, [739]), (89, .iload_n 1, 1, [1], 0, []), (90, .iaload, 1, [], 0, []), (91, .if_icmp .gt 18, 3, [109], 0, []), (94, .iload 4, 2, [4], 0, []), (96, .aload_n 0, 1, [0], 0, []), (97, .getfield 13, 3, [10, 3, 2], 0, [739]), (100, .iload_n 3, 1, [3], 0, []), (101, .iaload, 1, [], 0, []), (102, .if_icmp .gt 7, 3, [109], 0, []), (105, .iconst 1, 1, [], 1, []), (106, .goto 4, 3, [110], 0, []), (109, .iconst 0, 1, [], 0, []), (110, .istore 6, 2, [6], 0, []), (112, .iload 6, 2, [6], 0, []), (114, .ifCond .eq 30, 3, [144], 0, []), (117, .iload 5, 2, [5], 0, []), (119, .aload_n 0, 1, [0], 0, []), (120, .getfield 13, 3, [10, 3, 2], 0, [739]), (123, .iload_n 1, 1, [1], 0, []), (124, .iaload, 1, [], 0, []), (125, .iload_n 2, 1, [2], 0, []), (126, .isub, 1, [], 0, []), (127, .if_icmp .gt 17, 3, [144], 0, []), (130, .iload 5, 2, [5], 0, []), (132, .aload_n 0, 1, [0], 0, []), (133, .getfield 13, 3, [10, 3, 2], 0, [739]), (136, .iload_n 3, 1, [3], 0, []), (137, .iaload, 1, [], 0, []), (138, .iload 4, 2, [4], 0, []), (140, .isub, 1, [], 0, []), (141, .if_icmp .le 9, 3, [150], 0, []), (144, .aload_n 0, 1, [0], 0, []), (145, .iconst 3, 1, [], 3, []), (146, .invokevirtual 100, 3, [106, 2, 1, 10], 0, [865]), (149, .ireturn, 1, [], 0, []), (150, .iload_n 2, 1, [2], 0, []), (151, .iload 4, 2, [4], 0, []), (153, .if_icmp .ge 7, 3, [160], 0, []), (156, .iconst 1, 1, [], 1, []), (157, .goto 4, 3, [161], 0, []), (160, .iconst 0, 1, [], 0, []), (161, .istore 7, 2, [7], 0, []), (163, .iconst 0, 1, [], 0, []), (164, .istore 8, 2, [8], 0, []), (166, .iload 8, 2, [8], 0, []), (168, .iload 5, 2, [5], 0, []), (170, .if_icmp .ge 57, 3, [227], 0, []), (173, .iload 7, 2, [7], 0, []), (175, .ifCond .eq 13, 3, [188], 0, []), (178, .iload 5, 2, [5], 0, []), (180, .iconst 1, 1, [], 1, []), (181, .isub, 1, [], 0, []), (182, .iload 8, 2, [8], 0, []), (184, .isub, 1, [], 0, []), (185, .goto 5, 3, [190], 0, []), (188, .iload 8, 2, [8], 0, []), (190, .istore 9, 2, [9], 0, []), (192, .aload_n 0, 1, [0], 0, []), (193, .getfield 16, 3, [10, 4, 2], 0, [740]), (196, .bipush 60, 2, [], 60, []), (198, .iload_n 3, 1, [3], 0, []), (199, .imul, 1, [], 0, []), (200, .iload 4, 2, [4], 0, []), (202, .iadd, 1, [], 0, []), (203, .iload 9, 2, [9], 0, []), (205, .iadd, 1, [], 0, []), (206, .aload_n 0, 1, [0], 0, []), (207, .getfield 16, 3, [10, 4, 2], 0, [740]), (210, .bipush 60, 2, [], 60, []), (212, .iload_n 1, 1, [1], 0, []), (213, .imul, 1, [], 0, []), (214, .iload_n 2, 1, [2], 0, []), (215, .iadd, 1, [], 0, []), (216, .iload 9, 2, [9], 0, []), (218, .iadd, 1, [], 0, []), (219, .iaload, 1, [], 0, []), (220, .iastore, 1, [], 0, []), (221, .iinc 8 1, 3, [8], 1, []), (224, .goto (-58), 3, [166], 0, []), (227, .iload 5, 2, [5], 0, []), (229, .ireturn, 1, [], 0, [])]
def hd_X10_copy : List (Nat × List Bool) := [(110, [true, true, true, true, true, true, false, false, false, false]), (166, [true, true, true, true, true, true, false, true, true, false])]
def me_X10_copy : z_Me := (⟨"StayingGuestsModel", "copy", "(IIIII)I"⟩, prog_12_method_65_code, 10, some .int, cd_X10_copy, hd_X10_copy)
def cd_X10_begins : List z_En := [(0, .aload_n 0, 1, [0], 0, []), (1, .bipush 31, 2, [], 31, []), (3, .aload_n 0, 1, [0], 0, []), (4, .getfield 243, 3, [10, 1, 0], 0, [737]), (7, .imul, 1, [], 0, []), (8, .iload_n 1, 1, [1], 0, []), (9, .iadd, 1, [], 0, []), (10, .putfield 243, 3, [10, 1, 0], 0, [737]), (13, .return_, 1, [], 0, [])]
def hd_X10_begins : List (Nat × List Bool) := []
def me_X10_begins : z_Me := (⟨"StayingGuestsModel", "begins", "(I)V"⟩, prog_12_method_66_code, 2, none, cd_X10_begins, hd_X10_begins)
def cd_X10_tell : List z_En := [(0, .aload_n 0, 1, [0], 0, []), (1, .iload_n 1, 1, [1], 0, []), (2, .invokevirtual 142, 3, [113, 2, 3, 10], 0, [897]), (5, .ifCond .ne 5, 3, [10], 0, []), (8, .iconst (-1), 1, [], -1, []), (9, .ireturn, 1, [], 0, []), (10, .aload_n 0, 1, [0], 0, []), (11, .getfield 25, 3, [10, 12, 2], 0, [748]), (14, .iload_n 1, 1, [1], 0, []), (15, .iaload, 1, [], 0, []), (16, .istore_n 2, 1, [2], 0, []), (17, .aload_n 0, 1, [0], 0, []), (18, .getfield 22, 3, [10, 11, 2], 0, [747]), (21, .iload_n 1, 1, [1], 0, []), (22, .iaload, 1, [], 0, []), (23, .lookupswitch 67 #[(1, 25), (2, 40)], 25, [90, 1, 48, 2, 63], 0, []), (48, .aload_n 0, 1, [0], 0, []), (49, .iconst 2, 1, [], 2, []), (50, .invokevirtual 246, 3, [169, 2, 0, 10], 0, [1097]), (53, .aload_n 0, 1, [0], 0, []), (54, .iconst 1, 1, [], 1, []), (55, .invokevirtual 246, 3, [169, 2, 0, 10], 0, [1097]), (58, .iload_n 2, 1, [2], 0, []), (59, .bipush 100, 2, [], 100, []), (61, .iadd, 1, [], 0, []), (62, .ireturn, 1, [], 0, []), (63, .aload_n 0, 1, [0], 0, []), (64, .iconst 3, 1, [], 3, []), (65, .invokevirtual 246, 3, [169, 2, 0, 10], 0, [1097]), (68, .aload_n 0, 1, [0], 0, []), (69, .iconst 2, 1, [], 2, []), (70, .invokevirtual 246, 3, [169, 2, 0, 10], 0, [1097]), (73, .aload_n 0, 1, [0], 0, []), (74, .iconst 1, 1, [], 1, []), (75, .invokevirtual 246, 3, [169, 2, 0, 10], 0, [1097]), (78, .aload_n 0, 1, [0], 0, []), (79, .iconst 1, 1, [], 1, []), (80, .invokevirtual 246, 3, [169, 2, 0, 10], 0, [1097]), (83, .iconst 2, 1, [], 2, []), (84, .iload_n 2, 1, [2], 0, []), (85, .imul, 1, [], 0, []), (86, .bipush 100, 2, [], 100, []), (88, .iadd, 1, [], 0, []), (89, .ireturn, 1, [], 0, []), (90, .aload_n 0, 1, [0], 0, []), (91, .iconst 1, 1, [], 1, []), (92, .invokevirtual 246, 3, [169, 2, 0, 10], 0, [1097]), (95, .iload_n 2, 1, [2], 0, []), (96, .ireturn, 1, [], 0, [])]
def hd_X10_tell : List (Nat × List Bool) := []
def me_X10_tell : z_Me := (⟨"StayingGuestsModel", "tell", "(I)I"⟩, prog_12_method_67_code, 3, some .int, cd_X10_tell, hd_X10_tell)
def cd_X10_bow : List z_En := [(0, .aload_n 0, 1, [0], 0, []), (1, .iload_n 1, 1, [1], 0, []), (2, .invokevirtual 142, 3, [113, 2, 3, 10], 0, [897]), (5, .ifCond .ne 5, 3, [10], 0, []), (8, .iconst (-1), 1, [], -1, []), (9, .ireturn, 1, [], 0, []), (10, .aload_n 0, 1, [0], 0, []), (11, .aload_n 0, 1, [0], 0, []), (12, .getfield 22, 3, [10, 11, 2], 0, [747]), (15, .iload_n 1, 1, [1], 0, []), (16, .iaload, 1, [], 0, []), (17, .iconst 2, 1, [], 2, []), (18, .if_icmp .ne 7, 3, [25], 0, []), (21, .iconst 5, 1, [], 5, []), (22, .goto 4, 3, [26], 0, []), (25, .iconst 4, 1, [], 4, []), (26, .invokevirtual 246, 3, [169, 2, 0, 10], 0, [1097]), (29, .aload_n 0, 1, [0], 0, []), (30, .getfield 22, 3, [10, 11, 2], 0, [747]), (33, .iload_n 1, 1, [1], 0, []), (34, .iaload, 1, [], 0, []), (35, .iconst 2, 1, [], 2, []), (36, .if_icmp .ne 8, 3, [44], 0, []), (39, .bipush 70, 2, [], 70, []), (41, .goto 9, 3, [50], 0, []), (44, .aload_n 0, 1, [0], 0, []), (45, .getfield 31, 3, [10, 14, 2], 0, [750]), (48, .iload_n 1, 1, [1], 0, []), (49, .iaload, 1, [], 0, []), (50, .ireturn, 1, [], 0, [])]
def hd_X10_bow : List (Nat × List Bool) := []
def me_X10_bow : z_Me := (⟨"StayingGuestsModel", "bow", "(I)I"⟩, prog_12_method_68_code, 2, some .int, cd_X10_bow, hd_X10_bow)
def cd_X10_as : List z_En := [(0, .aload_n 0, 1, [0], 0, []), (1, .iconst 0, 1, [], 0, []), (2, .putfield 70, 3, [10, 0, 0], 0, [736]), (5, .aload_n 0, 1, [0], 0, []), (6, .iload_n 1, 1, [1], 0, []), (7, .invokevirtual 142, 3, [113, 2, 3, 10], 0, [897]), (10, .ifCond .ne 5, 3, [15], 0, []), (13, .iconst (-1), 1, [], -1, []), (14, .ireturn, 1, [], 0, []), (15, .iload_n 2, 1, [2], 0, []), (16, .iconst 0, 1, [], 0, []), (17, .iconst 2, 1, [], 2, []), (18, .invokestatic 76, 3, [108, 3, 3], 0, [855]), (21, .ifCond .ne 6, 3, [27], 0, []), (24, .bipush (-2), 2, [], -2, []), (26, .ireturn, 1, [], 0, []), (27, .aload_n 0, 1, [0], 0, []), (28, .getfield 22, 3, [10, 11, 2], 0, [747]), (31, .iload_n 1, 1, [1], 0, []), (32, .iaload, 1, [], 0, []), (33, .iload_n 2, 1, [2], 0, []), (34, .if_icmp .lt 7, 3, [41], 0, []), (37, .iconst 1, 1, [], 1, []), (38, .goto 8, 3, [46], 0, []), (41, .aload_n 0, 1, [0], 0, []), (42, .iconst 2, 1, [], 2, []), (43, .invokevirtual 100, 3, [106, 2, 1, 10], 0, [865]), (46, .ireturn, 1, [], 0, [])]
def hd_X10_as : List (Nat × List Bool) := []
def me_X10_as : z_Me := (⟨"StayingGuestsModel", "as", "(II)I"⟩, prog_12_method_69_code, 3, some .int, cd_X10_as, hd_X10_as)
def cd_X10_trace : List z_En := [(0, .aload_n 0, 1, [0], 0, []), (1, .getfield 243, 3, [10, 1, 0], 0, [737]), (4, .ireturn, 1, [], 0, [])]
def hd_X10_trace : List (Nat × List Bool) := []
def me_X10_trace : z_Me := (⟨"StayingGuestsModel", "trace", "()I"⟩, prog_12_method_70_code, 1, some .int, cd_X10_trace, hd_X10_trace)
def cd_X10_fault : List z_En := [(0, .aload_n 0, 1, [0], 0, []), (1, .getfield 70, 3, [10, 0, 0], 0, [736]), (4, .ireturn, 1, [], 0, [])]
def hd_X10_fault : List (Nat × List Bool) := []
def me_X10_fault : z_Me := (⟨"StayingGuestsModel", "fault", "()I"⟩, prog_12_method_71_code, 1, some .int, cd_X10_fault, hd_X10_fault)
def cd_X10_many : List z_En := [(0, .iload_n 1, 1, [1], 0, []), (1, .tableswitch 63 0 4 #[35, 40, 45, 50, 58], 35, [64, 0, 36, 1, 41, 2, 46, 3, 51, 4, 59], 0, []), (36, .aload_n 0, 1, [0], 0, []), (37, .getfield 83, 3, [10, 6, 0], 0, [742]), (40, .ireturn, 1, [], 0, []), (41, .aload_n 0, 1, [0], 0, []), (42, .getfield 80, 3, [10, 5, 0], 0, [741]), (45, .ireturn, 1, [], 0, []), (46, .aload_n 0, 1, [0], 0, []), (47, .getfield 116, 3, [10, 7, 0], 0, [743]), (50, .ireturn, 1, [], 0, []), (51, .aload_n 0, 1, [0], 0, []), (52, .getfield 119, 3, [10, 8, 0], 0, [744]), (55, .invokestatic 210, 3, [116, 1, 1], 0, [1018]), (58, .ireturn, 1, [], 0, []), (59, .aload_n 0, 1, [0], 0, []), (60, .getfield 125, 3, [10, 33, 0], 0, [769]), (63, .ireturn, 1, [], 0, []), (64, .bipush (-2), 2, [], -2, []), (66, .ireturn, 1, [], 0, [])]
def hd_X10_many : List (Nat × List Bool) := []
def me_X10_many : z_Me := (⟨"StayingGuestsModel", "many", "(I)I"⟩, prog_12_method_72_code, 2, some .int, cd_X10_many, hd_X10_many)
def cd_L_law : List z_En := [(0, .new 7, 3, [9], 0, [67, 68, 53]), (3, .dup, 1, [], 0, []), (4, .invokespecial 9, 3, [61], 0, [69]), (7, .astore_n 1, 1, [1], 0, []), (8, .new 10, 3, [10], 0, [730, 731, 63]), (11, .dup, 1, [], 0, []), (12, .invokespecial 12, 3, [105], 0, [732]), (15, .astore_n 2, 1, [2], 0, []), (16, .iconst 0, 1, [], 0, []), (17, .istore_n 3, 1, [3], 0, []), (18, .iload_n 3, 1, [3], 0, []), (19, .aload_n 0, 1, [0], 0, []), (20, .arraylength, 1, [], 0, []), (21, .bipush 6, 2, [], 6, []), (23, .isub, 1, [], 0, []), (24, .if_icmp .gt 1196, 3, [1220], 0, []), (27, .aload_n 0, 1, [0], 0, []), (28, .iload_n 3, 1, [3], 0, []), (29, .iaload, 1, [1], 0, []), (30, .bipush 31, 2, [], 31, []), (32, .iand, 1, [], 0, []), (33, .tableswitch 1181 0 31 #[143, 196, 229, 252, 285, 318, 351, 384, 407, 460, 483, 546, 579, 622, 645, 668, 711, 734, 757, 780, 803, 837, 880, 903, 946, 990, 1053, 1076, 1099, 1132, 1145, 1158], 143, [1214, 0, 176, 1, 229, 2, 262, 3, 285, 4, 318, 5, 351, 6, 384, 7, 417, 8, 440, 9, 493, 10, 516, 11, 579, 12, 612, 13, 655, 14, 678, 15, 701, 16, 744, 17, 767, 18, 790, 19, 813, 20, 836, 21, 870, 22, 913, 23, 936, 24, 979, 25, 1023, 26, 1086, 27, 1109, 28, 1132, 29, 1165, 30, 1178, 31, 1191], 0, []), (176, .aload_n 1, 1, [1], 0, []), (177, .aload_n 0, 1, [0], 0, []), (178, .iload_n 3, 1, [3], 0, []), (179, .iconst 1, 1, [], 1, []), (180, .iadd, 1, [], 0, []), (181, .iaload, 1, [1], 0, []), (182, .aload_n 0, 1, [0], 0, []), (183, .iload_n 3, 1, [3], 0, []), (184, .iconst 2, 1, [], 2, []), (185, .iadd, 1, [], 0, []), (186, .iaload, 1, [1], 0, []), (187, .aload_n 0, 1, [0], 0, []), (188, .iload_n 3, 1, [3], 0, []), (189, .iconst 3, 1, [], 3, []), (190, .iadd, 1, [], 0, []), (191, .iaload, 1, [1], 0, []), (192, .aload_n 0, 1, [0], 0, []), (193, .iload_n 3, 1, [3], 0, []), (194, .iconst 4, 1, [], 4, []), (195, .iadd, 1, [], 0, []), (196, .iaload, 1, [1], 0, []), (197, .invokevirtual 13, 3, [62, 5, 1, 9], 0, [329]), (200, .aload_n 2, 1, [2], 0, []), (201, .aload_n 0, 1, [0], 0, []), (202, .iload_n 3, 1, [3], 0, []), (203, .iconst 1, 1, [], 1, []), (204, .iadd, 1, [], 0, []), (205, .iaload, 1, [1], 0, []), (206, .aload_n 0, 1, [0], 0, []), (207, .iload_n 3, 1, [3], 0, []), (208, .iconst 2, 1, [], 2, []), (209, .iadd, 1, [], 0, []), (210, .iaload, 1, [1], 0, []), (211, .aload_n 0, 1, [0], 0, []), (212, .iload_n 3, 1, [3], 0, []), (213, .iconst 3, 1, [], 3, []), (214, .iadd, 1, [], 0, []), (215, .iaload, 1, [1], 0, []), (216, .aload_n 0, 1, [0], 0, []), (217, .iload_n 3, 1, [3], 0, []), (218, .iconst 4, 1, [], 4, []), (219, .iadd, 1, [], 0, []), (220, .iaload, 1, [1], 0, []), (221, .invokevirtual 17, 3, [119, 5, 1, 10], 0, [848]), (224, .if_icmp .eq 990, 3, [1214], 0, []), (227, .iconst 0, 1, [], 0, []), (228, .ireturn, 1, [], 0, []), (229, .aload_n 1, 1, [1], 0, []), (230, .aload_n 0, 1, [0], 0, []), (231, .iload_n 3, 1, [3], 0, []), (232, .iconst 1, 1, [], 1, []), (233, .iadd, 1, [], 0, []), (234, .iaload, 1, [1], 0, []), (235, .aload_n 0, 1, [0], 0, []), (236, .iload_n 3, 1, [3], 0, []), (237, .iconst 2, 1, [], 2, []), (238, .iadd, 1, [], 0, []), (239, .iaload, 1, [1], 0, []), (240, .invokevirtual 18, 3, [63, 3, 1, 9], 0, [392]), (243, .aload_n 2, 1, [2], 0, []), (244, .aload_n 0, 1, [0], 0, []), (245, .iload_n 3, 1, [3], 0, []), (246, .iconst 1, 1, [], 1, []), (247, .iadd, 1, [], 0, []), (248, .iaload, 1, [1], 0, []), (249, .aload_n 0, 1, [0], 0, []), (250, .iload_n 3, 1, [3], 0, []), (251, .iconst 2, 1, [], 2, []), (252, .iadd, 1, [], 0, []), (253, .iaload, 1, [1], 0, []), (254, .invokevirtual 22, 3, [125, 3, 1, 10], 0, [893]), (257, .if_icmp .eq 957, 3, [1214], 0, []), (260, .iconst 0, 1, [], 0, []), (261, .ireturn, 1, [], 0, []), (262, .aload_n 1, 1, [1], 0, []), (263, .aload_n 0, 1, [0], 0, []), (264, .iload_n 3, 1, [3], 0, []), (265, .iconst 1, 1, [], 1, []), (266, .iadd, 1, [], 0, []), (267, .iaload, 1, [1], 0, []), (268, .invokevirtual 23, 3, [64, 2, 1, 9], 0, [400]), (271, .aload_n 2, 1, [2], 0, []), (272, .aload_n 0, 1, [0], 0, []), (273, .iload_n 3, 1, [3], 0, []), (274, .iconst 1, 1, [], 1, []), (275, .iadd, 1, [], 0, []), (276, .iaload, 1, [1], 0, []), (277, .invokevirtual 27, 3, [126, 2, 1, 10], 0, [901]), (280, .if_icmp .eq 934, 3, [1214], 0, []), (283, .iconst 0, 1, [], 0, []), (284, .ireturn, 1, [], 0, []), (285, .aload_n 1, 1, [1], 0, []), (286, .aload_n 0, 1, [0], 0, []), (287, .iload_n 3, 1, [3], 0, []), (288, .iconst 1, 1, [], 1, []), (289, .iadd, 1, [], 0, []), (290, .iaload, 1, [1], 0, []), (291, .aload_n 0, 1, [0], 0, []), (292, .iload_n 3, 1, [3], 0, []), (293, .iconst 2, 1, [], 2, []), (294, .iadd, 1, [], 0, []), (295, .iaload, 1, [1], 0, []), (296, .invokevirtual 28, 3, [65, 3, 1, 9], 0, [408]), (299, .aload_n 2, 1, [2], 0, []), (300, .aload_n 0, 1, [0], 0, []), (301, .iload_n 3, 1, [3], 0, []), (302, .iconst 1, 1, [], 1, []), (303, .iadd, 1, [], 0, []), (304, .iaload, 1, [1], 0, []), (305, .aload_n 0, 1, [0], 0, []), (306, .iload_n 3, 1, [3], 0, []), (307, .iconst 2, 1, [], 2, []), (308, .iadd, 1, [], 0, []), (309, .iaload, 1, [1], 0, []), (310, .invokevirtual 31, 3, [127, 3, 1, 10], 0, [909]), (313, .if_icmp .eq 901, 3, [1214], 0, []), (316, .iconst 0, 1, [], 0, []), (317, .ireturn, 1, [], 0, []), (318, .aload_n 1, 1, [1], 0, []), (319, .aload_n 0, 1, [0], 0, []), (320, .iload_n 3, 1, [3], 0, []), (321, .iconst 1, 1, [], 1, []), (322, .iadd, 1, [], 0, []), (323, .iaload, 1, [1], 0, []), (324, .aload_n 0, 1, [0], 0, []), (325, .iload_n 3, 1, [3], 0, []), (326, .iconst 2, 1, [], 2, []), (327, .iadd, 1, [], 0, []), (328, .iaload, 1, [1], 0, []), (329, .invokevirtual 32, 3, [66, 3, 1, 9], 0, [412]), (332, .aload_n 2, 1, [2], 0, []), (333, .aload_n 0, 1, [0], 0, []), (334, .iload_n 3, 1, [3], 0, []), (335, .iconst 1, 1, [], 1, []), (336, .iadd, 1, [], 0, []), (337, .iaload, 1, [1], 0, []), (338, .aload_n 0, 1, [0], 0, []), (339, .iload_n 3, 1, [3], 0, []), (340, .iconst 2, 1, [], 2, []), (341, .iadd, 1, [], 0, []), (342, .iaload, 1, [1], 0, []), (343, .invokevirtual 35, 3, [128, 3, 1, 10], 0, [913]), (346, .if_icmp .eq 868, 3, [1214], 0, []), (349, .iconst 0, 1, [], 0, []), (350, .ireturn, 1, [], 0, []), (351, .aload_n 1, 1, [1], 0, []), (352, .aload_n 0, 1, [0], 0, []), (353, .iload_n 3, 1, [3], 0, []), (354, .iconst 1, 1, [], 1, []), (355, .iadd, 1, [], 0, []), (356, .iaload, 1, [1], 0, []), (357, .aload_n 0, 1, [0], 0, []), (358, .iload_n 3, 1, [3], 0, []), (359, .iconst 2, 1, [], 2, []), (360, .iadd, 1, [], 0, []), (361, .iaload, 1, [1], 0, []), (362, .invokevirtual 36, 3, [67, 3, 1, 9], 0, [420]), (365, .aload_n 2, 1, [2], 0, []), (366, .aload_n 0, 1, [0], 0, []), (367, .iload_n 3, 1, [3], 0, []), (368, .iconst 1, 1, [], 1, []), (369, .iadd, 1, [], 0, []), (370, .iaload, 1, [1], 0, []), (371, .aload_n 0, 1, [0], 0, []), (372, .iload_n 3, 1, [3], 0, []), (373, .iconst 2, 1, [], 2, []), (374, .iadd, 1, [], 0, []), (375, .iaload, 1, [1], 0, []), (376, .invokevirtual 39, 3, [129, 3, 1, 10], 0, [921]), (379, .if_icmp .eq 835, 3, [1214], 0, []), (382, .iconst 0, 1, [], 0, []), (383, .ireturn, 1, [], 0, []), (384, .aload_n 1, 1, [1], 0, []), (385, .aload_n 0, 1, [0], 0, []), (386, .iload_n 3, 1, [3], 0, []), (387, .iconst 1, 1, [], 1, []), (388, .iadd, 1, [], 0, []), (389, .iaload, 1, [1], 0, []), (390, .aload_n 0, 1, [0], 0, []), (391, .iload_n 3, 1, [3], 0, []), (392, .iconst 2, 1, [], 2, []), (393, .iadd, 1, [], 0, []), (394, .iaload, 1, [1], 0, []), (395, .invokevirtual 40, 3, [68, 3, 1, 9], 0, [424]), (398, .aload_n 2, 1, [2], 0, []), (399, .aload_n 0, 1, [0], 0, []), (400, .iload_n 3, 1, [3], 0, []), (401, .iconst 1, 1, [], 1, []), (402, .iadd, 1, [], 0, []), (403, .iaload, 1, [1], 0, []), (404, .aload_n 0, 1, [0], 0, []), (405, .iload_n 3, 1, [3], 0, []), (406, .iconst 2, 1, [], 2, []), (407, .iadd, 1, [], 0, []), (408, .iaload, 1, [1], 0, []), (409, .invokevirtual 43, 3, [133, 3, 1, 10], 0, [928]), (412, .if_icmp .eq 802, 3, [1214], 0, []), (415, .iconst 0, 1, [], 0, []), (416, .ireturn, 1, [], 0, []), (417, .aload_n 1, 1, [1], 0, []), (418, .aload_n 0, 1, [0], 0, []), (419, .iload_n 3, 1, [3], 0, []), (420, .iconst 1, 1, [], 1, []), (421, .iadd, 1, [], 0, []), (422, .iaload, 1, [1], 0, []), (423, .invokevirtual 44, 3, [69, 2, 1, 9], 0, [453]), (426, .aload_n 2, 1, [2], 0, []), (427, .aload_n 0, 1, [0], 0, []), (428, .iload_n 3, 1, [3], 0, []), (429, .iconst 1, 1, [], 1, []), (430, .iadd, 1, [], 0, []), (431, .iaload, 1, [1], 0, []), (432, .invokevirtual 47, 3, [135, 2, 1, 10], 0, [947]), (435, .if_icmp .eq 779, 3, [1214], 0, []), (438, .iconst 0, 1, [], 0, []), (439, .ireturn, 1, [], 0, []), (440, .aload_n 1, 1, [1], 0, []), (441, .aload_n 0, 1, [0], 0, []), (442, .iload_n 3, 1, [3], 0, []), (443, .iconst 1, 1, [], 1, []), (444, .iadd, 1, [], 0, []), (445, .iaload, 1, [1], 0, []), (446, .aload_n 0, 1, [0], 0, []), (447, .iload_n 3, 1, [3], 0, []), (448, .iconst 2, 1, [], 2, []), (449, .iadd, 1, [], 0, []), (450, .iaload, 1, [1], 0, []), (451, .aload_n 0, 1, [0], 0, []), (452, .iload_n 3, 1, [3], 0, []), (453, .iconst 3, 1, [], 3, []), (454, .iadd, 1, [], 0, []), (455, .iaload, 1, [1], 0, []), (456, .aload_n 0, 1, [0], 0, []), (457, .iload_n 3, 1, [3], 0, []), (458, .iconst 4, 1, [], 4, []), (459, .iadd, 1, [], 0, []), (460, .iaload, 1, [1], 0, []), (461, .invokevirtual 48, 3, [70, 5, 1, 9], 0, [472]), (464, .aload_n 2, 1, [2], 0, []), (465, .aload_n 0, 1, [0], 0, []), (466, .iload_n 3, 1, [3], 0, []), (467, .iconst 1, 1, [], 1, []), (468, .iadd, 1, [], 0, []), (469, .iaload, 1, [1], 0, []), (470, .aload_n 0, 1, [0], 0, []), (471, .iload_n 3, 1, [3], 0, []), (472, .iconst 2, 1, [], 2, []), (473, .iadd, 1, [], 0, []), (474, .iaload, 1, [1], 0, []), (475, .aload_n 0, 1, [0], 0, []), (476, .iload_n 3, 1, [3], 0, []), (477, .iconst 3, 1, [], 3, []), (478, .iadd, 1, [], 0, []), (479, .iaload, 1, [1], 0, []), (480, .aload_n 0, 1, [0], 0, []), (481, .iload_n 3, 1, [3], 0, []), (482, .iconst 4, 1, [], 4, []), (483, .iadd, 1, [], 0, []), (484, .iaload, 1, [1], 0, []), (485, .invokevirtual 51, 3, [136, 5, 1, 10], 0, [955]), (488, .if_icmp .eq 726, 3, [1214], 0, []), (491, .iconst 0, 1, [], 0, []), (492, .ireturn, 1, [], 0, []), (493, .aload_n 1, 1, [1], 0, []), (494, .aload_n 0, 1, [0], 0, []), (495, .iload_n 3, 1, [3], 0, []), (496, .iconst 1, 1, [], 1, []), (497, .iadd, 1, [], 0, []), (498, .iaload, 1, [1], 0, []), (499, .invokevirtual 52, 3, [71, 2, 1, 9], 0, [477]), (502, .aload_n 2, 1, [2], 0, []), (503, .aload_n 0, 1, [0], 0, []), (504, .iload_n 3, 1, [3], 0, []), (505, .iconst 1, 1, [], 1, []), (506, .iadd, 1, [], 0, []), (507, .iaload, 1, [1], 0, []), (508, .invokevirtual 55, 3, [138, 2, 1, 10], 0, [959]), (511, .if_icmp .eq 703, 3, [1214], 0, []), (514, .iconst 0, 1, [], 0, []), (515, .ireturn, 1, [], 0, []), (516, .aload_n 1, 1, [1], 0, []), (517, .aload_n 0, 1, [0], 0, []), (518, .iload_n 3, 1, [3], 0, []), (519, .iconst 1, 1, [], 1, []), (520, .iadd, 1, [], 0, []), (521, .iaload, 1, [1], 0, []), (522, .aload_n 0, 1, [0], 0, []), (523, .iload_n 3, 1, [3], 0, []), (524, .iconst 2, 1, [], 2, []), (525, .iadd, 1, [], 0, []), (526, .iaload, 1, [1], 0, []), (527, .aload_n 0, 1, [0], 0, []), (528, .iload_n 3, 1, [3], 0, []), (529, .iconst 3, 1, [], 3, []), (530, .iadd, 1, [], 0, []), (531, .iaload, 1, [1], 0, []), (532, .aload_n 0, 1, [0], 0, []), (533, .iload_n 3, 1, [3], 0, []), (534, .iconst 4, 1, [], 4, []), (535, .iadd, 1, [], 0, []), (536, .iaload, 1, [1], 0, []), (537, .aload_n 0, 1, [0], 0, []), (538, .iload_n 3, 1, [3], 0, []), (539, .iconst 5, 1, [], 5, []), (540, .iadd, 1, [], 0, []), (541, .iaload, 1, [1], 0, []), (542, .invokevirtual 56, 3, [72, 6, 1, 9], 0, [485]), (545, .aload_n 2, 1, [2], 0, []), (546, .aload_n 0, 1, [0], 0, []), (547, .iload_n 3, 1, [3], 0, []), (548, .iconst 1, 1, [], 1, []), (549, .iadd, 1, [], 0, []), (550, .iaload, 1, [1], 0, []), (551, .aload_n 0, 1, [0], 0, []), (552, .iload_n 3, 1, [3], 0, []), (553, .iconst 2, 1, [], 2, []), (554, .iadd, 1, [], 0, []), (555, .iaload, 1, [1], 0, []), (556, .aload_n 0, 1, [0], 0, []), (557, .iload_n 3, 1, [3], 0, []), (558, .iconst 3, 1, [], 3, []), (559, .iadd, 1, [], 0, []), (560, .iaload, 1, [1], 0, []), (561, .aload_n 0, 1, [0], 0, []), (562, .iload_n 3, 1, [3], 0, []), (563, .iconst 4, 1, [], 4, []), (564, .iadd, 1, [], 0, []), (565, .iaload, 1, [1], 0, []), (566, .aload_n 0, 1, [0], 0, []), (567, .iload_n 3, 1, [3], 0, []), (568, .iconst 5, 1, [], 5, []), (569, .iadd, 1, [], 0, []), (570, .iaload, 1, [1], 0, []), (571, .invokevirtual 60, 3, [144, 6, 1, 10], 0, [966]), (574, .if_icmp .eq 640, 3, [1214], 0, []), (577, .iconst 0, 1, [], 0, []), (578, .ireturn, 1, [], 0, []), (579, .aload_n 1, 1, [1], 0, []), (580, .aload_n 0, 1, [0], 0, []), (581, .iload_n 3, 1, [3], 0, []), (582, .iconst 1, 1, [], 1, []), (583, .iadd, 1, [], 0, []), (584, .iaload, 1, [1], 0, []), (585, .aload_n 0, 1, [0], 0, []), (586, .iload_n 3, 1, [3], 0, []), (587, .iconst 2, 1, [], 2, []), (588, .iadd, 1, [], 0, []), (589, .iaload, 1, [1], 0, []), (590, .invokevirtual 61, 3, [73, 3, 1, 9], 0, [530]), (593, .aload_n 2, 1, [2], 0, []), (594, .aload_n 0, 1, [0], 0, []), (595, .iload_n 3, 1, [3], 0, []), (596, .iconst 1, 1, [], 1, []), (597, .iadd, 1, [], 0, []), (598, .iaload, 1, [1], 0, []), (599, .aload_n 0, 1, [0], 0, []), (600, .iload_n 3, 1, [3], 0, []), (601, .iconst 2, 1, [], 2, []), (602, .iadd, 1, [], 0, []), (603, .iaload, 1, [1], 0, []), (604, .invokevirtual 64, 3, [148, 3, 1, 10], 0, [994]), (607, .if_icmp .eq 607, 3, [1214], 0, []), (610, .iconst 0, 1, [], 0, []), (611, .ireturn, 1, [], 0, []), (612, .aload_n 1, 1, [1], 0, []), (613, .aload_n 0, 1, [0], 0, []), (614, .iload_n 3, 1, [3], 0, []), (615, .iconst 1, 1, [], 1, []), (616, .iadd, 1, [], 0, []), (617, .iaload, 1, [1], 0, []), (618, .aload_n 0, 1, [0], 0, []), (619, .iload_n 3, 1, [3], 0, []), (620, .iconst 2, 1, [], 2, []), (621, .iadd, 1, [], 0, []), (622, .iaload, 1, [1], 0, []), (623, .aload_n 0, 1, [0], 0, []), (624, .iload_n 3, 1, [3], 0, []), (625, .iconst 3, 1, [], 3, []), (626, .iadd, 1, [], 0, []), (627, .iaload, 1, [1], 0, []), (628, .invokevirtual 65, 3, [74, 4, 1, 9], 0, [556]), (631, .aload_n 2, 1, [2], 0, []), (632, .aload_n 0, 1, [0], 0, []), (633, .iload_n 3, 1, [3], 0, []), (634, .iconst 1, 1, [], 1, []), (635, .iadd, 1, [], 0, []), (636, .iaload, 1, [1], 0, []), (637, .aload_n 0, 1, [0], 0, []), (638, .iload_n 3, 1, [3], 0, []), (639, .iconst 2, 1, [], 2, []), (640, .iadd, 1, [], 0, []), (641, .iaload, 1, [1], 0, []), (642, .aload_n 0, 1, [0], 0, []), (643, .iload_n 3, 1, [3], 0, []), (644, .iconst 3, 1, [], 3, []), (645, .iadd, 1, [], 0, []), (646, .iaload, 1, [1], 0, []), (647, .invokevirtual 69, 3, [149, 4, 1, 10], 0, [1006]), (650, .if_icmp .eq 564, 3, [1214], 0, []), (653, .iconst 0, 1, [], 0, []), (654, .ireturn, 1, [], 0, []), (655, .aload_n 1, 1, [1], 0, []), (656, .aload_n 0, 1, [0], 0, []), (657, .iload_n 3, 1, [3], 0, []), (658, .iconst 1, 1, [], 1, []), (659, .iadd, 1, [], 0, []), (660, .iaload, 1, [1], 0, []), (661, .invokevirtual 70, 3, [75, 2, 1, 9], 0, [568]), (664, .aload_n 2, 1, [2], 0, []), (665, .aload_n 0, 1, [0], 0, []), (666, .iload_n 3, 1, [3], 0, []), (667, .iconst 1, 1, [], 1, []), (668, .iadd, 1, [], 0, []), (669, .iaload, 1, [1], 0, []), (670, .invokevirtual 73, 3, [152, 2, 1, 10], 0, [1010]), (673, .if_icmp .eq 541, 3, [1214], 0, []), (676, .iconst 0, 1, [], 0, []), (677, .ireturn, 1, [], 0, []), (678, .aload_n 1, 1, [1], 0, []), (679, .aload_n 0, 1, [0], 0, []), (680, .iload_n 3, 1, [3], 0, []), (681, .iconst 1, 1, [], 1, []), (682, .iadd, 1, [], 0, []), (683, .iaload, 1, [1], 0, []), (684, .invokevirtual 74, 3, [76, 2, 1, 9], 0, [587]), (687, .aload_n 2, 1, [2], 0, []), (688, .aload_n 0, 1, [0], 0, []), (689, .iload_n 3, 1, [3], 0, []), (690, .iconst 1, 1, [], 1, []), (691, .iadd, 1, [], 0, []), (692, .iaload, 1, [1], 0, []), (693, .invokevirtual 77, 3, [155, 2, 1, 10], 0, [1025]), (696, .if_icmp .eq 518, 3, [1214], 0, []), (699, .iconst 0, 1, [], 0, []), (700, .ireturn, 1, [], 0, []), (701, .aload_n 1, 1, [1], 0, []), (702, .aload_n 0, 1, [0], 0, []), (703, .iload_n 3, 1, [3], 0, []), (704, .iconst 1, 1, [], 1, []), (705, .iadd, 1, [], 0, []), (706, .iaload, 1, [1], 0, []), (707, .aload_n 0, 1, [0], 0, []), (708, .iload_n 3, 1, [3], 0, []), (709, .iconst 2, 1, [], 2, []), (710, .iadd, 1, [], 0, []), (711, .iaload, 1, [1], 0, []), (712, .aload_n 0, 1, [0], 0, []), (713, .iload_n 3, 1, [3], 0, []), (714, .iconst 3, 1, [], 3, []), (715, .iadd, 1, [], 0, []), (716, .iaload, 1, [1], 0, []), (717, .invokevirtual 78, 3, [77, 4, 1, 9], 0, [610]), (720, .aload_n 2, 1, [2], 0, []), (721, .aload_n 0, 1, [0], 0, []), (722, .iload_n 3, 1, [3], 0, []), (723, .iconst 1, 1, [], 1, []), (724, .iadd, 1, [], 0, []), (725, .iaload, 1, [1], 0, []), (726, .aload_n 0, 1, [0], 0, []), (727, .iload_n 3, 1, [3], 0, []), (728, .iconst 2, 1, [], 2, []), (729, .iadd, 1, [], 0, []), (730, .iaload, 1, [1], 0, []), (731, .aload_n 0, 1, [0], 0, []), (732, .iload_n 3, 1, [3], 0, []), (733, .iconst 3, 1, [], 3, []), (734, .iadd, 1, [], 0, []), (735, .iaload, 1, [1], 0, []), (736, .invokevirtual 81, 3, [156, 4, 1, 10], 0, [1037]), (739, .if_icmp .eq 475, 3, [1214], 0, []), (742, .iconst 0, 1, [], 0, []), (743, .ireturn, 1, [], 0, []), (744, .aload_n 1, 1, [1], 0, []), (745, .aload_n 0, 1, [0], 0, []), (746, .iload_n 3, 1, [3], 0, []), (747, .iconst 1, 1, [], 1, []), (748, .iadd, 1, [], 0, []), (749, .iaload, 1, [1], 0, []), (750, .invokevirtual 82, 3, [78, 2, 1, 9], 0, [618]), (753, .aload_n 2, 1, [2], 0, []), (754, .aload_n 0, 1, [0], 0, []), (755, .iload_n 3, 1, [3], 0, []), (756, .iconst 1, 1, [], 1, []), (757, .iadd, 1, [], 0, []), (758, .iaload, 1, [1], 0, []), (759, .invokevirtual 85, 3, [157, 2, 1, 10], 0, [1041]), (762, .if_icmp .eq 452, 3, [1214], 0, []), (765, .iconst 0, 1, [], 0, []), (766, .ireturn, 1, [], 0, []), (767, .aload_n 1, 1, [1], 0, []), (768, .aload_n 0, 1, [0], 0, []), (769, .iload_n 3, 1, [3], 0, []), (770, .iconst 1, 1, [], 1, []), (771, .iadd, 1, [], 0, []), (772, .iaload, 1, [1], 0, []), (773, .invokevirtual 86, 3, [79, 2, 1, 9], 0, [622]), (776, .aload_n 2, 1, [2], 0, []), (777, .aload_n 0, 1, [0], 0, []), (778, .iload_n 3, 1, [3], 0, []), (779, .iconst 1, 1, [], 1, []), (780, .iadd, 1, [], 0, []), (781, .iaload, 1, [1], 0, []), (782, .invokevirtual 89, 3, [159, 2, 1, 10], 0, [1045]), (785, .if_icmp .eq 429, 3, [1214], 0, []), (788, .iconst 0, 1, [], 0, []), (789, .ireturn, 1, [], 0, []), (790, .aload_n 1, 1, [1], 0, []), (791, .aload_n 0, 1, [0], 0, []), (792, .iload_n 3, 1, [3], 0, []), (793, .iconst 1, 1, [], 1, []), (794, .iadd, 1, [], 0, []), (795, .iaload, 1, [1], 0, []), (796, .invokevirtual 90, 3, [80, 2, 1, 9], 0, [631]), (799, .aload_n 2, 1, [2], 0, []), (800, .aload_n 0, 1, [0], 0, []), (801, .iload_n 3, 1, [3], 0, []), (802, .iconst 1, 1, [], 1, []), (803, .iadd, 1, [], 0, []), (804, .iaload, 1, [1], 0, []), (805, .invokevirtual 93, 3, [160, 2, 1, 10], 0, [1053]), (808, .if_icmp .eq 406, 3, [1214], 0, []), (811, .iconst 0, 1, [], 0, []), (812, .ireturn, 1, [], 0, []), (813, .aload_n 1, 1, [1], 0, []), (814, .aload_n 0, 1, [0], 0, []), (815, .iload_n 3, 1, [3], 0, []), (816, .iconst 1, 1, [], 1, []), (817, .iadd, 1, [], 0, []), (818, .iaload, 1, [1], 0, []), (819, .invokevirtual 94, 3, [81, 2, 1, 9], 0, [635]), (822, .aload_n 2, 1, [2], 0, []), (823, .aload_n 0, 1, [0], 0, []), (824, .iload_n 3, 1, [3], 0, []), (825, .iconst 1, 1, [], 1, []), (826, .iadd, 1, [], 0, []), (827, .iaload, 1, [1], 0, []), (828, .invokevirtual 97, 3, [161, 2, 1, 10], 0, [1057]), (831, .if_icmp .eq 383, 3, [1214], 0, []), (834, .iconst 0, 1, [], 0, []), (835, .ireturn, 1, [], 0, []), (836, .aload_n 1, 1, [1], 0, []), (837, .aload_n 0, 1, [0], 0, []), (838, .iload_n 3, 1, [3], 0, []), (839, .iconst 1, 1, [], 1, []), (840, .iadd, 1, [], 0, []), (841, .iaload, 1, [1], 0, []), (842, .aload_n 0, 1, [0], 0, []), (843, .iload_n 3, 1, [3], 0, []), (844, .iconst 2, 1, [], 2, []), (845, .iadd, 1, [], 0, []), (846, .iaload, 1, [1], 0, []), (847, .invokevirtual 98, 3, [82, 3, 2, 9], 0, [639]), (850, .aload_n 2, 1, [2], 0, []), (851, .aload_n 0, 1, [0], 0, []), (852, .iload_n 3, 1, [3], 0, []), (853, .iconst 1, 1, [], 1, []), (854, .iadd, 1, [], 0, []), (855, .iaload, 1, [1], 0, []), (856, .aload_n 0, 1, [0], 0, []), (857, .iload_n 3, 1, [3], 0, []), (858, .iconst 2, 1, [], 2, []), (859, .iadd, 1, [], 0, []), (860, .iaload, 1, [1], 0, []), (861, .invokevirtual 102, 3, [163, 3, 2, 10], 0, [1061]), (864, .lcmp, 1, [], 0, []), (865, .ifCond .eq 349, 3, [1214], 0, []), (868, .iconst 0, 1, [], 0, []), (869, .ireturn, 1, [], 0, []), (870, .aload_n 1, 1, [1], 0, []), (871, .aload_n 0, 1, [0], 0, []), (872, .iload_n 3, 1, [3], 0, []), (873, .iconst 1, 1, [], 1, []), (874, .iadd, 1, [], 0, []), (875, .iaload, 1, [1], 0, []), (876, .aload_n 0, 1, [0], 0, []), (877, .iload_n 3, 1, [3], 0, []), (878, .iconst 2, 1, [], 2, []), (879, .iadd, 1, [], 0, []), (880, .iaload, 1, [1], 0, []), (881, .aload_n 0, 1, [0], 0, []), (882, .iload_n 3, 1, [3], 0, []), (883, .iconst 3, 1, [], 3, []), (884, .iadd, 1, [], 0, []), (885, .iaload, 1, [1], 0, []), (886, .invokevirtual 103, 3, [83, 4, 1, 9], 0, [648]), (889, .aload_n 2, 1, [2], 0, []), (890, .aload_n 0, 1, [0], 0, []), (891, .iload_n 3, 1, [3], 0, []), (892, .iconst 1, 1, [], 1, []), (893, .iadd, 1, [], 0, []), (894, .iaload, 1, [1], 0, []), (895, .aload_n 0, 1, [0], 0, []), (896, .iload_n 3, 1, [3], 0, []), (897, .iconst 2, 1, [], 2, []), (898, .iadd, 1, [], 0, []), (899, .iaload, 1, [1], 0, []), (900, .aload_n 0, 1, [0], 0, []), (901, .iload_n 3, 1, [3], 0, []), (902, .iconst 3, 1, [], 3, []), (903, .iadd, 1, [], 0, []), (904, .iaload, 1, [1], 0, []), (905, .invokevirtual 106, 3, [164, 4, 1, 10], 0, [1069]), (908, .if_icmp .eq 306, 3, [1214], 0, []), (911, .iconst 0, 1, [], 0, []), (912, .ireturn, 1, [], 0, []), (913, .aload_n 1, 1, [1], 0, []), (914, .aload_n 0, 1, [0], 0, []), (915, .iload_n 3, 1, [3], 0, []), (916, .iconst 1, 1, [], 1, []), (917, .iadd, 1, [], 0, []), (918, .iaload, 1, [1], 0, []), (919, .invokevirtual 107, 3, [84, 2, 1, 9], 0, [656]), (922, .aload_n 2, 1, [2], 0, []), (923, .aload_n 0, 1, [0], 0, []), (924, .iload_n 3, 1, [3], 0, []), (925, .iconst 1, 1, [], 1, []), (926, .iadd, 1, [], 0, []), (927, .iaload, 1, [1], 0, []), (928, .invokevirtual 110, 3, [165, 2, 1, 10], 0, [1073]), (931, .if_icmp .eq 283, 3, [1214], 0, []), (934, .iconst 0, 1, [], 0, []), (935, .ireturn, 1, [], 0, []), (936, .aload_n 1, 1, [1], 0, []), (937, .aload_n 0, 1, [0], 0, []), (938, .iload_n 3, 1, [3], 0, []), (939, .iconst 1, 1, [], 1, []), (940, .iadd, 1, [], 0, []), (941, .iaload, 1, [1], 0, []), (942, .aload_n 0, 1, [0], 0, []), (943, .iload_n 3, 1, [3], 0, []), (944, .iconst 2, 1, [], 2, []), (945, .iadd, 1, [], 0, []), (946, .iaload, 1, [1], 0, []), (947, .aload_n 0, 1, [0], 0, []), (948, .iload_n 3, 1, [3], 0, []), (949, .iconst 3, 1, [], 3, []), (950, .iadd, 1, [], 0, []), (951, .iaload, 1, [1], 0, []), (952, .invokevirtual 111, 3, [85, 4, 1, 9], 0, [660]), (955, .aload_n 2, 1, [2], 0, []), (956, .aload_n 0, 1, [0], 0, []), (957, .iload_n 3, 1, [3], 0, []), (958, .iconst 1, 1, [], 1, []), (959, .iadd, 1, [], 0, []), (960, .iaload, 1, [1], 0, []), (961, .aload_n 0, 1, [0], 0, []), (962, .iload_n 3, 1, [3], 0, []), (963, .iconst 2, 1, [], 2, []), (964, .iadd, 1, [], 0, []), (965, .iaload, 1, [1], 0, []), (966, .aload_n 0, 1, [0], 0, []), (967, .iload_n 3, 1, [3], 0, []), (968, .iconst 3, 1, [], 3, []), (969, .iadd, 1, [], 0, []), (970, .iaload, 1, [1], 0, []), (971, .invokevirtual 114, 3, [166, 4, 1, 10], 0, [1077]), (974, .if_icmp .eq 240, 3, [1214], 0, []), (977, .iconst 0, 1, [], 0, []), (978, .ireturn, 1, [], 0, []), (979, .aload_n 1, 1, [1], 0, []), (980, .aload_n 0, 1, [0], 0, []), (981, .iload_n 3, 1, [3], 0, []), (982, .iconst 1, 1, [], 1, []), (983, .iadd, 1, [], 0, []), (984, .iaload, 1, [1], 0, []), (985, .aload_n 0, 1, [0], 0, []), (986, .iload_n 3, 1, [3], 0, []), (987, .iconst 2, 1, [], 2, []), (988, .iadd, 1, [], 0, []), (989, .iaload, 1, [1], 0, []), (990, .aload_n 0, 1, [0], 0, []), (991, .iload_n 3, 1, [3], 0, []), (992, .iconst 3, 1, [], 3, []), (993, .iadd, 1, [], 0, []), (994, .iaload, 1, [1], 0, []), (995, .invokevirtual 115, 3, [86, 4, 2, 9], 0, [672]), (998, .aload_n 2, 1, [2], 0, []), (999, .aload_n 0, 1, [0], 0, []), (1000, .iload_n 3, 1, [3], 0, []), (1001, .iconst 1, 1, [], 1, []), (1002, .iadd, 1, [], 0, []), (1003, .iaload, 1, [1], 0, []), (1004, .aload_n 0, 1, [0], 0, []), (1005, .iload_n 3, 1, [3], 0, []), (1006, .iconst 2, 1, [], 2, []), (1007, .iadd, 1, [], 0, []), (1008, .iaload, 1, [1], 0, []), (1009, .aload_n 0, 1, [0], 0, []), (1010, .iload_n 3, 1, [3], 0, []), (1011, .iconst 3, 1, [], 3, []), (1012, .iadd, 1, [], 0, []), (1013, .iaload, 1, [1], 0, []), (1014, .invokevirtual 119, 3, [167, 4, 2, 10], 0, [1081]), (1017, .lcmp, 1, [], 0, []), (1018, .ifCond .eq 196, 3, [1214], 0, []), (1021, .iconst 0, 1, [], 0, []), (1022, .ireturn, 1, [], 0, []), (1023, .aload_n 1, 1, [1], 0, []), (1024, .aload_n 0, 1, [0], 0, []), (1025, .iload_n 3, 1, [3], 0, []), (1026, .iconst 1, 1, [], 1, []), (1027, .iadd, 1, [], 0, []), (1028, .iaload, 1, [1], 0, []), (1029, .aload_n 0, 1, [0], 0, []), (1030, .iload_n 3, 1, [3], 0, []), (1031, .iconst 2, 1, [], 2, []), (1032, .iadd, 1, [], 0, []), (1033, .iaload, 1, [1], 0, []), (1034, .aload_n 0, 1, [0], 0, []), (1035, .iload_n 3, 1, [3], 0, []), (1036, .iconst 3, 1, [], 3, []), (1037, .iadd, 1, [], 0, []), (1038, .iaload, 1, [1], 0, []), (1039, .aload_n 0, 1, [0], 0, []), (1040, .iload_n 3, 1, [3], 0, []), (1041, .iconst 4, 1, [], 4, []), (1042, .iadd, 1, [], 0, []), (1043, .iaload, 1, [1], 0, []), (1044, .aload_n 0, 1, [0], 0, []), (1045, .iload_n 3, 1, [3], 0, []), (1046, .iconst 5, 1, [], 5, []), (1047, .iadd, 1, [], 0, []), (1048, .iaload, 1, [1], 0, []), (1049, .invokevirtual 120, 3, [87, 6, 1, 9], 0, [676]), (1052, .aload_n 2, 1, [2], 0, []), (1053, .aload_n 0, 1, [0], 0, []), (1054, .iload_n 3, 1, [3], 0, []), (1055, .iconst 1, 1, [], 1, []), (1056, .iadd, 1, [], 0, []), (1057, .iaload, 1, [1], 0, []), (1058, .aload_n 0, 1, [0], 0, []), (1059, .iload_n 3, 1, [3], 0, []), (1060, .iconst 2, 1, [], 2, []), (1061, .iadd, 1, [], 0, []), (1062, .iaload, 1, [1], 0, []), (1063, .aload_n 0, 1, [0], 0, []), (1064, .iload_n 3, 1, [3], 0, []), (1065, .iconst 3, 1, [], 3, []), (1066, .iadd, 1, [], 0, []), (1067, .iaload, 1, [1], 0, []), (1068, .aload_n 0, 1, [0], 0, []), (1069, .iload_n 3, 1, [3], 0, []), (1070, .iconst 4, 1, [], 4, []), (1071, .iadd, 1, [], 0, []), (1072, .iaload, 1, [1], 0, []), (1073, .aload_n 0, 1, [0], 0, []), (1074, .iload_n 3, 1, [3], 0, []), (1075, .iconst 5, 1, [], 5, []), (1076, .iadd, 1, [], 0, []), (1077, .iaload, 1, [1], 0, []), (1078, .invokevirtual 123, 3, [168, 6, 1, 10], 0, [1089]), (1081, .if_icmp .eq 133, 3, [1214], 0, []), (1084, .iconst 0, 1, [], 0, []), (1085, .ireturn, 1, [], 0, []), (1086, .aload_n 1, 1, [1], 0, []), (1087, .aload_n 0, 1, [0], 0, []), (1088, .iload_n 3, 1, [3], 0, []), (1089, .iconst 1, 1, [], 1, []), (1090, .iadd, 1, [], 0, []), (1091, .iaload, 1, [1], 0, []), (1092, .invokevirtual 124, 3, [88, 2, 1, 9], 0, [683]), (1095, .aload_n 2, 1, [2], 0, []), (1096, .aload_n 0, 1, [0], 0, []), (1097, .iload_n 3, 1, [3], 0, []), (1098, .iconst 1, 1, [], 1, []), (1099, .iadd, 1, [], 0, []), (1100, .iaload, 1, [1], 0, []), (1101, .invokevirtual 127, 3, [170, 2, 1, 10], 0, [1093]), (1104, .if_icmp .eq 110, 3, [1214], 0, []), (1107, .iconst 0, 1, [], 0, []), (1108, .ireturn, 1, [], 0, []), (1109, .aload_n 1, 1, [1], 0, []), (1110, .aload_n 0, 1, [0], 0, []), (1111, .iload_n 3, 1, [3], 0, []), (1112, .iconst 1, 1, [], 1, []), (1113, .iadd, 1, [], 0, []), (1114, .iaload, 1, [1], 0, []), (1115, .invokevirtual 128, 3, [89, 2, 1, 9], 0, [703]), (1118, .aload_n 2, 1, [2], 0, []), (1119, .aload_n 0, 1, [0], 0, []), (1120, .iload_n 3, 1, [3], 0, []), (1121, .iconst 1, 1, [], 1, []), (1122, .iadd, 1, [], 0, []), (1123, .iaload, 1, [1], 0, []), (1124, .invokevirtual 131, 3, [171, 2, 1, 10], 0, [1101]), (1127, .if_icmp .eq 87, 3, [1214], 0, []), (1130, .iconst 0, 1, [], 0, []), (1131, .ireturn, 1, [], 0, []), (1132, .aload_n 1, 1, [1], 0, []), (1133, .aload_n 0, 1, [0], 0, []), (1134, .iload_n 3, 1, [3], 0, []), (1135, .iconst 1, 1, [], 1, []), (1136, .iadd, 1, [], 0, []), (1137, .iaload, 1, [1], 0, []), (1138, .aload_n 0, 1, [0], 0, []), (1139, .iload_n 3, 1, [3], 0, []), (1140, .iconst 2, 1, [], 2, []), (1141, .iadd, 1, [], 0, []), (1142, .iaload, 1, [1], 0, []), (1143, .invokevirtual 132, 3, [90, 3, 1, 9], 0, [707]), (1146, .aload_n 2, 1, [2], 0, []), (1147, .aload_n 0, 1, [0], 0, []), (1148, .iload_n 3, 1, [3], 0, []), (1149, .iconst 1, 1, [], 1, []), (1150, .iadd, 1, [], 0, []), (1151, .iaload, 1, [1], 0, []), (1152, .aload_n 0, 1, [0], 0, []), (1153, .iload_n 3, 1, [3], 0, []), (1154, .iconst 2, 1, [], 2, []), (1155, .iadd, 1, [], 0, []), (1156, .iaload, 1, [1], 0, []), (1157, .invokevirtual 135, 3, [172, 3, 1, 10], 0, [1105]), (1160, .if_icmp .eq 54, 3, [1214], 0, []), (1163, .iconst 0, 1, [], 0, []), (1164, .ireturn, 1, [], 0, []), (1165, .aload_n 1, 1, [1], 0, []), (1166, .invokevirtual 136, 3, [91, 1, 1, 9], 0, [711]), (1169, .aload_n 2, 1, [2], 0, []), (1170, .invokevirtual 140, 3, [173, 1, 1, 10], 0, [1109]), (1173, .if_icmp .eq 41, 3, [1214], 0, []), (1176, .iconst 0, 1, [], 0, []), (1177, .ireturn, 1, [], 0, []), (1178, .aload_n 1, 1, [1], 0, []), (1179, .invokevirtual 141, 3, [92, 1, 1, 9], 0, [715]), (1182, .aload_n 2, 1, [2], 0, []), (1183, .invokevirtual 144, 3, [174, 1, 1, 10], 0, [1113]), (1186, .if_icmp .eq 28, 3, [1214], 0, []), (1189, .iconst 0, 1, [], 0, []), (1190, .ireturn, 1, [], 0, []), (1191, .aload_n 1, 1, [1], 0, []), (1192, .aload_n 0, 1, [0], 0, []), (1193, .iload_n 3, 1, [3], 0, []), (1194, .iconst 1, 1, [], 1, []), (1195, .iadd, 1, [], 0, []), (1196, .iaload, 1, [1], 0, []), (1197, .invokevirtual 145, 3, [93, 2, 1, 9], 0, [719]), (1200, .aload_n 2, 1, [2], 0, []), (1201, .aload_n 0, 1, [0], 0, []), (1202, .iload_n 3, 1, [3], 0, []), (1203, .iconst 1, 1, [], 1, []), (1204, .iadd, 1, [], 0, []), (1205, .iaload, 1, [1], 0, []), (1206, .invokevirtual 148, 3, [175, 2, 1, 10], 0, [1117]), (1209, .if_icmp .eq 5, 3, [1214], 0, []), (1212, .iconst 0, 1, [], 0, []), (1213, .ireturn, 1, [], 0, []), (1214, .iinc 3 6, 3, [3], 6, []), (1217, .goto (-1199), 3, [18], 0, []), (1220, .iconst 1, 1, [], 1, []), (1221, .ireturn, 1, [], 0, [])]
def hd_L_law : List (Nat × List Bool) := [(18, [true, true, true, true])]
def me_L_law : z_Me := (⟨"StayingGuestsLaw", "law", "([I)Z"⟩, code, 4, some .boolean, cd_L_law, hd_L_law)
def cd_Math_max : List z_En := [(0, .iload_n 0, 1, [0], 0, []), (1, .iload_n 1, 1, [1], 0, []), (2, .if_icmp .lt 7, 3, [9], 0, []), (5, .iload_n 0, 1, [0], 0, []), (6, .goto 4, 3, [10], 0, []), (9, .iload_n 1, 1, [1], 0, []), (10, .ireturn, 1, [], 0, [])]
def hd_Math_max : List (Nat × List Bool) := []
def me_Math_max : z_Me := (⟨"java/lang/Math", "max", "(II)I"⟩, prog_14_method_65_code, 2, some .int, cd_Math_max, hd_Math_max)
def cd_Integer_bitCount : List z_En := [(0, .iload_n 0, 1, [0], 0, []), (1, .iload_n 0, 1, [0], 0, []), (2, .iconst 1, 1, [], 1, []), (3, .iushr, 1, [], 0, []), (4, .ldc_w 265, 3, [], 1431655765, [727]), (7, .iand, 1, [], 0, []), (8, .isub, 1, [], 0, []), (9, .istore_n 0, 1, [0], 0, []), (10, .iload_n 0, 1, [0], 0, []), (11, .ldc_w 266, 3, [], 858993459, [728]), (14, .iand, 1, [], 0, []), (15, .iload_n 0, 1, [0], 0, []), (16, .iconst 2, 1, [], 2, []), (17, .iushr, 1, [], 0, []), (18, .ldc_w 266, 3, [], 858993459, [728]), (21, .iand, 1, [], 0, []), (22, .iadd, 1, [], 0, []), (23, .istore_n 0, 1, [0], 0, []), (24, .iload_n 0, 1, [0], 0, []), (25, .iload_n 0, 1, [0], 0, []), (26, .iconst 4, 1, [], 4, []), (27, .iushr, 1, [], 0, []), (28, .iadd, 1, [], 0, []), (29, .ldc_w 267, 3, [], 252645135, [729]), (32, .iand, 1, [], 0, []), (33, .istore_n 0, 1, [0], 0, []), (34, .iload_n 0, 1, [0], 0, []), (35, .iload_n 0, 1, [0], 0, []), (36, .bipush 8, 2, [], 8, []), (38, .iushr, 1, [], 0, []), (39, .iadd, 1, [], 0, []), (40, .istore_n 0, 1, [0], 0, []), (41, .iload_n 0, 1, [0], 0, []), (42, .iload_n 0, 1, [0], 0, []), (43, .bipush 16, 2, [], 16, []), (45, .iushr, 1, [], 0, []), (46, .iadd, 1, [], 0, []), (47, .istore_n 0, 1, [0], 0, []), (48, .iload_n 0, 1, [0], 0, []), (49, .bipush 63, 2, [], 63, []), (51, .iand, 1, [], 0, []), (52, .ireturn, 1, [], 0, [])]
def hd_Integer_bitCount : List (Nat × List Bool) := []
def me_Integer_bitCount : z_Me := (⟨"java/lang/Integer", "bitCount", "(I)I"⟩, prog_13_method_49_code, 1, some .int, cd_Integer_bitCount, hd_Integer_bitCount)
def z_P : List z_Me := [me_X0_init, me_X0_refusal, me_X0_play, me_X0_serve, me_X0_answer, me_X0_gatheredOf, me_X0_isSignAct, me_X0_isSeatAct, me_X1_init, me_X1_checkIn, me_X1_become, me_X2_init, me_X2_stands, me_X2_clear, me_X2_become, me_X2_weight, me_X2_shocks, me_X2_isSoft, me_X2_lack, me_X2_offer, me_X2_dawn, me_X2_firstReady, me_X2_stir, me_X2_sleep, me_X2_gatheredByUnknowing, me_X2_checkOut, me_X2_knowing, me_X2_shockedOnes, me_X3_init, me_X3_note, me_X3_allSo, me_X4_init, me_X4_renew, me_X4_write, me_X4_faultAs, me_X4_faultAt, me_X4_faultOfCells, me_X5_init, me_X5_fewest, me_X5_signOfRow, me_X5_heaviest, me_X5_firstOfAtLeast, me_X5_thatWeigh, me_X5_waysByOneMore, me_X6_init, me_X6_choose, me_X6_signFor, me_X6_tryFrom, me_X6_keepIfBetter, me_X7_init, me_X7_lay, me_X7_sitsFrom, me_X7_isFree, me_X7_clash, me_X8_init, me_X8_firstFault, me_X8_goesOn, me_X8_nextSign, me_X8_nextGuest, me_X8_letter, me_X8_digitOfGuest, me_X9_init, me_X9_hotel, me_X9_ofGuest, me_X9_hint, me_X9_word, me_X9_weighs, me_X9_seat, me_X9_give, me_X9_nights, me_X9_arrive, me_X9_leave, me_X9_dinner, me_X9_softly, me_X9_just, me_X9_apart, me_X9_best, me_X9_reading, me_X9_back, me_X9_bearings, me_X9_kinds, me_X9_hintings, me_X9_odds, me_X9_sheet, me_X9_lose, me_X9_put, me_X9_cell, me_X9_copy, me_X9_tell, me_X9_bow, me_X9_as, me_X9_trace, me_X9_fault, me_X9_many, me_X9_within, me_X9_isSheet, me_X9_isSign, me_X9_isGuest, me_X9_isDinnerQuestion, me_X9_failed, me_X9_commonDivisor, me_X9_begin, me_X9_missTells, me_X9_colonelTells, me_X9_brokerTells, me_X10_init, me_X10_fails, me_X10_lost, me_X10_within, me_X10_isSheet, me_X10_isSort, me_X10_against, me_X10_isSignOf, me_X10_isGuest, me_X10_isTable, me_X10_isOf, me_X10_size, me_X10_digit, me_X10_isSign, me_X10_hotel, me_X10_takeHotel, me_X10_readHotel, me_X10_readTheSigns, me_X10_readGuest, me_X10_weighsOf, me_X10_ofGuest, me_X10_hint, me_X10_word, me_X10_weighs, me_X10_seat, me_X10_nextToKnow, me_X10_dawns, me_X10_isGiven, me_X10_give, me_X10_oneNight, me_X10_nights, me_X10_arrive, me_X10_without, me_X10_leave, me_X10_keep, me_X10_putBack, me_X10_does, me_X10_goDinner, me_X10_refusesPair, me_X10_dinner, me_X10_tellDinner, me_X10_isSoft, me_X10_heaviest, me_X10_softly, me_X10_just, me_X10_canSit, me_X10_findTables, me_X10_apart, me_X10_canGive, me_X10_tryRow, me_X10_best, me_X10_reading, me_X10_back, me_X10_areSo, me_X10_bearings, me_X10_kinds, me_X10_hintings, me_X10_inLeastTerms, me_X10_odds, me_X10_sheet, me_X10_lose, me_X10_put, me_X10_cell, me_X10_copy, me_X10_begins, me_X10_tell, me_X10_bow, me_X10_as, me_X10_trace, me_X10_fault, me_X10_many, me_X1_init, me_X1_init, me_Integer_bitCount]
def z_FS : List Nat := [99, 6, 99, 0, 3, 99, 99, 99, 99, 99, 99, 99, 0, 3, 99, 99, 99, 99, 99, 99, 99, 99, 0, 3, 99, 99, 99, 99, 99, 99, 99, 99, 0, 3, 99, 99, 99, 99, 99, 99, 99, 0, 0, 1, 99, 0, 99, 0, 99, 0, 0, 99, 0, 99, 0, 99, 0, 99, 0, 99, 0, 0, 0, 0, 0, 0, 0, 0, 0, 0, 0, 0, 0, 0, 0, 0, 0, 0, 0, 0]
def z_PX : List (List Nat) := [[192, 191, 57, 0], [495, 493, 57, 494], [506, 504, 57, 505], [512, 511, 57, 11], [517, 515, 57, 516], [529, 528, 57, 12], [499, 498, 57, 0], [502, 501, 57, 0], [88, 87, 55, 0], [379, 377, 55, 378], [391, 389, 55, 390], [81, 80, 54, 0], [460, 458, 54, 459], [358, 356, 54, 357], [387, 385, 54, 386], [419, 417, 54, 418], [435, 433, 54, 434], [544, 542, 54, 543], [448, 446, 54, 447], [431, 429, 54, 430], [440, 439, 54, 8], [444, 443, 54, 9], [452, 451, 54, 10], [464, 462, 54, 463], [471, 469, 54, 470], [484, 482, 54, 483], [521, 519, 54, 520], [525, 523, 54, 524], [213, 212, 58, 0], [617, 615, 58, 616], [629, 627, 58, 628], [275, 274, 62, 0], [655, 653, 62, 654], [671, 669, 62, 670], [342, 340, 62, 341], [667, 665, 62, 666], [346, 344, 62, 345], [234, 233, 59, 0], [537, 535, 59, 536], [551, 549, 59, 550], [540, 539, 59, 0], [555, 554, 59, 0], [563, 561, 59, 562], [567, 566, 59, 13], [255, 254, 61, 0], [594, 592, 61, 593], [609, 607, 61, 608], [598, 597, 61, 16], [602, 601, 61, 17], [244, 243, 60, 0], [575, 573, 60, 574], [579, 578, 60, 14], [583, 582, 60, 15], [586, 585, 60, 0], [176, 175, 56, 0], [354, 352, 56, 353], [362, 361, 56, 1], [370, 369, 56, 3], [366, 365, 56, 2], [375, 374, 56, 4], [383, 382, 56, 5], [71, 70, 53, 0], [332, 330, 53, 331], [395, 393, 53, 394], [403, 401, 53, 402], [411, 409, 53, 410], [415, 413, 53, 414], [423, 421, 53, 422], [427, 425, 53, 426], [456, 454, 53, 455], [475, 473, 53, 474], [480, 478, 53, 479], [488, 486, 53, 487], [533, 531, 53, 532], [559, 557, 53, 558], [571, 569, 53, 570], [590, 588, 53, 589], [613, 611, 53, 612], [621, 619, 53, 620], [625, 623, 53, 624], [634, 632, 53, 633], [638, 636, 53, 637], [642, 640, 53, 641], [651, 649, 53, 650], [659, 657, 53, 658], [663, 661, 53, 662], [675, 673, 53, 674], [679, 677, 53, 678], [686, 684, 53, 685], [706, 704, 53, 705], [710, 708, 53, 709], [714, 712, 53, 713], [718, 716, 53, 717], [722, 720, 53, 721], [338, 337, 53, 0], [335, 334, 53, 0], [407, 406, 53, 7], [399, 398, 53, 6], [491, 490, 53, 0], [350, 349, 53, 0], [647, 646, 53, 0], [694, 693, 53, 19], [690, 689, 53, 18], [698, 697, 53, 20], [702, 701, 53, 21], [734, 733, 63, 0], [868, 867, 63, 23], [1088, 1087, 63, 50], [857, 856, 63, 0], [854, 853, 63, 0], [860, 859, 63, 0], [864, 863, 63, 22], [908, 907, 63, 31], [900, 899, 63, 30], [927, 926, 63, 0], [934, 933, 63, 0], [1020, 1019, 63, 0], [884, 883, 63, 27], [876, 875, 63, 25], [851, 849, 63, 850], [892, 891, 63, 29], [872, 871, 63, 24], [880, 879, 63, 26], [888, 887, 63, 28], [920, 919, 63, 32], [896, 894, 63, 895], [904, 902, 63, 903], [912, 910, 63, 911], [916, 914, 63, 915], [924, 922, 63, 923], [946, 945, 63, 35], [942, 941, 63, 34], [938, 937, 63, 33], [931, 929, 63, 930], [954, 953, 63, 36], [950, 948, 63, 949], [958, 956, 63, 957], [965, 964, 63, 0], [962, 960, 63, 961], [977, 976, 63, 38], [993, 992, 63, 42], [985, 984, 63, 40], [981, 980, 63, 39], [973, 972, 63, 37], [969, 967, 63, 968], [989, 988, 63, 41], [1005, 1004, 63, 44], [1001, 1000, 63, 43], [997, 995, 63, 996], [1009, 1007, 63, 1008], [1024, 1023, 63, 46], [1017, 1016, 63, 45], [1013, 1011, 63, 1012], [1032, 1031, 63, 47], [1036, 1035, 63, 48], [1028, 1026, 63, 1027], [1040, 1038, 63, 1039], [1044, 1042, 63, 1043], [1052, 1051, 63, 49], [1048, 1046, 63, 1047], [1056, 1054, 63, 1055], [1060, 1058, 63, 1059], [1068, 1067, 63, 0], [1064, 1062, 63, 1063], [1072, 1070, 63, 1071], [1076, 1074, 63, 1075], [1080, 1078, 63, 1079], [1084, 1082, 63, 1083], [1092, 1090, 63, 1091], [1100, 1099, 63, 51], [1096, 1094, 63, 1095], [1104, 1102, 63, 1103], [1108, 1106, 63, 1107], [1112, 1110, 63, 1111], [1116, 1114, 63, 1115], [1120, 1118, 63, 1119], [0, 0, 0, 0], [467, 466, 64, 0], [726, 725, 66, 0]]
end
section
/-! The program's tables are the class files' -/
def z_mokb (Tb : List Jvm.Cond) (cl : List vw_C) (tyq : Nat → Nat → FieldType) (P : List z_Me) (PX : List (List Nat)) (me : z_Me) : Bool := plainName me.1.cls && me.2.2.2.2.1.all (fun x => z_chk Tb cl tyq me.1.cls x.1 x.2.1 x.2.2.1 x.2.2.2.1 x.2.2.2.2.1 x.2.2.2.2.2 && z_chkc Tb cl P PX me.1.cls x.2.1 x.2.2.1 x.2.2.2.1 x.2.2.2.2.2 && decide (decode me.2.1 x.1 = .ok (x.2.1, x.2.2.1))) && z_chn me.2.2.2.2.1 && decide (me.2.2.2.1 = none ∨ me.2.2.2.1 = some .int ∨ me.2.2.2.1 = some .long ∨ me.2.2.2.1 = some .boolean)
theorem z_mok_of {Tb : List Jvm.Cond} {cl : List vw_C} {tyq : Nat → Nat → FieldType} {P : List z_Me} {PX : List (List Nat)} {me : z_Me} (h : z_mokb Tb cl tyq P PX me = true) (hl : me.1.cls ≠ z_lawn) : z_mok Tb cl tyq P PX me := by
  unfold z_mokb at h
  simp only [Bool.and_eq_true, decide_eq_true_eq, List.all_eq_true] at h
  obtain ⟨⟨⟨h1, h2⟩, h3⟩, h4⟩ := h
  exact ⟨h1, fun x hx => ⟨(h2 x hx).1.1, (h2 x hx).1.2, (h2 x hx).2⟩, h3, h4, hl⟩
set_option maxRecDepth 100000 in
theorem mk_X0_init : z_mokb lw_tbl vwCl z_tyq z_P z_PX me_X0_init = true := by decide +kernel
set_option maxRecDepth 100000 in
theorem mk_X0_refusal : z_mokb lw_tbl vwCl z_tyq z_P z_PX me_X0_refusal = true := by decide +kernel
set_option maxRecDepth 100000 in
theorem mk_X0_play : z_mokb lw_tbl vwCl z_tyq z_P z_PX me_X0_play = true := by decide +kernel
set_option maxRecDepth 100000 in
theorem mk_X0_serve : z_mokb lw_tbl vwCl z_tyq z_P z_PX me_X0_serve = true := by decide +kernel
set_option maxRecDepth 100000 in
theorem mk_X0_answer : z_mokb lw_tbl vwCl z_tyq z_P z_PX me_X0_answer = true := by decide +kernel
set_option maxRecDepth 100000 in
theorem mk_X0_gatheredOf : z_mokb lw_tbl vwCl z_tyq z_P z_PX me_X0_gatheredOf = true := by decide +kernel
set_option maxRecDepth 100000 in
theorem mk_X0_isSignAct : z_mokb lw_tbl vwCl z_tyq z_P z_PX me_X0_isSignAct = true := by decide +kernel
set_option maxRecDepth 100000 in
theorem mk_X0_isSeatAct : z_mokb lw_tbl vwCl z_tyq z_P z_PX me_X0_isSeatAct = true := by decide +kernel
set_option maxRecDepth 100000 in
theorem mk_X1_init : z_mokb lw_tbl vwCl z_tyq z_P z_PX me_X1_init = true := by decide +kernel
set_option maxRecDepth 100000 in
theorem mk_X1_checkIn : z_mokb lw_tbl vwCl z_tyq z_P z_PX me_X1_checkIn = true := by decide +kernel
set_option maxRecDepth 100000 in
theorem mk_X1_become : z_mokb lw_tbl vwCl z_tyq z_P z_PX me_X1_become = true := by decide +kernel
set_option maxRecDepth 100000 in
theorem mk_X2_init : z_mokb lw_tbl vwCl z_tyq z_P z_PX me_X2_init = true := by decide +kernel
set_option maxRecDepth 100000 in
theorem mk_X2_stands : z_mokb lw_tbl vwCl z_tyq z_P z_PX me_X2_stands = true := by decide +kernel
set_option maxRecDepth 100000 in
theorem mk_X2_clear : z_mokb lw_tbl vwCl z_tyq z_P z_PX me_X2_clear = true := by decide +kernel
set_option maxRecDepth 100000 in
theorem mk_X2_become : z_mokb lw_tbl vwCl z_tyq z_P z_PX me_X2_become = true := by decide +kernel
set_option maxRecDepth 100000 in
theorem mk_X2_weight : z_mokb lw_tbl vwCl z_tyq z_P z_PX me_X2_weight = true := by decide +kernel
set_option maxRecDepth 100000 in
theorem mk_X2_shocks : z_mokb lw_tbl vwCl z_tyq z_P z_PX me_X2_shocks = true := by decide +kernel
set_option maxRecDepth 100000 in
theorem mk_X2_isSoft : z_mokb lw_tbl vwCl z_tyq z_P z_PX me_X2_isSoft = true := by decide +kernel
set_option maxRecDepth 100000 in
theorem mk_X2_lack : z_mokb lw_tbl vwCl z_tyq z_P z_PX me_X2_lack = true := by decide +kernel
set_option maxRecDepth 100000 in
theorem mk_X2_offer : z_mokb lw_tbl vwCl z_tyq z_P z_PX me_X2_offer = true := by decide +kernel
set_option maxRecDepth 100000 in
theorem mk_X2_dawn : z_mokb lw_tbl vwCl z_tyq z_P z_PX me_X2_dawn = true := by decide +kernel
set_option maxRecDepth 100000 in
theorem mk_X2_firstReady : z_mokb lw_tbl vwCl z_tyq z_P z_PX me_X2_firstReady = true := by decide +kernel
set_option maxRecDepth 100000 in
theorem mk_X2_stir : z_mokb lw_tbl vwCl z_tyq z_P z_PX me_X2_stir = true := by decide +kernel
set_option maxRecDepth 100000 in
theorem mk_X2_sleep : z_mokb lw_tbl vwCl z_tyq z_P z_PX me_X2_sleep = true := by decide +kernel
set_option maxRecDepth 100000 in
theorem mk_X2_gatheredByUnknowing : z_mokb lw_tbl vwCl z_tyq z_P z_PX me_X2_gatheredByUnknowing = true := by decide +kernel
set_option maxRecDepth 100000 in
theorem mk_X2_checkOut : z_mokb lw_tbl vwCl z_tyq z_P z_PX me_X2_checkOut = true := by decide +kernel
set_option maxRecDepth 100000 in
theorem mk_X2_knowing : z_mokb lw_tbl vwCl z_tyq z_P z_PX me_X2_knowing = true := by decide +kernel
set_option maxRecDepth 100000 in
theorem mk_X2_shockedOnes : z_mokb lw_tbl vwCl z_tyq z_P z_PX me_X2_shockedOnes = true := by decide +kernel
set_option maxRecDepth 100000 in
theorem mk_X3_init : z_mokb lw_tbl vwCl z_tyq z_P z_PX me_X3_init = true := by decide +kernel
set_option maxRecDepth 100000 in
theorem mk_X3_note : z_mokb lw_tbl vwCl z_tyq z_P z_PX me_X3_note = true := by decide +kernel
set_option maxRecDepth 100000 in
theorem mk_X3_allSo : z_mokb lw_tbl vwCl z_tyq z_P z_PX me_X3_allSo = true := by decide +kernel
set_option maxRecDepth 100000 in
theorem mk_X4_init : z_mokb lw_tbl vwCl z_tyq z_P z_PX me_X4_init = true := by decide +kernel
set_option maxRecDepth 100000 in
theorem mk_X4_renew : z_mokb lw_tbl vwCl z_tyq z_P z_PX me_X4_renew = true := by decide +kernel
set_option maxRecDepth 100000 in
theorem mk_X4_write : z_mokb lw_tbl vwCl z_tyq z_P z_PX me_X4_write = true := by decide +kernel
set_option maxRecDepth 100000 in
theorem mk_X4_faultAs : z_mokb lw_tbl vwCl z_tyq z_P z_PX me_X4_faultAs = true := by decide +kernel
set_option maxRecDepth 100000 in
theorem mk_X4_faultAt : z_mokb lw_tbl vwCl z_tyq z_P z_PX me_X4_faultAt = true := by decide +kernel
set_option maxRecDepth 100000 in
theorem mk_X4_faultOfCells : z_mokb lw_tbl vwCl z_tyq z_P z_PX me_X4_faultOfCells = true := by decide +kernel
set_option maxRecDepth 100000 in
theorem mk_X5_init : z_mokb lw_tbl vwCl z_tyq z_P z_PX me_X5_init = true := by decide +kernel
set_option maxRecDepth 100000 in
theorem mk_X5_fewest : z_mokb lw_tbl vwCl z_tyq z_P z_PX me_X5_fewest = true := by decide +kernel
set_option maxRecDepth 100000 in
theorem mk_X5_signOfRow : z_mokb lw_tbl vwCl z_tyq z_P z_PX me_X5_signOfRow = true := by decide +kernel
set_option maxRecDepth 100000 in
theorem mk_X5_heaviest : z_mokb lw_tbl vwCl z_tyq z_P z_PX me_X5_heaviest = true := by decide +kernel
set_option maxRecDepth 100000 in
theorem mk_X5_firstOfAtLeast : z_mokb lw_tbl vwCl z_tyq z_P z_PX me_X5_firstOfAtLeast = true := by decide +kernel
set_option maxRecDepth 100000 in
theorem mk_X5_thatWeigh : z_mokb lw_tbl vwCl z_tyq z_P z_PX me_X5_thatWeigh = true := by decide +kernel
set_option maxRecDepth 100000 in
theorem mk_X5_waysByOneMore : z_mokb lw_tbl vwCl z_tyq z_P z_PX me_X5_waysByOneMore = true := by decide +kernel
set_option maxRecDepth 100000 in
theorem mk_X6_init : z_mokb lw_tbl vwCl z_tyq z_P z_PX me_X6_init = true := by decide +kernel
set_option maxRecDepth 100000 in
theorem mk_X6_choose : z_mokb lw_tbl vwCl z_tyq z_P z_PX me_X6_choose = true := by decide +kernel
set_option maxRecDepth 100000 in
theorem mk_X6_signFor : z_mokb lw_tbl vwCl z_tyq z_P z_PX me_X6_signFor = true := by decide +kernel
set_option maxRecDepth 100000 in
theorem mk_X6_tryFrom : z_mokb lw_tbl vwCl z_tyq z_P z_PX me_X6_tryFrom = true := by decide +kernel
set_option maxRecDepth 100000 in
theorem mk_X6_keepIfBetter : z_mokb lw_tbl vwCl z_tyq z_P z_PX me_X6_keepIfBetter = true := by decide +kernel
set_option maxRecDepth 100000 in
theorem mk_X7_init : z_mokb lw_tbl vwCl z_tyq z_P z_PX me_X7_init = true := by decide +kernel
set_option maxRecDepth 100000 in
theorem mk_X7_lay : z_mokb lw_tbl vwCl z_tyq z_P z_PX me_X7_lay = true := by decide +kernel
set_option maxRecDepth 100000 in
theorem mk_X7_sitsFrom : z_mokb lw_tbl vwCl z_tyq z_P z_PX me_X7_sitsFrom = true := by decide +kernel
set_option maxRecDepth 100000 in
theorem mk_X7_isFree : z_mokb lw_tbl vwCl z_tyq z_P z_PX me_X7_isFree = true := by decide +kernel
set_option maxRecDepth 100000 in
theorem mk_X7_clash : z_mokb lw_tbl vwCl z_tyq z_P z_PX me_X7_clash = true := by decide +kernel
set_option maxRecDepth 100000 in
theorem mk_X8_init : z_mokb lw_tbl vwCl z_tyq z_P z_PX me_X8_init = true := by decide +kernel
set_option maxRecDepth 100000 in
theorem mk_X8_firstFault : z_mokb lw_tbl vwCl z_tyq z_P z_PX me_X8_firstFault = true := by decide +kernel
set_option maxRecDepth 100000 in
theorem mk_X8_goesOn : z_mokb lw_tbl vwCl z_tyq z_P z_PX me_X8_goesOn = true := by decide +kernel
set_option maxRecDepth 100000 in
theorem mk_X8_nextSign : z_mokb lw_tbl vwCl z_tyq z_P z_PX me_X8_nextSign = true := by decide +kernel
set_option maxRecDepth 100000 in
theorem mk_X8_nextGuest : z_mokb lw_tbl vwCl z_tyq z_P z_PX me_X8_nextGuest = true := by decide +kernel
set_option maxRecDepth 100000 in
theorem mk_X8_letter : z_mokb lw_tbl vwCl z_tyq z_P z_PX me_X8_letter = true := by decide +kernel
set_option maxRecDepth 100000 in
theorem mk_X8_digitOfGuest : z_mokb lw_tbl vwCl z_tyq z_P z_PX me_X8_digitOfGuest = true := by decide +kernel
set_option maxRecDepth 100000 in
theorem mk_X9_init : z_mokb lw_tbl vwCl z_tyq z_P z_PX me_X9_init = true := by decide +kernel
set_option maxRecDepth 100000 in
theorem mk_X9_hotel : z_mokb lw_tbl vwCl z_tyq z_P z_PX me_X9_hotel = true := by decide +kernel
set_option maxRecDepth 100000 in
theorem mk_X9_ofGuest : z_mokb lw_tbl vwCl z_tyq z_P z_PX me_X9_ofGuest = true := by decide +kernel
set_option maxRecDepth 100000 in
theorem mk_X9_hint : z_mokb lw_tbl vwCl z_tyq z_P z_PX me_X9_hint = true := by decide +kernel
set_option maxRecDepth 100000 in
theorem mk_X9_word : z_mokb lw_tbl vwCl z_tyq z_P z_PX me_X9_word = true := by decide +kernel
set_option maxRecDepth 100000 in
theorem mk_X9_weighs : z_mokb lw_tbl vwCl z_tyq z_P z_PX me_X9_weighs = true := by decide +kernel
set_option maxRecDepth 100000 in
theorem mk_X9_seat : z_mokb lw_tbl vwCl z_tyq z_P z_PX me_X9_seat = true := by decide +kernel
set_option maxRecDepth 100000 in
theorem mk_X9_give : z_mokb lw_tbl vwCl z_tyq z_P z_PX me_X9_give = true := by decide +kernel
set_option maxRecDepth 100000 in
theorem mk_X9_nights : z_mokb lw_tbl vwCl z_tyq z_P z_PX me_X9_nights = true := by decide +kernel
set_option maxRecDepth 100000 in
theorem mk_X9_arrive : z_mokb lw_tbl vwCl z_tyq z_P z_PX me_X9_arrive = true := by decide +kernel
set_option maxRecDepth 100000 in
theorem mk_X9_leave : z_mokb lw_tbl vwCl z_tyq z_P z_PX me_X9_leave = true := by decide +kernel
set_option maxRecDepth 100000 in
theorem mk_X9_dinner : z_mokb lw_tbl vwCl z_tyq z_P z_PX me_X9_dinner = true := by decide +kernel
set_option maxRecDepth 100000 in
theorem mk_X9_softly : z_mokb lw_tbl vwCl z_tyq z_P z_PX me_X9_softly = true := by decide +kernel
set_option maxRecDepth 100000 in
theorem mk_X9_just : z_mokb lw_tbl vwCl z_tyq z_P z_PX me_X9_just = true := by decide +kernel
set_option maxRecDepth 100000 in
theorem mk_X9_apart : z_mokb lw_tbl vwCl z_tyq z_P z_PX me_X9_apart = true := by decide +kernel
set_option maxRecDepth 100000 in
theorem mk_X9_best : z_mokb lw_tbl vwCl z_tyq z_P z_PX me_X9_best = true := by decide +kernel
set_option maxRecDepth 100000 in
theorem mk_X9_reading : z_mokb lw_tbl vwCl z_tyq z_P z_PX me_X9_reading = true := by decide +kernel
set_option maxRecDepth 100000 in
theorem mk_X9_back : z_mokb lw_tbl vwCl z_tyq z_P z_PX me_X9_back = true := by decide +kernel
set_option maxRecDepth 100000 in
theorem mk_X9_bearings : z_mokb lw_tbl vwCl z_tyq z_P z_PX me_X9_bearings = true := by decide +kernel
set_option maxRecDepth 100000 in
theorem mk_X9_kinds : z_mokb lw_tbl vwCl z_tyq z_P z_PX me_X9_kinds = true := by decide +kernel
set_option maxRecDepth 100000 in
theorem mk_X9_hintings : z_mokb lw_tbl vwCl z_tyq z_P z_PX me_X9_hintings = true := by decide +kernel
set_option maxRecDepth 100000 in
theorem mk_X9_odds : z_mokb lw_tbl vwCl z_tyq z_P z_PX me_X9_odds = true := by decide +kernel
set_option maxRecDepth 100000 in
theorem mk_X9_sheet : z_mokb lw_tbl vwCl z_tyq z_P z_PX me_X9_sheet = true := by decide +kernel
set_option maxRecDepth 100000 in
theorem mk_X9_lose : z_mokb lw_tbl vwCl z_tyq z_P z_PX me_X9_lose = true := by decide +kernel
set_option maxRecDepth 100000 in
theorem mk_X9_put : z_mokb lw_tbl vwCl z_tyq z_P z_PX me_X9_put = true := by decide +kernel
set_option maxRecDepth 100000 in
theorem mk_X9_cell : z_mokb lw_tbl vwCl z_tyq z_P z_PX me_X9_cell = true := by decide +kernel
set_option maxRecDepth 100000 in
theorem mk_X9_copy : z_mokb lw_tbl vwCl z_tyq z_P z_PX me_X9_copy = true := by decide +kernel
set_option maxRecDepth 100000 in
theorem mk_X9_tell : z_mokb lw_tbl vwCl z_tyq z_P z_PX me_X9_tell = true := by decide +kernel
set_option maxRecDepth 100000 in
theorem mk_X9_bow : z_mokb lw_tbl vwCl z_tyq z_P z_PX me_X9_bow = true := by decide +kernel
set_option maxRecDepth 100000 in
theorem mk_X9_as : z_mokb lw_tbl vwCl z_tyq z_P z_PX me_X9_as = true := by decide +kernel
set_option maxRecDepth 100000 in
theorem mk_X9_trace : z_mokb lw_tbl vwCl z_tyq z_P z_PX me_X9_trace = true := by decide +kernel
set_option maxRecDepth 100000 in
theorem mk_X9_fault : z_mokb lw_tbl vwCl z_tyq z_P z_PX me_X9_fault = true := by decide +kernel
set_option maxRecDepth 100000 in
theorem mk_X9_many : z_mokb lw_tbl vwCl z_tyq z_P z_PX me_X9_many = true := by decide +kernel
set_option maxRecDepth 100000 in
theorem mk_X9_within : z_mokb lw_tbl vwCl z_tyq z_P z_PX me_X9_within = true := by decide +kernel
set_option maxRecDepth 100000 in
theorem mk_X9_isSheet : z_mokb lw_tbl vwCl z_tyq z_P z_PX me_X9_isSheet = true := by decide +kernel
set_option maxRecDepth 100000 in
theorem mk_X9_isSign : z_mokb lw_tbl vwCl z_tyq z_P z_PX me_X9_isSign = true := by decide +kernel
set_option maxRecDepth 100000 in
theorem mk_X9_isGuest : z_mokb lw_tbl vwCl z_tyq z_P z_PX me_X9_isGuest = true := by decide +kernel
set_option maxRecDepth 100000 in
theorem mk_X9_isDinnerQuestion : z_mokb lw_tbl vwCl z_tyq z_P z_PX me_X9_isDinnerQuestion = true := by decide +kernel
set_option maxRecDepth 100000 in
theorem mk_X9_failed : z_mokb lw_tbl vwCl z_tyq z_P z_PX me_X9_failed = true := by decide +kernel
set_option maxRecDepth 100000 in
theorem mk_X9_commonDivisor : z_mokb lw_tbl vwCl z_tyq z_P z_PX me_X9_commonDivisor = true := by decide +kernel
set_option maxRecDepth 100000 in
theorem mk_X9_begin : z_mokb lw_tbl vwCl z_tyq z_P z_PX me_X9_begin = true := by decide +kernel
set_option maxRecDepth 100000 in
theorem mk_X9_missTells : z_mokb lw_tbl vwCl z_tyq z_P z_PX me_X9_missTells = true := by decide +kernel
set_option maxRecDepth 100000 in
theorem mk_X9_colonelTells : z_mokb lw_tbl vwCl z_tyq z_P z_PX me_X9_colonelTells = true := by decide +kernel
set_option maxRecDepth 100000 in
theorem mk_X9_brokerTells : z_mokb lw_tbl vwCl z_tyq z_P z_PX me_X9_brokerTells = true := by decide +kernel
set_option maxRecDepth 100000 in
theorem mk_X10_init : z_mokb lw_tbl vwCl z_tyq z_P z_PX me_X10_init = true := by decide +kernel
set_option maxRecDepth 100000 in
theorem mk_X10_fails : z_mokb lw_tbl vwCl z_tyq z_P z_PX me_X10_fails = true := by decide +kernel
set_option maxRecDepth 100000 in
theorem mk_X10_lost : z_mokb lw_tbl vwCl z_tyq z_P z_PX me_X10_lost = true := by decide +kernel
set_option maxRecDepth 100000 in
theorem mk_X10_within : z_mokb lw_tbl vwCl z_tyq z_P z_PX me_X10_within = true := by decide +kernel
set_option maxRecDepth 100000 in
theorem mk_X10_isSheet : z_mokb lw_tbl vwCl z_tyq z_P z_PX me_X10_isSheet = true := by decide +kernel
set_option maxRecDepth 100000 in
theorem mk_X10_isSort : z_mokb lw_tbl vwCl z_tyq z_P z_PX me_X10_isSort = true := by decide +kernel
set_option maxRecDepth 100000 in
theorem mk_X10_against : z_mokb lw_tbl vwCl z_tyq z_P z_PX me_X10_against = true := by decide +kernel
set_option maxRecDepth 100000 in
theorem mk_X10_isSignOf : z_mokb lw_tbl vwCl z_tyq z_P z_PX me_X10_isSignOf = true := by decide +kernel
set_option maxRecDepth 100000 in
theorem mk_X10_isGuest : z_mokb lw_tbl vwCl z_tyq z_P z_PX me_X10_isGuest = true := by decide +kernel
set_option maxRecDepth 100000 in
theorem mk_X10_isTable : z_mokb lw_tbl vwCl z_tyq z_P z_PX me_X10_isTable = true := by decide +kernel
set_option maxRecDepth 100000 in
theorem mk_X10_isOf : z_mokb lw_tbl vwCl z_tyq z_P z_PX me_X10_isOf = true := by decide +kernel
set_option maxRecDepth 100000 in
theorem mk_X10_size : z_mokb lw_tbl vwCl z_tyq z_P z_PX me_X10_size = true := by decide +kernel
set_option maxRecDepth 100000 in
theorem mk_X10_digit : z_mokb lw_tbl vwCl z_tyq z_P z_PX me_X10_digit = true := by decide +kernel
set_option maxRecDepth 100000 in
theorem mk_X10_isSign : z_mokb lw_tbl vwCl z_tyq z_P z_PX me_X10_isSign = true := by decide +kernel
set_option maxRecDepth 100000 in
theorem mk_X10_hotel : z_mokb lw_tbl vwCl z_tyq z_P z_PX me_X10_hotel = true := by decide +kernel
set_option maxRecDepth 100000 in
theorem mk_X10_takeHotel : z_mokb lw_tbl vwCl z_tyq z_P z_PX me_X10_takeHotel = true := by decide +kernel
set_option maxRecDepth 100000 in
theorem mk_X10_readHotel : z_mokb lw_tbl vwCl z_tyq z_P z_PX me_X10_readHotel = true := by decide +kernel
set_option maxRecDepth 100000 in
theorem mk_X10_readTheSigns : z_mokb lw_tbl vwCl z_tyq z_P z_PX me_X10_readTheSigns = true := by decide +kernel
set_option maxRecDepth 100000 in
theorem mk_X10_readGuest : z_mokb lw_tbl vwCl z_tyq z_P z_PX me_X10_readGuest = true := by decide +kernel
set_option maxRecDepth 100000 in
theorem mk_X10_weighsOf : z_mokb lw_tbl vwCl z_tyq z_P z_PX me_X10_weighsOf = true := by decide +kernel
set_option maxRecDepth 100000 in
theorem mk_X10_ofGuest : z_mokb lw_tbl vwCl z_tyq z_P z_PX me_X10_ofGuest = true := by decide +kernel
set_option maxRecDepth 100000 in
theorem mk_X10_hint : z_mokb lw_tbl vwCl z_tyq z_P z_PX me_X10_hint = true := by decide +kernel
set_option maxRecDepth 100000 in
theorem mk_X10_word : z_mokb lw_tbl vwCl z_tyq z_P z_PX me_X10_word = true := by decide +kernel
set_option maxRecDepth 100000 in
theorem mk_X10_weighs : z_mokb lw_tbl vwCl z_tyq z_P z_PX me_X10_weighs = true := by decide +kernel
set_option maxRecDepth 100000 in
theorem mk_X10_seat : z_mokb lw_tbl vwCl z_tyq z_P z_PX me_X10_seat = true := by decide +kernel
set_option maxRecDepth 100000 in
theorem mk_X10_nextToKnow : z_mokb lw_tbl vwCl z_tyq z_P z_PX me_X10_nextToKnow = true := by decide +kernel
set_option maxRecDepth 100000 in
theorem mk_X10_dawns : z_mokb lw_tbl vwCl z_tyq z_P z_PX me_X10_dawns = true := by decide +kernel
set_option maxRecDepth 100000 in
theorem mk_X10_isGiven : z_mokb lw_tbl vwCl z_tyq z_P z_PX me_X10_isGiven = true := by decide +kernel
set_option maxRecDepth 100000 in
theorem mk_X10_give : z_mokb lw_tbl vwCl z_tyq z_P z_PX me_X10_give = true := by decide +kernel
set_option maxRecDepth 100000 in
theorem mk_X10_oneNight : z_mokb lw_tbl vwCl z_tyq z_P z_PX me_X10_oneNight = true := by decide +kernel
set_option maxRecDepth 100000 in
theorem mk_X10_nights : z_mokb lw_tbl vwCl z_tyq z_P z_PX me_X10_nights = true := by decide +kernel
set_option maxRecDepth 100000 in
theorem mk_X10_arrive : z_mokb lw_tbl vwCl z_tyq z_P z_PX me_X10_arrive = true := by decide +kernel
set_option maxRecDepth 100000 in
theorem mk_X10_without : z_mokb lw_tbl vwCl z_tyq z_P z_PX me_X10_without = true := by decide +kernel
set_option maxRecDepth 100000 in
theorem mk_X10_leave : z_mokb lw_tbl vwCl z_tyq z_P z_PX me_X10_leave = true := by decide +kernel
set_option maxRecDepth 100000 in
theorem mk_X10_keep : z_mokb lw_tbl vwCl z_tyq z_P z_PX me_X10_keep = true := by decide +kernel
set_option maxRecDepth 100000 in
theorem mk_X10_putBack : z_mokb lw_tbl vwCl z_tyq z_P z_PX me_X10_putBack = true := by decide +kernel
set_option maxRecDepth 100000 in
theorem mk_X10_does : z_mokb lw_tbl vwCl z_tyq z_P z_PX me_X10_does = true := by decide +kernel
set_option maxRecDepth 100000 in
theorem mk_X10_goDinner : z_mokb lw_tbl vwCl z_tyq z_P z_PX me_X10_goDinner = true := by decide +kernel
set_option maxRecDepth 100000 in
theorem mk_X10_refusesPair : z_mokb lw_tbl vwCl z_tyq z_P z_PX me_X10_refusesPair = true := by decide +kernel
set_option maxRecDepth 100000 in
theorem mk_X10_dinner : z_mokb lw_tbl vwCl z_tyq z_P z_PX me_X10_dinner = true := by decide +kernel
set_option maxRecDepth 100000 in
theorem mk_X10_tellDinner : z_mokb lw_tbl vwCl z_tyq z_P z_PX me_X10_tellDinner = true := by decide +kernel
set_option maxRecDepth 100000 in
theorem mk_X10_isSoft : z_mokb lw_tbl vwCl z_tyq z_P z_PX me_X10_isSoft = true := by decide +kernel
set_option maxRecDepth 100000 in
theorem mk_X10_heaviest : z_mokb lw_tbl vwCl z_tyq z_P z_PX me_X10_heaviest = true := by decide +kernel
set_option maxRecDepth 100000 in
theorem mk_X10_softly : z_mokb lw_tbl vwCl z_tyq z_P z_PX me_X10_softly = true := by decide +kernel
set_option maxRecDepth 100000 in
theorem mk_X10_just : z_mokb lw_tbl vwCl z_tyq z_P z_PX me_X10_just = true := by decide +kernel
set_option maxRecDepth 100000 in
theorem mk_X10_canSit : z_mokb lw_tbl vwCl z_tyq z_P z_PX me_X10_canSit = true := by decide +kernel
set_option maxRecDepth 100000 in
theorem mk_X10_findTables : z_mokb lw_tbl vwCl z_tyq z_P z_PX me_X10_findTables = true := by decide +kernel
set_option maxRecDepth 100000 in
theorem mk_X10_apart : z_mokb lw_tbl vwCl z_tyq z_P z_PX me_X10_apart = true := by decide +kernel
set_option maxRecDepth 100000 in
theorem mk_X10_canGive : z_mokb lw_tbl vwCl z_tyq z_P z_PX me_X10_canGive = true := by decide +kernel
set_option maxRecDepth 100000 in
theorem mk_X10_tryRow : z_mokb lw_tbl vwCl z_tyq z_P z_PX me_X10_tryRow = true := by decide +kernel
set_option maxRecDepth 100000 in
theorem mk_X10_best : z_mokb lw_tbl vwCl z_tyq z_P z_PX me_X10_best = true := by decide +kernel
set_option maxRecDepth 100000 in
theorem mk_X10_reading : z_mokb lw_tbl vwCl z_tyq z_P z_PX me_X10_reading = true := by decide +kernel
set_option maxRecDepth 100000 in
theorem mk_X10_back : z_mokb lw_tbl vwCl z_tyq z_P z_PX me_X10_back = true := by decide +kernel
set_option maxRecDepth 100000 in
theorem mk_X10_areSo : z_mokb lw_tbl vwCl z_tyq z_P z_PX me_X10_areSo = true := by decide +kernel
set_option maxRecDepth 100000 in
theorem mk_X10_bearings : z_mokb lw_tbl vwCl z_tyq z_P z_PX me_X10_bearings = true := by decide +kernel
set_option maxRecDepth 100000 in
theorem mk_X10_kinds : z_mokb lw_tbl vwCl z_tyq z_P z_PX me_X10_kinds = true := by decide +kernel
set_option maxRecDepth 100000 in
theorem mk_X10_hintings : z_mokb lw_tbl vwCl z_tyq z_P z_PX me_X10_hintings = true := by decide +kernel
set_option maxRecDepth 100000 in
theorem mk_X10_inLeastTerms : z_mokb lw_tbl vwCl z_tyq z_P z_PX me_X10_inLeastTerms = true := by decide +kernel
set_option maxRecDepth 100000 in
theorem mk_X10_odds : z_mokb lw_tbl vwCl z_tyq z_P z_PX me_X10_odds = true := by decide +kernel
set_option maxRecDepth 100000 in
theorem mk_X10_sheet : z_mokb lw_tbl vwCl z_tyq z_P z_PX me_X10_sheet = true := by decide +kernel
set_option maxRecDepth 100000 in
theorem mk_X10_lose : z_mokb lw_tbl vwCl z_tyq z_P z_PX me_X10_lose = true := by decide +kernel
set_option maxRecDepth 100000 in
theorem mk_X10_put : z_mokb lw_tbl vwCl z_tyq z_P z_PX me_X10_put = true := by decide +kernel
set_option maxRecDepth 100000 in
theorem mk_X10_cell : z_mokb lw_tbl vwCl z_tyq z_P z_PX me_X10_cell = true := by decide +kernel
set_option maxRecDepth 100000 in
theorem mk_X10_copy : z_mokb lw_tbl vwCl z_tyq z_P z_PX me_X10_copy = true := by decide +kernel
set_option maxRecDepth 100000 in
theorem mk_X10_begins : z_mokb lw_tbl vwCl z_tyq z_P z_PX me_X10_begins = true := by decide +kernel
set_option maxRecDepth 100000 in
theorem mk_X10_tell : z_mokb lw_tbl vwCl z_tyq z_P z_PX me_X10_tell = true := by decide +kernel
set_option maxRecDepth 100000 in
theorem mk_X10_bow : z_mokb lw_tbl vwCl z_tyq z_P z_PX me_X10_bow = true := by decide +kernel
set_option maxRecDepth 100000 in
theorem mk_X10_as : z_mokb lw_tbl vwCl z_tyq z_P z_PX me_X10_as = true := by decide +kernel
set_option maxRecDepth 100000 in
theorem mk_X10_trace : z_mokb lw_tbl vwCl z_tyq z_P z_PX me_X10_trace = true := by decide +kernel
set_option maxRecDepth 100000 in
theorem mk_X10_fault : z_mokb lw_tbl vwCl z_tyq z_P z_PX me_X10_fault = true := by decide +kernel
set_option maxRecDepth 100000 in
theorem mk_X10_many : z_mokb lw_tbl vwCl z_tyq z_P z_PX me_X10_many = true := by decide +kernel
set_option maxRecDepth 100000 in
theorem mk_Integer_bitCount : z_mokb lw_tbl vwCl z_tyq z_P z_PX me_Integer_bitCount = true := by decide +kernel
def z_mokab (Tb : List Jvm.Cond) (cl : List vw_C) (tyq : Nat → Nat → FieldType) (P : List z_Me) (PX : List (List Nat)) (me : z_Me) : Bool := me.2.2.2.2.1.all (fun x => z_chka Tb cl tyq P PX me.1.cls x.2.1 x.2.2.1 x.2.2.2.1 x.2.2.2.2.2) && decide (me.2.2.2.1 = none) && decide (me.1.name = "<init>") && decide (decode me.2.1 (z_stop me.2.2.2.2.1) = .ok (.return_, 1))
theorem z_moka_of {Tb : List Jvm.Cond} {cl : List vw_C} {tyq : Nat → Nat → FieldType} {P : List z_Me} {PX : List (List Nat)} {me : z_Me} (h0 : z_mokb Tb cl tyq P PX me = true) (h : z_mokab Tb cl tyq P PX me = true) (hl : me.1.cls ≠ z_lawn) : z_moka Tb cl tyq P PX me := by
  obtain ⟨k1, k2, k3, k4, k5⟩ := z_mok_of h0 hl
  unfold z_mokab at h
  simp only [Bool.and_eq_true, decide_eq_true_eq, List.all_eq_true] at h
  obtain ⟨⟨⟨h1, h2⟩, h3⟩, h4⟩ := h
  exact ⟨k1, fun x hx => ⟨k2 x hx, h1 x hx⟩, k3, h2, hl, h3, h4⟩
set_option maxRecDepth 100000 in
theorem mka_X0_init : z_mokab lw_tbl vwCl z_tyq z_P z_PX me_X0_init = true := by decide +kernel
set_option maxRecDepth 100000 in
theorem mka_X1_init : z_mokab lw_tbl vwCl z_tyq z_P z_PX me_X1_init = true := by decide +kernel
set_option maxRecDepth 100000 in
theorem mka_X2_init : z_mokab lw_tbl vwCl z_tyq z_P z_PX me_X2_init = true := by decide +kernel
set_option maxRecDepth 100000 in
theorem mka_X3_init : z_mokab lw_tbl vwCl z_tyq z_P z_PX me_X3_init = true := by decide +kernel
set_option maxRecDepth 100000 in
theorem mka_X4_init : z_mokab lw_tbl vwCl z_tyq z_P z_PX me_X4_init = true := by decide +kernel
set_option maxRecDepth 100000 in
theorem mka_X5_init : z_mokab lw_tbl vwCl z_tyq z_P z_PX me_X5_init = true := by decide +kernel
set_option maxRecDepth 100000 in
theorem mka_X6_init : z_mokab lw_tbl vwCl z_tyq z_P z_PX me_X6_init = true := by decide +kernel
set_option maxRecDepth 100000 in
theorem mka_X7_init : z_mokab lw_tbl vwCl z_tyq z_P z_PX me_X7_init = true := by decide +kernel
set_option maxRecDepth 100000 in
theorem mka_X8_init : z_mokab lw_tbl vwCl z_tyq z_P z_PX me_X8_init = true := by decide +kernel
set_option maxRecDepth 100000 in
theorem mka_X9_init : z_mokab lw_tbl vwCl z_tyq z_P z_PX me_X9_init = true := by decide +kernel
set_option maxRecDepth 100000 in
theorem mka_X10_init : z_mokab lw_tbl vwCl z_tyq z_P z_PX me_X10_init = true := by decide +kernel
def z_lawb (Tb : List Jvm.Cond) (cl : List vw_C) (tyq : Nat → Nat → FieldType) (P : List z_Me) (PX : List (List Nat)) (me : z_Me) (cd : List z_En) : Bool := cd.all (fun x => z_chk Tb cl tyq me.1.cls x.1 x.2.1 x.2.2.1 x.2.2.2.1 x.2.2.2.2.1 x.2.2.2.2.2 && z_chkc Tb cl P PX me.1.cls x.2.1 x.2.2.1 x.2.2.2.1 x.2.2.2.2.2 && decide (decode me.2.1 x.1 = .ok (x.2.1, x.2.2.1)) && z_chka Tb cl tyq P PX me.1.cls x.2.1 x.2.2.1 x.2.2.2.1 x.2.2.2.2.2)
theorem z_law_split (cd : List z_En) (n : Nat) (f : z_En → Bool) (h1 : (cd.take n).all f = true) (h2 : (cd.drop n).all f = true) : cd.all f = true := by
  rw [← List.take_append_drop n cd, List.all_append, h1, h2]
  rfl
set_option maxRecDepth 100000 in
theorem mkl_0 : z_lawb lw_tbl vwCl z_tyq z_P z_PX me_L_law ((cd_L_law.drop 0).take 100) = true := by decide +kernel
set_option maxRecDepth 100000 in
theorem mkl_1 : z_lawb lw_tbl vwCl z_tyq z_P z_PX me_L_law ((cd_L_law.drop 100).take 100) = true := by decide +kernel
set_option maxRecDepth 100000 in
theorem mkl_2 : z_lawb lw_tbl vwCl z_tyq z_P z_PX me_L_law ((cd_L_law.drop 200).take 100) = true := by decide +kernel
set_option maxRecDepth 100000 in
theorem mkl_3 : z_lawb lw_tbl vwCl z_tyq z_P z_PX me_L_law ((cd_L_law.drop 300).take 100) = true := by decide +kernel
set_option maxRecDepth 100000 in
theorem mkl_4 : z_lawb lw_tbl vwCl z_tyq z_P z_PX me_L_law ((cd_L_law.drop 400).take 100) = true := by decide +kernel
set_option maxRecDepth 100000 in
theorem mkl_5 : z_lawb lw_tbl vwCl z_tyq z_P z_PX me_L_law ((cd_L_law.drop 500).take 100) = true := by decide +kernel
set_option maxRecDepth 100000 in
theorem mkl_6 : z_lawb lw_tbl vwCl z_tyq z_P z_PX me_L_law ((cd_L_law.drop 600).take 100) = true := by decide +kernel
set_option maxRecDepth 100000 in
theorem mkl_7 : z_lawb lw_tbl vwCl z_tyq z_P z_PX me_L_law ((cd_L_law.drop 700).take 100) = true := by decide +kernel
set_option maxRecDepth 100000 in
theorem mkl_8 : z_lawb lw_tbl vwCl z_tyq z_P z_PX me_L_law ((cd_L_law.drop 800).take 100) = true := by decide +kernel
theorem mkl_c : z_chn cd_L_law = true := by decide +kernel
end
section
/-! What each method does up to its next loop head: printed by wip/whole/gen/mk.py -/
set_option maxRecDepth 100000 in
theorem e_X0_refusal_0 (L : Nat) (xs : Nat → Int32) (C : Nat → List Value → z_M → Option z_R) (F : Nat) (x1 : Int32) (x2 : Nat) (x3 : Int32) (x4 : Int32) (m : z_M) : z_lp z_SH L xs C me_X0_refusal (F + 1) 0 [some (.ref 30), some (.int x1), some (.ref x2), some (.int x3), some (.int x4), none, none, none] [] m = z_lp z_SH L xs C me_X0_refusal F 3 [none, some (.int x1), some (.ref x2), some (.int x3), some (.int x4), some (.int 0), none, none] [] m := rfl
set_option maxRecDepth 100000 in
theorem e_X0_refusal_3 (L : Nat) (xs : Nat → Int32) (C : Nat → List Value → z_M → Option z_R) (F : Nat) (y1 : Int32) (y2 : Nat) (y3 : Int32) (y4 : Int32) (y5 : Int32) (m : z_M) : z_lp z_SH L xs C me_X0_refusal (F + 1) 3 [none, some (.int y1), some (.ref y2), some (.int y3), some (.int y4), some (.int y5), none, none] [] m = if y4 ≤ y5 then (some (0, 0, m)) else (Option.bind (z_ref z_SH y2 4 0) (fun r1 => z_g (z_ina z_SH r1 0 (y3 + (2 * y5))) (Option.bind (z_ref z_SH y2 4 0) (fun r2 => z_g (z_ina z_SH r2 0 ((y3 + (2 * y5)) + 1)) (if (m r2 ((y3 + (2 * y5)) + 1).toNatClampNeg) = 10 then (Option.bind (C 94 [.int (m r1 (y3 + (2 * y5)).toNatClampNeg), .int 0, .int 9] m) (fun r3 => if r3.1 = 0 then (some ((-2), 0, r3.2.2)) else (z_lp z_SH L xs C me_X0_refusal F 3 [none, some (.int y1), some (.ref y2), some (.int y3), some (.int y4), some (.int (y5 + 1)), none, none] [] r3.2.2))) else (Option.bind (C 6 [.int (m r2 ((y3 + (2 * y5)) + 1).toNatClampNeg)] m) (fun r4 => if r4.1 = 0 then (Option.bind (C 7 [.int (m r2 ((y3 + (2 * y5)) + 1).toNatClampNeg)] r4.2.2) (fun r5 => if r5.1 = 0 then (some ((-2), 0, r5.2.2)) else (if (m r1 (y3 + (2 * y5)).toNatClampNeg) < 0 then (some ((-1), 0, r5.2.2)) else (if (m r1 (y3 + (2 * y5)).toNatClampNeg) < y1 then (z_lp z_SH L xs C me_X0_refusal F 3 [none, some (.int y1), some (.ref y2), some (.int y3), some (.int y4), some (.int (y5 + 1)), none, none] [] r5.2.2) else (some ((-1), 0, r5.2.2)))))) else (if (m r1 (y3 + (2 * y5)).toNatClampNeg) < 0 then (some ((-1), 0, r4.2.2)) else (if (m r1 (y3 + (2 * y5)).toNatClampNeg) < y1 then (z_lp z_SH L xs C me_X0_refusal F 3 [none, some (.int y1), some (.ref y2), some (.int y3), some (.int y4), some (.int (y5 + 1)), none, none] [] r4.2.2) else (some ((-1), 0, r4.2.2))))))))))) := rfl
set_option maxRecDepth 100000 in
theorem e_X0_play_0 (L : Nat) (xs : Nat → Int32) (C : Nat → List Value → z_M → Option z_R) (F : Nat) (x2 : Nat) (x3 : Int32) (x4 : Int32) (m : z_M) : z_lp z_SH L xs C me_X0_play (F + 1) 0 [some (.ref 30), some (.ref 2), some (.ref x2), some (.int x3), some (.int x4), none, none, none] [] m = Option.bind (C 14 [.ref 31, .ref 2] m) (fun r1 => z_lp z_SH L xs C me_X0_play F 27 [some (.ref 30), none, some (.ref x2), some (.int x3), some (.int x4), some (.int 0), none, none] [] (z_up (z_up (z_up r1.2.2 30 1 (-9)) 30 2 0) 30 3 0)) := rfl
set_option maxRecDepth 100000 in
theorem e_X0_play_27 (L : Nat) (xs : Nat → Int32) (C : Nat → List Value → z_M → Option z_R) (F : Nat) (y2 : Nat) (y3 : Int32) (y4 : Int32) (y5 : Int32) (m : z_M) : z_lp z_SH L xs C me_X0_play (F + 1) 27 [some (.ref 30), none, some (.ref y2), some (.int y3), some (.int y4), some (.int y5), none, none] [] m = if y4 ≤ y5 then (some (0, 0, m)) else (if (m 30 1) = (-9) then (Option.bind (z_ref z_SH y2 4 0) (fun r1 => z_g (z_ina z_SH r1 0 (y3 + (2 * y5))) (Option.bind (z_ref z_SH y2 4 0) (fun r2 => z_g (z_ina z_SH r2 0 ((y3 + (2 * y5)) + 1)) (if (m r2 ((y3 + (2 * y5)) + 1).toNatClampNeg) = 10 then (Option.bind (C 23 [.ref 31, .int (m r1 (y3 + (2 * y5)).toNatClampNeg)] m) (fun r3 => z_lp z_SH L xs C me_X0_play F 27 [some (.ref 30), none, some (.ref y2), some (.int y3), some (.int y4), some (.int (y5 + 1)), none, none] [] r3.2.2)) else (Option.bind (C 7 [.int (m r2 ((y3 + (2 * y5)) + 1).toNatClampNeg)] m) (fun r4 => if r4.1 = 0 then (if (r4.2.2 31 2) ≤ (m r2 ((y3 + (2 * y5)) + 1).toNatClampNeg) then (z_lp z_SH L xs C me_X0_play F 27 [some (.ref 30), none, some (.ref y2), some (.int y3), some (.int y4), some (.int (y5 + 1)), none, none] [] (z_up r4.2.2 30 1 y5)) else (z_g (z_in 6 (m r1 (y3 + (2 * y5)).toNatClampNeg)) (z_g (z_okp z_SH (34 + (m r1 (y3 + (2 * y5)).toNatClampNeg).toNatClampNeg) 1 5 1) (if (z_b (r4.2.2 (34 + (m r1 (y3 + (2 * y5)).toNatClampNeg).toNatClampNeg) 5)) = 0 then (Option.bind (C 3 [.ref 30, .int (m r2 ((y3 + (2 * y5)) + 1).toNatClampNeg), .int (m r1 (y3 + (2 * y5)).toNatClampNeg)] r4.2.2) (fun r5 => z_lp z_SH L xs C me_X0_play F 27 [some (.ref 30), none, some (.ref y2), some (.int y3), some (.int y4), some (.int (y5 + 1)), none, none] [] r5.2.2)) else (z_lp z_SH L xs C me_X0_play F 27 [some (.ref 30), none, some (.ref y2), some (.int y3), some (.int y4), some (.int (y5 + 1)), none, none] [] (z_up r4.2.2 30 1 y5)))))) else (z_g (z_in 6 (m r1 (y3 + (2 * y5)).toNatClampNeg)) (z_g (z_okp z_SH (34 + (m r1 (y3 + (2 * y5)).toNatClampNeg).toNatClampNeg) 1 3 0) (z_lp z_SH L xs C me_X0_play F 27 [some (.ref 30), none, some (.ref y2), some (.int y3), some (.int y4), some (.int (y5 + 1)), none, none] [] (z_up r4.2.2 (34 + (m r1 (y3 + (2 * y5)).toNatClampNeg).toNatClampNeg) 3 ((m r2 ((y3 + (2 * y5)) + 1).toNatClampNeg) - 20)))))))))))) else (some (0, 0, m))) := rfl
set_option maxRecDepth 100000 in
theorem e_X0_serve_0 (L : Nat) (xs : Nat → Int32) (C : Nat → List Value → z_M → Option z_R) (F : Nat) (x1 : Int32) (x2 : Int32) (m : z_M) : z_lp z_SH L xs C me_X0_serve (F + 1) 0 [some (.ref 30), some (.int x1), some (.int x2), none] [] m = Option.bind (C 19 [.ref 31, .int x1, .int x2] m) (fun r1 => if r1.1 ≤ 0 then (some (0, 0, r1.2.2)) else (some (0, 0, z_up (z_up r1.2.2 30 2 ((r1.2.2 30 2) + r1.1)) 30 3 (((z_up r1.2.2 30 2 ((r1.2.2 30 2) + r1.1)) 30 3) + (r1.1 - 1))))) := rfl
set_option maxRecDepth 100000 in
theorem e_X0_answer_0 (L : Nat) (xs : Nat → Int32) (C : Nat → List Value → z_M → Option z_R) (F : Nat) (x1 : Int32) (m : z_M) : z_lp z_SH L xs C me_X0_answer (F + 1) 0 [some (.ref 30), some (.int x1)] [] m = if x1 = 1 then (some (m 30 1, 0, m)) else (if (m 30 1) = (-9) then (if x1 = nI 0 then (Option.bind (C 26 [.ref 31] m) (fun r1 => some (r1.1, 0, r1.2.2))) else if x1 = nI 1 then (Option.bind (C 5 [.ref 30, .int (x1 - 10)] m) (fun r2 => some (r2.1, 0, r2.2.2))) else if x1 = nI 2 then (Option.bind (C 27 [.ref 31] m) (fun r3 => some (r3.1, 0, r3.2.2))) else if x1 = nI 3 then (some (m 30 2, 0, m)) else if x1 = nI 4 then (some (m 30 3, 0, m)) else (Option.bind (C 5 [.ref 30, .int (x1 - 10)] m) (fun r4 => some (r4.1, 0, r4.2.2)))) else (some ((-100) - (m 30 1), 0, m))) := rfl
set_option maxRecDepth 100000 in
theorem e_X0_gatheredOf_0 (L : Nat) (xs : Nat → Int32) (C : Nat → List Value → z_M → Option z_R) (F : Nat) (x1 : Int32) (m : z_M) : z_lp z_SH L xs C me_X0_gatheredOf (F + 1) 0 [some (.ref 30), some (.int x1)] [] m = if x1 < 0 then (some ((-9), 0, m)) else (if (m 31 3) ≤ x1 then (some ((-9), 0, m)) else (z_g (z_in 6 x1) (z_g (z_okp z_SH (34 + x1.toNatClampNeg) 1 4 0) (some (m (34 + x1.toNatClampNeg) 4, 0, m))))) := rfl
set_option maxRecDepth 100000 in
theorem e_X0_isSignAct_0 (L : Nat) (xs : Nat → Int32) (C : Nat → List Value → z_M → Option z_R) (F : Nat) (x1 : Int32) (m : z_M) : z_lp z_SH L xs C me_X0_isSignAct (F + 1) 0 [some (.int x1)] [] m = Option.bind (C 94 [.int x1, .int 0, .int 4] m) (fun r1 => z_g (z_isb r1.1) (some (r1.1, 0, r1.2.2))) := rfl
set_option maxRecDepth 100000 in
theorem e_X0_isSeatAct_0 (L : Nat) (xs : Nat → Int32) (C : Nat → List Value → z_M → Option z_R) (F : Nat) (x1 : Int32) (m : z_M) : z_lp z_SH L xs C me_X0_isSeatAct (F + 1) 0 [some (.int x1)] [] m = Option.bind (C 94 [.int x1, .int 20, .int 25] m) (fun r1 => z_g (z_isb r1.1) (some (r1.1, 0, r1.2.2))) := rfl
set_option maxRecDepth 100000 in
theorem e_X1_checkIn_0 (L : Nat) (xs : Nat → Int32) (C : Nat → List Value → z_M → Option z_R) (F : Nat) (g : Nat) (x1 : Int32) (m : z_M) : z_lp z_SH L xs C me_X1_checkIn (F + 1) 0 [some (.ref g), some (.int x1)] [] m = z_g (z_okp z_SH g 1 0 0) (z_g (z_okp z_SH g 1 4 0) (z_g (z_okp z_SH g 1 5 1 && z_isb 0) (z_g (z_okp z_SH g 1 6 1 && z_isb 0) (some (0, 0, z_up (z_up (z_up (z_up m g 0 x1) g 4 0) g 5 0) g 6 0))))) := rfl
set_option maxRecDepth 100000 in
theorem e_X1_become_0 (L : Nat) (xs : Nat → Int32) (C : Nat → List Value → z_M → Option z_R) (F : Nat) (g : Nat) (x1 : Nat) (m : z_M) : z_lp z_SH L xs C me_X1_become (F + 1) 0 [some (.ref g), some (.ref x1)] [] m = z_g (z_okp z_SH x1 1 0 0) (z_g (z_okp z_SH g 1 0 0) (z_g (z_okp z_SH x1 1 1 0) (z_g (z_okp z_SH g 1 1 0) (z_g (z_okp z_SH x1 1 2 0) (z_g (z_okp z_SH g 1 2 0) (z_g (z_okp z_SH x1 1 3 0) (z_g (z_okp z_SH g 1 3 0) (z_g (z_okp z_SH x1 1 4 0) (z_g (z_okp z_SH g 1 4 0) (z_g (z_okp z_SH x1 1 5 1) (z_g (z_okp z_SH g 1 5 1 && z_isb (z_b ((z_up (z_up (z_up (z_up (z_up m g 0 (m x1 0)) g 1 ((z_up m g 0 (m x1 0)) x1 1)) g 2 ((z_up (z_up m g 0 (m x1 0)) g 1 ((z_up m g 0 (m x1 0)) x1 1)) x1 2)) g 3 ((z_up (z_up (z_up m g 0 (m x1 0)) g 1 ((z_up m g 0 (m x1 0)) x1 1)) g 2 ((z_up (z_up m g 0 (m x1 0)) g 1 ((z_up m g 0 (m x1 0)) x1 1)) x1 2)) x1 3)) g 4 ((z_up (z_up (z_up (z_up m g 0 (m x1 0)) g 1 ((z_up m g 0 (m x1 0)) x1 1)) g 2 ((z_up (z_up m g 0 (m x1 0)) g 1 ((z_up m g 0 (m x1 0)) x1 1)) x1 2)) g 3 ((z_up (z_up (z_up m g 0 (m x1 0)) g 1 ((z_up m g 0 (m x1 0)) x1 1)) g 2 ((z_up (z_up m g 0 (m x1 0)) g 1 ((z_up m g 0 (m x1 0)) x1 1)) x1 2)) x1 3)) x1 4)) x1 5))) (z_g (z_okp z_SH x1 1 6 1) (z_g (z_okp z_SH g 1 6 1 && z_isb (z_b ((z_up (z_up (z_up (z_up (z_up (z_up m g 0 (m x1 0)) g 1 ((z_up m g 0 (m x1 0)) x1 1)) g 2 ((z_up (z_up m g 0 (m x1 0)) g 1 ((z_up m g 0 (m x1 0)) x1 1)) x1 2)) g 3 ((z_up (z_up (z_up m g 0 (m x1 0)) g 1 ((z_up m g 0 (m x1 0)) x1 1)) g 2 ((z_up (z_up m g 0 (m x1 0)) g 1 ((z_up m g 0 (m x1 0)) x1 1)) x1 2)) x1 3)) g 4 ((z_up (z_up (z_up (z_up m g 0 (m x1 0)) g 1 ((z_up m g 0 (m x1 0)) x1 1)) g 2 ((z_up (z_up m g 0 (m x1 0)) g 1 ((z_up m g 0 (m x1 0)) x1 1)) x1 2)) g 3 ((z_up (z_up (z_up m g 0 (m x1 0)) g 1 ((z_up m g 0 (m x1 0)) x1 1)) g 2 ((z_up (z_up m g 0 (m x1 0)) g 1 ((z_up m g 0 (m x1 0)) x1 1)) x1 2)) x1 3)) x1 4)) g 5 (z_b ((z_up (z_up (z_up (z_up (z_up m g 0 (m x1 0)) g 1 ((z_up m g 0 (m x1 0)) x1 1)) g 2 ((z_up (z_up m g 0 (m x1 0)) g 1 ((z_up m g 0 (m x1 0)) x1 1)) x1 2)) g 3 ((z_up (z_up (z_up m g 0 (m x1 0)) g 1 ((z_up m g 0 (m x1 0)) x1 1)) g 2 ((z_up (z_up m g 0 (m x1 0)) g 1 ((z_up m g 0 (m x1 0)) x1 1)) x1 2)) x1 3)) g 4 ((z_up (z_up (z_up (z_up m g 0 (m x1 0)) g 1 ((z_up m g 0 (m x1 0)) x1 1)) g 2 ((z_up (z_up m g 0 (m x1 0)) g 1 ((z_up m g 0 (m x1 0)) x1 1)) x1 2)) g 3 ((z_up (z_up (z_up m g 0 (m x1 0)) g 1 ((z_up m g 0 (m x1 0)) x1 1)) g 2 ((z_up (z_up m g 0 (m x1 0)) g 1 ((z_up m g 0 (m x1 0)) x1 1)) x1 2)) x1 3)) x1 4)) x1 5))) x1 6))) (some (0, 0, z_up (z_up (z_up (z_up (z_up (z_up (z_up m g 0 (m x1 0)) g 1 ((z_up m g 0 (m x1 0)) x1 1)) g 2 ((z_up (z_up m g 0 (m x1 0)) g 1 ((z_up m g 0 (m x1 0)) x1 1)) x1 2)) g 3 ((z_up (z_up (z_up m g 0 (m x1 0)) g 1 ((z_up m g 0 (m x1 0)) x1 1)) g 2 ((z_up (z_up m g 0 (m x1 0)) g 1 ((z_up m g 0 (m x1 0)) x1 1)) x1 2)) x1 3)) g 4 ((z_up (z_up (z_up (z_up m g 0 (m x1 0)) g 1 ((z_up m g 0 (m x1 0)) x1 1)) g 2 ((z_up (z_up m g 0 (m x1 0)) g 1 ((z_up m g 0 (m x1 0)) x1 1)) x1 2)) g 3 ((z_up (z_up (z_up m g 0 (m x1 0)) g 1 ((z_up m g 0 (m x1 0)) x1 1)) g 2 ((z_up (z_up m g 0 (m x1 0)) g 1 ((z_up m g 0 (m x1 0)) x1 1)) x1 2)) x1 3)) x1 4)) g 5 (z_b ((z_up (z_up (z_up (z_up (z_up m g 0 (m x1 0)) g 1 ((z_up m g 0 (m x1 0)) x1 1)) g 2 ((z_up (z_up m g 0 (m x1 0)) g 1 ((z_up m g 0 (m x1 0)) x1 1)) x1 2)) g 3 ((z_up (z_up (z_up m g 0 (m x1 0)) g 1 ((z_up m g 0 (m x1 0)) x1 1)) g 2 ((z_up (z_up m g 0 (m x1 0)) g 1 ((z_up m g 0 (m x1 0)) x1 1)) x1 2)) x1 3)) g 4 ((z_up (z_up (z_up (z_up m g 0 (m x1 0)) g 1 ((z_up m g 0 (m x1 0)) x1 1)) g 2 ((z_up (z_up m g 0 (m x1 0)) g 1 ((z_up m g 0 (m x1 0)) x1 1)) x1 2)) g 3 ((z_up (z_up (z_up m g 0 (m x1 0)) g 1 ((z_up m g 0 (m x1 0)) x1 1)) g 2 ((z_up (z_up m g 0 (m x1 0)) g 1 ((z_up m g 0 (m x1 0)) x1 1)) x1 2)) x1 3)) x1 4)) x1 5))) g 6 (z_b ((z_up (z_up (z_up (z_up (z_up (z_up m g 0 (m x1 0)) g 1 ((z_up m g 0 (m x1 0)) x1 1)) g 2 ((z_up (z_up m g 0 (m x1 0)) g 1 ((z_up m g 0 (m x1 0)) x1 1)) x1 2)) g 3 ((z_up (z_up (z_up m g 0 (m x1 0)) g 1 ((z_up m g 0 (m x1 0)) x1 1)) g 2 ((z_up (z_up m g 0 (m x1 0)) g 1 ((z_up m g 0 (m x1 0)) x1 1)) x1 2)) x1 3)) g 4 ((z_up (z_up (z_up (z_up m g 0 (m x1 0)) g 1 ((z_up m g 0 (m x1 0)) x1 1)) g 2 ((z_up (z_up m g 0 (m x1 0)) g 1 ((z_up m g 0 (m x1 0)) x1 1)) x1 2)) g 3 ((z_up (z_up (z_up m g 0 (m x1 0)) g 1 ((z_up m g 0 (m x1 0)) x1 1)) g 2 ((z_up (z_up m g 0 (m x1 0)) g 1 ((z_up m g 0 (m x1 0)) x1 1)) x1 2)) x1 3)) x1 4)) g 5 (z_b ((z_up (z_up (z_up (z_up (z_up m g 0 (m x1 0)) g 1 ((z_up m g 0 (m x1 0)) x1 1)) g 2 ((z_up (z_up m g 0 (m x1 0)) g 1 ((z_up m g 0 (m x1 0)) x1 1)) x1 2)) g 3 ((z_up (z_up (z_up m g 0 (m x1 0)) g 1 ((z_up m g 0 (m x1 0)) x1 1)) g 2 ((z_up (z_up m g 0 (m x1 0)) g 1 ((z_up m g 0 (m x1 0)) x1 1)) x1 2)) x1 3)) g 4 ((z_up (z_up (z_up (z_up m g 0 (m x1 0)) g 1 ((z_up m g 0 (m x1 0)) x1 1)) g 2 ((z_up (z_up m g 0 (m x1 0)) g 1 ((z_up m g 0 (m x1 0)) x1 1)) x1 2)) g 3 ((z_up (z_up (z_up m g 0 (m x1 0)) g 1 ((z_up m g 0 (m x1 0)) x1 1)) g 2 ((z_up (z_up m g 0 (m x1 0)) g 1 ((z_up m g 0 (m x1 0)) x1 1)) x1 2)) x1 3)) x1 4)) x1 5))) x1 6))))))))))))))))) := rfl
set_option maxRecDepth 100000 in
theorem e_X2_stands_0 (L : Nat) (xs : Nat → Int32) (C : Nat → List Value → z_M → Option z_R) (F : Nat) {h : Nat} (hh : z_isH h) (m : z_M) : z_lp z_SH L xs C me_X2_stands (F + 1) 0 [some (.ref h)] [] m = if (m h 3) ≤ 0 then (some (0, 0, m)) else (some (1, 0, m)) := by rcases hh with rfl | rfl | rfl | rfl <;> rfl
set_option maxRecDepth 100000 in
theorem e_X2_clear_0 (L : Nat) (xs : Nat → Int32) (C : Nat → List Value → z_M → Option z_R) (F : Nat) {h : Nat} (hh : z_isH h) (m : z_M) : z_lp z_SH L xs C me_X2_clear (F + 1) 0 [some (.ref h)] [] m = some (0, 0, z_up (z_up (z_up m h 2 0) h 3 0) h 4 0) := by rcases hh with rfl | rfl | rfl | rfl <;> rfl
set_option maxRecDepth 100000 in
theorem e_X2_become_0 (L : Nat) (xs : Nat → Int32) (C : Nat → List Value → z_M → Option z_R) (F : Nat) {h : Nat} (hh : z_isH h) {o : Nat} (ho : z_isH o) (m : z_M) : z_lp z_SH L xs C me_X2_become (F + 1) 0 [some (.ref h), some (.ref o), none] [] m = z_lp z_SH L xs C me_X2_become F 26 [some (.ref h), some (.ref o), some (.int 0)] [] (z_up (z_up (z_up m h 2 (m o 2)) h 3 ((z_up m h 2 (m o 2)) o 3)) h 4 ((z_up (z_up m h 2 (m o 2)) h 3 ((z_up m h 2 (m o 2)) o 3)) o 4)) := by rcases hh with rfl | rfl | rfl | rfl <;> rcases ho with rfl | rfl | rfl | rfl <;> rfl
set_option maxRecDepth 100000 in
theorem e_X2_become_26 (L : Nat) (xs : Nat → Int32) (C : Nat → List Value → z_M → Option z_R) (F : Nat) {h : Nat} (hh : z_isH h) {o : Nat} (ho : z_isH o) (y2 : Int32) (m : z_M) : z_lp z_SH L xs C me_X2_become (F + 1) 26 [some (.ref h), some (.ref o), some (.int y2)] [] m = if 5 ≤ y2 then (z_lp z_SH L xs C me_X2_become F 51 [some (.ref h), some (.ref o), some (.int 0)] [] m) else (z_g (z_in 5 y2) (z_g (z_in 5 y2) (z_lp z_SH L xs C me_X2_become F 26 [some (.ref h), some (.ref o), some (.int (y2 + 1))] [] (z_up m (h + 1) y2.toNatClampNeg (m (o + 1) y2.toNatClampNeg))))) := by rcases hh with rfl | rfl | rfl | rfl <;> rcases ho with rfl | rfl | rfl | rfl <;> rfl
set_option maxRecDepth 100000 in
theorem e_X2_become_51 (L : Nat) (xs : Nat → Int32) (C : Nat → List Value → z_M → Option z_R) (F : Nat) {h : Nat} (hh : z_isH h) {o : Nat} (ho : z_isH o) (y2 : Int32) (m : z_M) : z_lp z_SH L xs C me_X2_become (F + 1) 51 [some (.ref h), some (.ref o), some (.int y2)] [] m = if 6 ≤ y2 then (some (0, 0, m)) else (z_g (z_in 6 y2) (z_g (z_in 6 y2) (z_g (z_okc z_SH (h + 3 + y2.toNatClampNeg) 1) (Option.bind (C 10 [.ref (h + 3 + y2.toNatClampNeg), .ref (o + 3 + y2.toNatClampNeg)] m) (fun r1 => z_lp z_SH L xs C me_X2_become F 51 [some (.ref h), some (.ref o), some (.int (y2 + 1))] [] r1.2.2))))) := by rcases hh with rfl | rfl | rfl | rfl <;> rcases ho with rfl | rfl | rfl | rfl <;> rfl
set_option maxRecDepth 100000 in
theorem e_X2_weight_0 (L : Nat) (xs : Nat → Int32) (C : Nat → List Value → z_M → Option z_R) (F : Nat) {h : Nat} (hh : z_isH h) (x1 : Int32) (x2 : Int32) (m : z_M) : z_lp z_SH L xs C me_X2_weight (F + 1) 0 [some (.ref h), some (.int x1), some (.int x2)] [] m = z_g (z_in 6 x2) (z_g (z_okp z_SH (h + 3 + x2.toNatClampNeg) 1 0 0) (if (m (h + 3 + x2.toNatClampNeg) 0) = nI 0 then (z_g (z_in 5 x1) (some (m (h + 1) x1.toNatClampNeg, 0, m))) else if (m (h + 3 + x2.toNatClampNeg) 0) = nI 1 then (z_g (z_in 5 x1) (some ((m (h + 1) x1.toNatClampNeg) - 1, 0, m))) else (z_g (z_in 5 x1) (z_g (decide (¬ (2 : Int32) = 0)) (some ((m (h + 1) x1.toNatClampNeg) / 2, 0, m)))))) := by rcases hh with rfl | rfl | rfl | rfl <;> rfl
set_option maxRecDepth 100000 in
theorem e_X2_shocks_0 (L : Nat) (xs : Nat → Int32) (C : Nat → List Value → z_M → Option z_R) (F : Nat) {h : Nat} (hh : z_isH h) (x1 : Int32) (x2 : Int32) (m : z_M) : z_lp z_SH L xs C me_X2_shocks (F + 1) 0 [some (.ref h), some (.int x1), some (.int x2)] [] m = Option.bind (C 15 [.ref h, .int x1, .int x2] m) (fun r1 => z_g (z_in 6 x2) (z_g (z_okp z_SH (h + 3 + x2.toNatClampNeg) 1 1 0) (if r1.1 ≤ (r1.2.2 (h + 3 + x2.toNatClampNeg) 1) then (some (0, 0, r1.2.2)) else (some (1, 0, r1.2.2))))) := by rcases hh with rfl | rfl | rfl | rfl <;> rfl
set_option maxRecDepth 100000 in
theorem e_X2_isSoft_0 (L : Nat) (xs : Nat → Int32) (C : Nat → List Value → z_M → Option z_R) (F : Nat) {h : Nat} (hh : z_isH h) (x1 : Int32) (x2 : Int32) (m : z_M) : z_lp z_SH L xs C me_X2_isSoft (F + 1) 0 [some (.ref h), some (.int x1), some (.int x2)] [] m = Option.bind (C 15 [.ref h, .int x1, .int x2] m) (fun r1 => if r1.1 ≤ 0 then (some (0, 0, r1.2.2)) else (Option.bind (C 16 [.ref h, .int x1, .int x2] r1.2.2) (fun r2 => if r2.1 = 0 then (some (1, 0, r2.2.2)) else (some (0, 0, r2.2.2))))) := by rcases hh with rfl | rfl | rfl | rfl <;> rfl
set_option maxRecDepth 100000 in
theorem e_X2_lack_0 (L : Nat) (xs : Nat → Int32) (C : Nat → List Value → z_M → Option z_R) (F : Nat) {h : Nat} (hh : z_isH h) (x1 : Int32) (m : z_M) : z_lp z_SH L xs C me_X2_lack (F + 1) 0 [some (.ref h), some (.int x1)] [] m = z_g (z_in 6 x1) (z_g (z_okp z_SH (h + 3 + x1.toNatClampNeg) 1 2 0) (z_g (z_in 6 x1) (z_g (z_okp z_SH (h + 3 + x1.toNatClampNeg) 1 4 0) (some ((m (h + 3 + x1.toNatClampNeg) 2) - (m (h + 3 + x1.toNatClampNeg) 4), 0, m))))) := by rcases hh with rfl | rfl | rfl | rfl <;> rfl
set_option maxRecDepth 100000 in
theorem e_X2_offer_0 (L : Nat) (xs : Nat → Int32) (C : Nat → List Value → z_M → Option z_R) (F : Nat) {h : Nat} (hh : z_isH h) (x1 : Int32) (x2 : Int32) (m : z_M) : z_lp z_SH L xs C me_X2_offer (F + 1) 0 [some (.ref h), some (.int x1), some (.int x2)] [] m = Option.bind (C 16 [.ref h, .int x1, .int x2] m) (fun r1 => if r1.1 = 0 then (z_g (z_in 6 x2) (z_g (z_okp z_SH (h + 3 + x2.toNatClampNeg) 1 4 0) (Option.bind (C 15 [.ref h, .int x1, .int x2] r1.2.2) (fun r2 => z_g (z_okp z_SH (h + 3 + x2.toNatClampNeg) 1 4 0) (Option.bind (C 20 [.ref h] (z_up r2.2.2 (h + 3 + x2.toNatClampNeg) 4 ((r1.2.2 (h + 3 + x2.toNatClampNeg) 4) + r2.1))) (fun r3 => some (r3.1, 0, r3.2.2))))))) else (z_g (z_in 6 x2) (z_g (z_okp z_SH (h + 3 + x2.toNatClampNeg) 1 6 1 && z_isb 1) (some ((-9), 0, z_up r1.2.2 (h + 3 + x2.toNatClampNeg) 6 1))))) := by rcases hh with rfl | rfl | rfl | rfl <;> rfl
set_option maxRecDepth 100000 in
theorem e_X2_dawn_0 (L : Nat) (xs : Nat → Int32) (C : Nat → List Value → z_M → Option z_R) (F : Nat) {h : Nat} (hh : z_isH h) (m : z_M) : z_lp z_SH L xs C me_X2_dawn (F + 1) 0 [some (.ref h), none, none] [] m = Option.bind (C 21 [.ref h] m) (fun r1 => z_lp z_SH L xs C me_X2_dawn F 7 [some (.ref h), some (.int 0), some (.int r1.1)] [] r1.2.2) := by rcases hh with rfl | rfl | rfl | rfl <;> rfl
set_option maxRecDepth 100000 in
theorem e_X2_dawn_7 (L : Nat) (xs : Nat → Int32) (C : Nat → List Value → z_M → Option z_R) (F : Nat) {h : Nat} (hh : z_isH h) (y1 : Int32) (y2 : Int32) (m : z_M) : z_lp z_SH L xs C me_X2_dawn (F + 1) 7 [some (.ref h), some (.int y1), some (.int y2)] [] m = if y2 < 0 then (some (y1, 0, m)) else (if 6 ≤ y1 then (some (y1, 0, m)) else (z_g (z_in 6 y2) (z_g (z_okp z_SH (h + 3 + y2.toNatClampNeg) 1 5 1 && z_isb 1) (z_g (z_in 6 y2) (z_g (z_okp z_SH (h + 3 + y2.toNatClampNeg) 1 3 0) (Option.bind (C 22 [.ref h, .int ((z_up m (h + 3 + y2.toNatClampNeg) 5 1) (h + 3 + y2.toNatClampNeg) 3)] (z_up m (h + 3 + y2.toNatClampNeg) 5 1)) (fun r1 => Option.bind (C 21 [.ref h] r1.2.2) (fun r2 => z_lp z_SH L xs C me_X2_dawn F 7 [some (.ref h), some (.int (y1 + 1)), some (.int r2.1)] [] r2.2.2)))))))) := by rcases hh with rfl | rfl | rfl | rfl <;> rfl
set_option maxRecDepth 100000 in
theorem e_X2_firstReady_0 (L : Nat) (xs : Nat → Int32) (C : Nat → List Value → z_M → Option z_R) (F : Nat) {h : Nat} (hh : z_isH h) (m : z_M) : z_lp z_SH L xs C me_X2_firstReady (F + 1) 0 [some (.ref h), none] [] m = z_lp z_SH L xs C me_X2_firstReady F 2 [some (.ref h), some (.int 0)] [] m := by rcases hh with rfl | rfl | rfl | rfl <;> rfl
set_option maxRecDepth 100000 in
theorem e_X2_firstReady_2 (L : Nat) (xs : Nat → Int32) (C : Nat → List Value → z_M → Option z_R) (F : Nat) {h : Nat} (hh : z_isH h) (y1 : Int32) (m : z_M) : z_lp z_SH L xs C me_X2_firstReady (F + 1) 2 [some (.ref h), some (.int y1)] [] m = if (m h 3) ≤ y1 then (some ((-1), 0, m)) else (z_g (z_in 6 y1) (z_g (z_okp z_SH (h + 3 + y1.toNatClampNeg) 1 5 1) (if (z_b (m (h + 3 + y1.toNatClampNeg) 5)) = 0 then (Option.bind (C 18 [.ref h, .int y1] m) (fun r1 => if 0 < r1.1 then (z_lp z_SH L xs C me_X2_firstReady F 2 [some (.ref h), some (.int (y1 + 1))] [] r1.2.2) else (some (y1, 0, r1.2.2)))) else (z_lp z_SH L xs C me_X2_firstReady F 2 [some (.ref h), some (.int (y1 + 1))] [] m)))) := by rcases hh with rfl | rfl | rfl | rfl <;> rfl
set_option maxRecDepth 100000 in
theorem e_X2_stir_0 (L : Nat) (xs : Nat → Int32) (C : Nat → List Value → z_M → Option z_R) (F : Nat) {h : Nat} (hh : z_isH h) (x1 : Int32) (m : z_M) : z_lp z_SH L xs C me_X2_stir (F + 1) 0 [some (.ref h), some (.int x1), none] [] m = z_lp z_SH L xs C me_X2_stir F 2 [some (.ref h), some (.int x1), some (.int 0)] [] m := by rcases hh with rfl | rfl | rfl | rfl <;> rfl
set_option maxRecDepth 100000 in
theorem e_X2_stir_2 (L : Nat) (xs : Nat → Int32) (C : Nat → List Value → z_M → Option z_R) (F : Nat) {h : Nat} (hh : z_isH h) (y1 : Int32) (y2 : Int32) (m : z_M) : z_lp z_SH L xs C me_X2_stir (F + 1) 2 [some (.ref h), some (.int y1), some (.int y2)] [] m = if (m h 3) ≤ y2 then (some (0, 0, m)) else (z_g (z_in 6 y2) (z_g (z_okp z_SH (h + 3 + y2.toNatClampNeg) 1 5 1) (if (z_b (m (h + 3 + y2.toNatClampNeg) 5)) = 0 then (z_g (z_in 6 y2) (z_g (z_okp z_SH (h + 3 + y2.toNatClampNeg) 1 3 0) (if (m (h + 3 + y2.toNatClampNeg) 3) = y1 then (z_g (z_in 6 y2) (z_g (z_okp z_SH (h + 3 + y2.toNatClampNeg) 1 4 0) (z_g (z_okp z_SH (h + 3 + y2.toNatClampNeg) 1 4 0) (z_lp z_SH L xs C me_X2_stir F 2 [some (.ref h), some (.int y1), some (.int (y2 + 1))] [] (z_up m (h + 3 + y2.toNatClampNeg) 4 ((m (h + 3 + y2.toNatClampNeg) 4) + 1)))))) else (z_lp z_SH L xs C me_X2_stir F 2 [some (.ref h), some (.int y1), some (.int (y2 + 1))] [] m)))) else (z_lp z_SH L xs C me_X2_stir F 2 [some (.ref h), some (.int y1), some (.int (y2 + 1))] [] m)))) := by rcases hh with rfl | rfl | rfl | rfl <;> rfl
set_option maxRecDepth 100000 in
theorem e_X2_sleep_0 (L : Nat) (xs : Nat → Int32) (C : Nat → List Value → z_M → Option z_R) (F : Nat) {h : Nat} (hh : z_isH h) (x1 : Int32) (m : z_M) : z_lp z_SH L xs C me_X2_sleep (F + 1) 0 [some (.ref h), some (.int x1), none] [] m = z_lp z_SH L xs C me_X2_sleep F 12 [some (.ref h), some (.int x1), some (.int 0)] [] (z_up m h 4 ((m h 4) + x1)) := by rcases hh with rfl | rfl | rfl | rfl <;> rfl
set_option maxRecDepth 100000 in
theorem e_X2_sleep_12 (L : Nat) (xs : Nat → Int32) (C : Nat → List Value → z_M → Option z_R) (F : Nat) {h : Nat} (hh : z_isH h) (y1 : Int32) (y2 : Int32) (m : z_M) : z_lp z_SH L xs C me_X2_sleep (F + 1) 12 [some (.ref h), some (.int y1), some (.int y2)] [] m = if (m h 3) ≤ y2 then (some (0, 0, m)) else (z_g (z_in 6 y2) (z_g (z_okp z_SH (h + 3 + y2.toNatClampNeg) 1 5 1) (if (z_b (m (h + 3 + y2.toNatClampNeg) 5)) = 0 then (z_g (z_in 6 y2) (z_g (z_in 6 y2) (z_g (z_okp z_SH (h + 3 + y2.toNatClampNeg) 1 4 0) (z_g (z_okp z_SH (h + 3 + y2.toNatClampNeg) 1 4 0) (z_lp z_SH L xs C me_X2_sleep F 12 [some (.ref h), some (.int y1), some (.int (y2 + 1))] [] (z_up m (h + 3 + y2.toNatClampNeg) 4 (if (0 : Int32) < ((m (h + 3 + y2.toNatClampNeg) 4) - y1) then ((m (h + 3 + y2.toNatClampNeg) 4) - y1) else (0 : Int32)))))))) else (z_lp z_SH L xs C me_X2_sleep F 12 [some (.ref h), some (.int y1), some (.int (y2 + 1))] [] m)))) := by rcases hh with rfl | rfl | rfl | rfl <;> rfl
set_option maxRecDepth 100000 in
theorem e_X2_gatheredByUnknowing_0 (L : Nat) (xs : Nat → Int32) (C : Nat → List Value → z_M → Option z_R) (F : Nat) {h : Nat} (hh : z_isH h) (m : z_M) : z_lp z_SH L xs C me_X2_gatheredByUnknowing (F + 1) 0 [some (.ref h), none, none] [] m = z_lp z_SH L xs C me_X2_gatheredByUnknowing F 4 [some (.ref h), some (.int 0), some (.int 0)] [] m := by rcases hh with rfl | rfl | rfl | rfl <;> rfl
set_option maxRecDepth 100000 in
theorem e_X2_gatheredByUnknowing_4 (L : Nat) (xs : Nat → Int32) (C : Nat → List Value → z_M → Option z_R) (F : Nat) {h : Nat} (hh : z_isH h) (y1 : Int32) (y2 : Int32) (m : z_M) : z_lp z_SH L xs C me_X2_gatheredByUnknowing (F + 1) 4 [some (.ref h), some (.int y1), some (.int y2)] [] m = if (m h 3) ≤ y2 then (some (y1, 0, m)) else (z_g (z_in 6 y2) (z_g (z_okp z_SH (h + 3 + y2.toNatClampNeg) 1 5 1) (if (z_b (m (h + 3 + y2.toNatClampNeg) 5)) = 0 then (z_g (z_in 6 y2) (z_g (z_okp z_SH (h + 3 + y2.toNatClampNeg) 1 4 0) (z_lp z_SH L xs C me_X2_gatheredByUnknowing F 4 [some (.ref h), some (.int (y1 + (m (h + 3 + y2.toNatClampNeg) 4))), some (.int (y2 + 1))] [] m))) else (z_lp z_SH L xs C me_X2_gatheredByUnknowing F 4 [some (.ref h), some (.int (y1 + 0)), some (.int (y2 + 1))] [] m)))) := by rcases hh with rfl | rfl | rfl | rfl <;> rfl
set_option maxRecDepth 100000 in
theorem e_X2_checkOut_0 (L : Nat) (xs : Nat → Int32) (C : Nat → List Value → z_M → Option z_R) (F : Nat) {h : Nat} (hh : z_isH h) (x1 : Int32) (m : z_M) : z_lp z_SH L xs C me_X2_checkOut (F + 1) 0 [some (.ref h), some (.int x1), none] [] m = z_lp z_SH L xs C me_X2_checkOut F 2 [some (.ref h), none, some (.int x1)] [] m := by rcases hh with rfl | rfl | rfl | rfl <;> rfl
set_option maxRecDepth 100000 in
theorem e_X2_checkOut_2 (L : Nat) (xs : Nat → Int32) (C : Nat → List Value → z_M → Option z_R) (F : Nat) {h : Nat} (hh : z_isH h) (y2 : Int32) (m : z_M) : z_lp z_SH L xs C me_X2_checkOut (F + 1) 2 [some (.ref h), none, some (.int y2)] [] m = if ((m h 3) - 1) ≤ y2 then (some (0, 0, z_up m h 3 ((m h 3) - 1))) else (z_g (z_in 6 y2) (z_g (z_in 6 (y2 + 1)) (z_g (z_okc z_SH (h + 3 + y2.toNatClampNeg) 1) (Option.bind (C 10 [.ref (h + 3 + y2.toNatClampNeg), .ref (h + 3 + (y2 + 1).toNatClampNeg)] m) (fun r1 => z_lp z_SH L xs C me_X2_checkOut F 2 [some (.ref h), none, some (.int (y2 + 1))] [] r1.2.2))))) := by rcases hh with rfl | rfl | rfl | rfl <;> rfl
set_option maxRecDepth 100000 in
theorem e_X2_knowing_0 (L : Nat) (xs : Nat → Int32) (C : Nat → List Value → z_M → Option z_R) (F : Nat) {h : Nat} (hh : z_isH h) (m : z_M) : z_lp z_SH L xs C me_X2_knowing (F + 1) 0 [some (.ref h), none, none] [] m = z_lp z_SH L xs C me_X2_knowing F 4 [some (.ref h), some (.int 0), some (.int 0)] [] m := by rcases hh with rfl | rfl | rfl | rfl <;> rfl
set_option maxRecDepth 100000 in
theorem e_X2_knowing_4 (L : Nat) (xs : Nat → Int32) (C : Nat → List Value → z_M → Option z_R) (F : Nat) {h : Nat} (hh : z_isH h) (y1 : Int32) (y2 : Int32) (m : z_M) : z_lp z_SH L xs C me_X2_knowing (F + 1) 4 [some (.ref h), some (.int y1), some (.int y2)] [] m = if (m h 3) ≤ y2 then (some (y1, 0, m)) else (z_g (z_in 6 y2) (z_g (z_okp z_SH (h + 3 + y2.toNatClampNeg) 1 5 1) (if (z_b (m (h + 3 + y2.toNatClampNeg) 5)) = 0 then (z_lp z_SH L xs C me_X2_knowing F 4 [some (.ref h), some (.int (y1 ||| 0)), some (.int (y2 + 1))] [] m) else (z_lp z_SH L xs C me_X2_knowing F 4 [some (.ref h), some (.int (y1 ||| ((1 : Int32) <<< (y2 &&& 31)))), some (.int (y2 + 1))] [] m)))) := by rcases hh with rfl | rfl | rfl | rfl <;> rfl
set_option maxRecDepth 100000 in
theorem e_X2_shockedOnes_0 (L : Nat) (xs : Nat → Int32) (C : Nat → List Value → z_M → Option z_R) (F : Nat) {h : Nat} (hh : z_isH h) (m : z_M) : z_lp z_SH L xs C me_X2_shockedOnes (F + 1) 0 [some (.ref h), none, none] [] m = z_lp z_SH L xs C me_X2_shockedOnes F 4 [some (.ref h), some (.int 0), some (.int 0)] [] m := by rcases hh with rfl | rfl | rfl | rfl <;> rfl
set_option maxRecDepth 100000 in
theorem e_X2_shockedOnes_4 (L : Nat) (xs : Nat → Int32) (C : Nat → List Value → z_M → Option z_R) (F : Nat) {h : Nat} (hh : z_isH h) (y1 : Int32) (y2 : Int32) (m : z_M) : z_lp z_SH L xs C me_X2_shockedOnes (F + 1) 4 [some (.ref h), some (.int y1), some (.int y2)] [] m = if (m h 3) ≤ y2 then (some (y1, 0, m)) else (z_g (z_in 6 y2) (z_g (z_okp z_SH (h + 3 + y2.toNatClampNeg) 1 6 1) (if (z_b (m (h + 3 + y2.toNatClampNeg) 6)) = 0 then (z_lp z_SH L xs C me_X2_shockedOnes F 4 [some (.ref h), some (.int (y1 ||| 0)), some (.int (y2 + 1))] [] m) else (z_lp z_SH L xs C me_X2_shockedOnes F 4 [some (.ref h), some (.int (y1 ||| ((1 : Int32) <<< (y2 &&& 31)))), some (.int (y2 + 1))] [] m)))) := by rcases hh with rfl | rfl | rfl | rfl <;> rfl
set_option maxRecDepth 100000 in
theorem e_X3_note_0 (L : Nat) (xs : Nat → Int32) (C : Nat → List Value → z_M → Option z_R) (F : Nat) (x1 : Int32) (x2 : Int32) (x3 : Int32) (m : z_M) : z_lp z_SH L xs C me_X3_note (F + 1) 0 [some (.ref 40), some (.int x1), some (.int x2), some (.int x3)] [] m = z_g (z_in 8 (m 40 3)) (z_g (z_in 8 ((z_up m 41 (m 40 3).toNatClampNeg x1) 40 3)) (z_g (z_in 8 ((z_up (z_up m 41 (m 40 3).toNatClampNeg x1) 42 ((z_up m 41 (m 40 3).toNatClampNeg x1) 40 3).toNatClampNeg x2) 40 3) && z_isb x3) (some (((z_up (z_up (z_up (z_up m 41 (m 40 3).toNatClampNeg x1) 42 ((z_up m 41 (m 40 3).toNatClampNeg x1) 40 3).toNatClampNeg x2) 43 ((z_up (z_up m 41 (m 40 3).toNatClampNeg x1) 42 ((z_up m 41 (m 40 3).toNatClampNeg x1) 40 3).toNatClampNeg x2) 40 3).toNatClampNeg x3) 40 3 (((z_up (z_up (z_up m 41 (m 40 3).toNatClampNeg x1) 42 ((z_up m 41 (m 40 3).toNatClampNeg x1) 40 3).toNatClampNeg x2) 43 ((z_up (z_up m 41 (m 40 3).toNatClampNeg x1) 42 ((z_up m 41 (m 40 3).toNatClampNeg x1) 40 3).toNatClampNeg x2) 40 3).toNatClampNeg x3) 40 3) + 1)) 40 3) - 1, 0, z_up (z_up (z_up (z_up m 41 (m 40 3).toNatClampNeg x1) 42 ((z_up m 41 (m 40 3).toNatClampNeg x1) 40 3).toNatClampNeg x2) 43 ((z_up (z_up m 41 (m 40 3).toNatClampNeg x1) 42 ((z_up m 41 (m 40 3).toNatClampNeg x1) 40 3).toNatClampNeg x2) 40 3).toNatClampNeg x3) 40 3 (((z_up (z_up (z_up m 41 (m 40 3).toNatClampNeg x1) 42 ((z_up m 41 (m 40 3).toNatClampNeg x1) 40 3).toNatClampNeg x2) 43 ((z_up (z_up m 41 (m 40 3).toNatClampNeg x1) 42 ((z_up m 41 (m 40 3).toNatClampNeg x1) 40 3).toNatClampNeg x2) 40 3).toNatClampNeg x3) 40 3) + 1))))) := rfl
set_option maxRecDepth 100000 in
theorem e_X3_allSo_0 (L : Nat) (xs : Nat → Int32) (C : Nat → List Value → z_M → Option z_R) (F : Nat) (m : z_M) : z_lp z_SH L xs C me_X3_allSo (F + 1) 0 [some (.ref 40), some (.ref 11), none] [] m = z_lp z_SH L xs C me_X3_allSo F 2 [some (.ref 40), some (.ref 11), some (.int 0)] [] m := rfl
set_option maxRecDepth 100000 in
theorem e_X3_allSo_2 (L : Nat) (xs : Nat → Int32) (C : Nat → List Value → z_M → Option z_R) (F : Nat) (y2 : Int32) (m : z_M) : z_lp z_SH L xs C me_X3_allSo (F + 1) 2 [some (.ref 40), some (.ref 11), some (.int y2)] [] m = if (m 40 3) ≤ y2 then (some (1, 0, m)) else (z_g (z_in 8 y2) (z_g (z_in 8 y2) (Option.bind (C 16 [.ref 11, .int (m 41 y2.toNatClampNeg), .int (m 42 y2.toNatClampNeg)] m) (fun r1 => z_g (z_in 8 y2) (if r1.1 = (z_b (r1.2.2 43 y2.toNatClampNeg)) then (z_lp z_SH L xs C me_X3_allSo F 2 [some (.ref 40), some (.ref 11), some (.int (y2 + 1))] [] r1.2.2) else (some (0, 0, r1.2.2))))))) := rfl
set_option maxRecDepth 100000 in
theorem e_X4_renew_0 (L : Nat) (xs : Nat → Int32) (C : Nat → List Value → z_M → Option z_R) (F : Nat) {s : Nat} (hs : z_isS s) (x1 : Int32) (x2 : Int32) (m : z_M) : z_lp z_SH L xs C me_X4_renew (F + 1) 0 [some (.ref s), some (.int x1), some (.int x2), none] [] m = z_lp z_SH L xs C me_X4_renew F 17 [some (.ref s), none, none, some (.int 0)] [] (z_up (z_up (z_up m s 1 1) s 2 x1) s 3 x2) := by rcases hs with rfl | rfl | rfl | rfl <;> rfl
set_option maxRecDepth 100000 in
theorem e_X4_renew_17 (L : Nat) (xs : Nat → Int32) (C : Nat → List Value → z_M → Option z_R) (F : Nat) {s : Nat} (hs : z_isS s) (y3 : Int32) (m : z_M) : z_lp z_SH L xs C me_X4_renew (F + 1) 17 [some (.ref s), none, none, some (.int y3)] [] m = if 60 ≤ y3 then (some (0, 0, m)) else (z_g (z_in 60 y3) (z_lp z_SH L xs C me_X4_renew F 17 [some (.ref s), none, none, some (.int (y3 + 1))] [] (z_up m (s + 1) y3.toNatClampNeg 0))) := by rcases hs with rfl | rfl | rfl | rfl <;> rfl
set_option maxRecDepth 100000 in
theorem e_X4_write_0 (L : Nat) (xs : Nat → Int32) (C : Nat → List Value → z_M → Option z_R) (F : Nat) {s : Nat} (hs : z_isS s) (x1 : Int32) (x2 : Int32) (m : z_M) : z_lp z_SH L xs C me_X4_write (F + 1) 0 [some (.ref s), some (.int x1), some (.int x2)] [] m = if (m s 2) = 0 then (z_g (z_in 60 x1) (some (0, 0, z_up m (s + 1) x1.toNatClampNeg x2.toInt8.toInt32))) else (if (m s 2) = 1 then (z_g (z_in 60 x1) (some (0, 0, z_up m (s + 1) x1.toNatClampNeg x2.toInt16.toInt32))) else (z_g (z_in 60 x1) (some (0, 0, z_up m (s + 1) x1.toNatClampNeg x2)))) := by rcases hs with rfl | rfl | rfl | rfl <;> rfl
set_option maxRecDepth 100000 in
theorem e_X4_faultAs_0 (L : Nat) (xs : Nat → Int32) (C : Nat → List Value → z_M → Option z_R) (F : Nat) {s : Nat} (hs : z_isS s) (x1 : Int32) (m : z_M) : z_lp z_SH L xs C me_X4_faultAs (F + 1) 0 [some (.ref s), some (.int x1)] [] m = if (z_b (m s 1)) = 0 then (some (1, 0, m)) else (if (m s 2) = x1 then (some (0, 0, m)) else (some (2, 0, m))) := by rcases hs with rfl | rfl | rfl | rfl <;> rfl
set_option maxRecDepth 100000 in
theorem e_X4_faultAt_0 (L : Nat) (xs : Nat → Int32) (C : Nat → List Value → z_M → Option z_R) (F : Nat) {s : Nat} (hs : z_isS s) (x1 : Int32) (m : z_M) : z_lp z_SH L xs C me_X4_faultAt (F + 1) 0 [some (.ref s), some (.int x1)] [] m = if (z_b (m s 1)) = 0 then (some (1, 0, m)) else (if x1 < 0 then (some (3, 0, m)) else (if (m s 3) ≤ x1 then (some (3, 0, m)) else (some (0, 0, m)))) := by rcases hs with rfl | rfl | rfl | rfl <;> rfl
set_option maxRecDepth 100000 in
theorem e_X4_faultOfCells_0 (L : Nat) (xs : Nat → Int32) (C : Nat → List Value → z_M → Option z_R) (F : Nat) {s : Nat} (hs : z_isS s) (x1 : Int32) (x2 : Int32) (m : z_M) : z_lp z_SH L xs C me_X4_faultOfCells (F + 1) 0 [some (.ref s), some (.int x1), some (.int x2)] [] m = if x1 < 0 then (some (3, 0, m)) else (if (m s 3) < x1 then (some (3, 0, m)) else (if x2 < 0 then (some (3, 0, m)) else (if ((m s 3) - x1) < x2 then (some (3, 0, m)) else (some (0, 0, m))))) := by rcases hs with rfl | rfl | rfl | rfl <;> rfl
set_option maxRecDepth 100000 in
theorem e_X5_fewest_0 (L : Nat) (xs : Nat → Int32) (C : Nat → List Value → z_M → Option z_R) (F : Nat) (x2 : Int32) (m : z_M) : z_lp z_SH L xs C me_X5_fewest (F + 1) 0 [some (.ref 44), some (.ref 2), some (.int x2), none] [] m = Option.bind (C 40 [.ref 2, .int x2] m) (fun r1 => if r1.1 = 0 then (some ((-9), 0, r1.2.2)) else (Option.bind (C 18 [.ref 2, .int x2] r1.2.2) (fun r2 => z_g (decide (¬ (r1.1 : Int32) = 0)) (some (((r2.1 + r1.1) - 1) / r1.1, 0, r2.2.2))))) := rfl
set_option maxRecDepth 100000 in
theorem e_X5_signOfRow_0 (L : Nat) (xs : Nat → Int32) (C : Nat → List Value → z_M → Option z_R) (F : Nat) (x2 : Int32) (x3 : Int32) (m : z_M) : z_lp z_SH L xs C me_X5_signOfRow (F + 1) 0 [some (.ref 44), some (.ref 2), some (.int x2), some (.int x3), none, none, none, none, none] [] m = Option.bind (C 40 [.ref 2, .int x2] m) (fun r1 => Option.bind (C 38 [.ref 44, .ref 2, .int x2] r1.2.2) (fun r2 => if x3 < r2.1 then (Option.bind (C 18 [.ref 2, .int x2] r2.2.2) (fun r3 => z_lp z_SH L xs C me_X5_signOfRow F 38 [none, some (.ref 2), some (.int x2), some (.int x3), some (.int r1.1), some (.int r2.1), some (.int r3.1), some (.int (-9)), some (.int 0)] [] r3.2.2)) else (some ((-9), 0, r2.2.2)))) := rfl
set_option maxRecDepth 100000 in
theorem e_X5_signOfRow_38 (L : Nat) (xs : Nat → Int32) (C : Nat → List Value → z_M → Option z_R) (F : Nat) (y2 : Int32) (y3 : Int32) (y4 : Int32) (y5 : Int32) (y6 : Int32) (y7 : Int32) (y8 : Int32) (m : z_M) : z_lp z_SH L xs C me_X5_signOfRow (F + 1) 38 [none, some (.ref 2), some (.int y2), some (.int y3), some (.int y4), some (.int y5), some (.int y6), some (.int y7), some (.int y8)] [] m = if y3 < y8 then (some (y7, 0, m)) else (Option.bind (C 41 [.ref 2, .int y2, .int (y6 - ((y5 + (-1)) * y4))] m) (fun r1 => if r1.1 = (-9) then (some ((-9), 0, r1.2.2)) else (Option.bind (C 15 [.ref 2, .int r1.1, .int y2] r1.2.2) (fun r2 => z_lp z_SH L xs C me_X5_signOfRow F 38 [none, some (.ref 2), some (.int y2), some (.int y3), some (.int y4), some (.int (y5 + (-1))), some (.int (y6 - r2.1)), some (.int r1.1), some (.int (y8 + 1))] [] r2.2.2)))) := rfl
set_option maxRecDepth 100000 in
theorem e_X5_heaviest_0 (L : Nat) (xs : Nat → Int32) (C : Nat → List Value → z_M → Option z_R) (F : Nat) (x2 : Int32) (m : z_M) : z_lp z_SH L xs C me_X5_heaviest (F + 1) 0 [some (.ref 2), some (.int x2), none, none] [] m = z_lp z_SH L xs C me_X5_heaviest F 4 [some (.ref 2), some (.int x2), some (.int 0), some (.int 0)] [] m := rfl
set_option maxRecDepth 100000 in
theorem e_X5_heaviest_4 (L : Nat) (xs : Nat → Int32) (C : Nat → List Value → z_M → Option z_R) (F : Nat) (y1 : Int32) (y2 : Int32) (y3 : Int32) (m : z_M) : z_lp z_SH L xs C me_X5_heaviest (F + 1) 4 [some (.ref 2), some (.int y1), some (.int y2), some (.int y3)] [] m = if (m 2 2) ≤ y3 then (some (y2, 0, m)) else (Option.bind (C 17 [.ref 2, .int y3, .int y1] m) (fun r1 => if r1.1 = 0 then (z_lp z_SH L xs C me_X5_heaviest F 4 [some (.ref 2), some (.int y1), some (.int y2), some (.int (y3 + 1))] [] r1.2.2) else (Option.bind (C 15 [.ref 2, .int y3, .int y1] r1.2.2) (fun r2 => z_lp z_SH L xs C me_X5_heaviest F 4 [some (.ref 2), some (.int y1), some (.int (if y2 < r2.1 then r2.1 else y2)), some (.int (y3 + 1))] [] r2.2.2)))) := rfl
set_option maxRecDepth 100000 in
theorem e_X5_firstOfAtLeast_0 (L : Nat) (xs : Nat → Int32) (C : Nat → List Value → z_M → Option z_R) (F : Nat) (x2 : Int32) (x3 : Int32) (m : z_M) : z_lp z_SH L xs C me_X5_firstOfAtLeast (F + 1) 0 [some (.ref 2), some (.int x2), some (.int x3), none] [] m = z_lp z_SH L xs C me_X5_firstOfAtLeast F 2 [some (.ref 2), some (.int x2), some (.int x3), some (.int 0)] [] m := rfl
set_option maxRecDepth 100000 in
theorem e_X5_firstOfAtLeast_2 (L : Nat) (xs : Nat → Int32) (C : Nat → List Value → z_M → Option z_R) (F : Nat) (y1 : Int32) (y2 : Int32) (y3 : Int32) (m : z_M) : z_lp z_SH L xs C me_X5_firstOfAtLeast (F + 1) 2 [some (.ref 2), some (.int y1), some (.int y2), some (.int y3)] [] m = if (m 2 2) ≤ y3 then (some ((-9), 0, m)) else (Option.bind (C 17 [.ref 2, .int y3, .int y1] m) (fun r1 => if r1.1 = 0 then (z_lp z_SH L xs C me_X5_firstOfAtLeast F 2 [some (.ref 2), some (.int y1), some (.int y2), some (.int (y3 + 1))] [] r1.2.2) else (Option.bind (C 15 [.ref 2, .int y3, .int y1] r1.2.2) (fun r2 => if r2.1 < y2 then (z_lp z_SH L xs C me_X5_firstOfAtLeast F 2 [some (.ref 2), some (.int y1), some (.int y2), some (.int (y3 + 1))] [] r2.2.2) else (some (y3, 0, r2.2.2)))))) := rfl
set_option maxRecDepth 100000 in
theorem e_X5_thatWeigh_0 (L : Nat) (xs : Nat → Int32) (C : Nat → List Value → z_M → Option z_R) (F : Nat) (x2 : Int32) (x3 : Int32) (x4 : Int32) (m : z_M) : z_lp z_SH L xs C me_X5_thatWeigh (F + 1) 0 [some (.ref 44), some (.ref 2), some (.int x2), some (.int x3), some (.int x4), none, none] [] m = z_lp z_SH L xs C me_X5_thatWeigh F 3 [some (.ref 44), some (.ref 2), some (.int x2), some (.int x3), some (.int x4), some (.int 0), none] [] m := rfl
set_option maxRecDepth 100000 in
theorem e_X5_thatWeigh_3 (L : Nat) (xs : Nat → Int32) (C : Nat → List Value → z_M → Option z_R) (F : Nat) (y2 : Int32) (y3 : Int32) (y4 : Int32) (y5 : Int32) (m : z_M) : z_lp z_SH L xs C me_X5_thatWeigh (F + 1) 3 [some (.ref 44), some (.ref 2), some (.int y2), some (.int y3), some (.int y4), some (.int y5), none] [] m = if y4 < y5 then (z_lp z_SH L xs C me_X5_thatWeigh F 36 [some (.ref 44), some (.ref 2), some (.int y2), some (.int y3), some (.int y4), some (.int 0), none] [] m) else (if y5 = 0 then (z_g (z_in 55 y5) (z_lp z_SH L xs C me_X5_thatWeigh F 3 [some (.ref 44), some (.ref 2), some (.int y2), some (.int y3), some (.int y4), some (.int (y5 + 1)), none] [] (z_up m 45 y5.toNatClampNeg 1))) else (z_g (z_in 55 y5) (z_lp z_SH L xs C me_X5_thatWeigh F 3 [some (.ref 44), some (.ref 2), some (.int y2), some (.int y3), some (.int y4), some (.int (y5 + 1)), none] [] (z_up m 45 y5.toNatClampNeg 0)))) := rfl
set_option maxRecDepth 100000 in
theorem e_X5_thatWeigh_36 (L : Nat) (xs : Nat → Int32) (C : Nat → List Value → z_M → Option z_R) (F : Nat) (y2 : Int32) (y3 : Int32) (y4 : Int32) (y5 : Int32) (m : z_M) : z_lp z_SH L xs C me_X5_thatWeigh (F + 1) 36 [some (.ref 44), some (.ref 2), some (.int y2), some (.int y3), some (.int y4), some (.int y5), none] [] m = if y3 ≤ y5 then (z_g (z_in 55 y4) (some (m 45 y4.toNatClampNeg, 0, m))) else (z_lp z_SH L xs C me_X5_thatWeigh F 46 [some (.ref 44), some (.ref 2), some (.int y2), some (.int y3), some (.int y4), some (.int y5), some (.int y4)] [] m) := rfl
set_option maxRecDepth 100000 in
theorem e_X5_thatWeigh_46 (L : Nat) (xs : Nat → Int32) (C : Nat → List Value → z_M → Option z_R) (F : Nat) (y2 : Int32) (y3 : Int32) (y4 : Int32) (y5 : Int32) (y6 : Int32) (m : z_M) : z_lp z_SH L xs C me_X5_thatWeigh (F + 1) 46 [some (.ref 44), some (.ref 2), some (.int y2), some (.int y3), some (.int y4), some (.int y5), some (.int y6)] [] m = if y6 < 0 then (z_lp z_SH L xs C me_X5_thatWeigh F 36 [some (.ref 44), some (.ref 2), some (.int y2), some (.int y3), some (.int y4), some (.int (y5 + 1)), none] [] m) else (Option.bind (C 43 [.ref 44, .ref 2, .int y2, .int y6] m) (fun r1 => z_g (z_in 55 y6) (z_lp z_SH L xs C me_X5_thatWeigh F 46 [some (.ref 44), some (.ref 2), some (.int y2), some (.int y3), some (.int y4), some (.int y5), some (.int (y6 + (-1)))] [] (z_up r1.2.2 45 y6.toNatClampNeg r1.1)))) := rfl
set_option maxRecDepth 100000 in
theorem e_X5_waysByOneMore_0 (L : Nat) (xs : Nat → Int32) (C : Nat → List Value → z_M → Option z_R) (F : Nat) (x2 : Int32) (x3 : Int32) (m : z_M) : z_lp z_SH L xs C me_X5_waysByOneMore (F + 1) 0 [some (.ref 44), some (.ref 2), some (.int x2), some (.int x3), none, none, none] [] m = z_lp z_SH L xs C me_X5_waysByOneMore F 6 [some (.ref 44), some (.ref 2), some (.int x2), some (.int x3), some (.int 0), some (.int 0), none] [] m := rfl
set_option maxRecDepth 100000 in
theorem e_X5_waysByOneMore_6 (L : Nat) (xs : Nat → Int32) (C : Nat → List Value → z_M → Option z_R) (F : Nat) (y2 : Int32) (y3 : Int32) (y4 : Int32) (y5 : Int32) (m : z_M) : z_lp z_SH L xs C me_X5_waysByOneMore (F + 1) 6 [some (.ref 44), some (.ref 2), some (.int y2), some (.int y3), some (.int y4), some (.int y5), none] [] m = if (m 2 2) ≤ y5 then (some (y4, 0, m)) else (Option.bind (C 15 [.ref 2, .int y5, .int y2] m) (fun r1 => Option.bind (C 17 [.ref 2, .int y5, .int y2] r1.2.2) (fun r2 => if r2.1 = 0 then (z_lp z_SH L xs C me_X5_waysByOneMore F 6 [some (.ref 44), some (.ref 2), some (.int y2), some (.int y3), some (.int y4), some (.int (y5 + 1)), none] [] r2.2.2) else (if y3 < r1.1 then (z_lp z_SH L xs C me_X5_waysByOneMore F 6 [some (.ref 44), some (.ref 2), some (.int y2), some (.int y3), some (.int y4), some (.int (y5 + 1)), none] [] r2.2.2) else (z_g (z_in 55 (y3 - r1.1)) (z_lp z_SH L xs C me_X5_waysByOneMore F 6 [some (.ref 44), some (.ref 2), some (.int y2), some (.int y3), some (.int (y4 + (r2.2.2 45 (y3 - r1.1).toNatClampNeg))), some (.int (y5 + 1)), none] [] r2.2.2)))))) := rfl
set_option maxRecDepth 100000 in
theorem e_X6_choose_0 (L : Nat) (xs : Nat → Int32) (C : Nat → List Value → z_M → Option z_R) (F : Nat) (m : z_M) : z_lp z_SH L xs C me_X6_choose (F + 1) 0 [some (.ref 48), some (.ref 2)] [] m = Option.bind (C 47 [.ref 48, .ref 2, .int 0, .int 0, .int 0, .int 0] (z_up (z_up m 48 2 (-1)) 48 3 0)) (fun r1 => some (0, 0, r1.2.2)) := rfl
set_option maxRecDepth 100000 in
theorem e_X6_signFor_0 (L : Nat) (xs : Nat → Int32) (C : Nat → List Value → z_M → Option z_R) (F : Nat) (x1 : Int32) (m : z_M) : z_lp z_SH L xs C me_X6_signFor (F + 1) 0 [some (.ref 48), some (.int x1)] [] m = z_g (z_in 6 x1) (if (m 50 x1.toNatClampNeg) = 9 then (some ((-9), 0, m)) else (z_g (z_in 6 x1) (some (m 50 x1.toNatClampNeg, 0, m)))) := rfl
set_option maxRecDepth 100000 in
theorem e_X6_tryFrom_0 (L : Nat) (xs : Nat → Int32) (C : Nat → List Value → z_M → Option z_R) (F : Nat) (x2 : Int32) (x3 : Int32) (x4 : Int32) (x5 : Int32) (m : z_M) : z_lp z_SH L xs C me_X6_tryFrom (F + 1) 0 [some (.ref 48), some (.ref 2), some (.int x2), some (.int x3), some (.int x4), some (.int x5), none, none] [] m = if x2 < 6 then (if (m 2 3) ≤ x2 then (z_g (z_in 6 x2) (Option.bind (C 47 [.ref 48, .ref 2, .int (x2 + 1), .int x3, .int x4, .int x5] (z_up m 49 x2.toNatClampNeg 9)) (fun r1 => some (0, 0, r1.2.2)))) else (z_g (z_in 6 x2) (z_g (z_okp z_SH (5 + x2.toNatClampNeg) 1 5 1) (if (z_b (m (5 + x2.toNatClampNeg) 5)) = 0 then (z_lp z_SH L xs C me_X6_tryFrom F 38 [some (.ref 48), some (.ref 2), some (.int x2), some (.int x3), some (.int x4), some (.int x5), some (.int 0), none] [] m) else (z_g (z_in 6 x2) (Option.bind (C 47 [.ref 48, .ref 2, .int (x2 + 1), .int x3, .int x4, .int x5] (z_up m 49 x2.toNatClampNeg 9)) (fun r2 => some (0, 0, r2.2.2)))))))) else (Option.bind (C 48 [.ref 48, .int x4, .int x5] m) (fun r3 => some (0, 0, r3.2.2))) := rfl
set_option maxRecDepth 100000 in
theorem e_X6_tryFrom_38 (L : Nat) (xs : Nat → Int32) (C : Nat → List Value → z_M → Option z_R) (F : Nat) (y2 : Int32) (y3 : Int32) (y4 : Int32) (y5 : Int32) (y6 : Int32) (m : z_M) : z_lp z_SH L xs C me_X6_tryFrom (F + 1) 38 [some (.ref 48), some (.ref 2), some (.int y2), some (.int y3), some (.int y4), some (.int y5), some (.int y6), none] [] m = if (m 2 2) ≤ y6 then (z_g (z_in 6 y2) (Option.bind (C 47 [.ref 48, .ref 2, .int (y2 + 1), .int y3, .int y4, .int y5] (z_up m 49 y2.toNatClampNeg 9)) (fun r1 => some (0, 0, r1.2.2)))) else (if ((y3 >>> (y6 &&& 31)) &&& (1 : Int32)) = 0 then (Option.bind (C 16 [.ref 2, .int y6, .int y2] m) (fun r2 => if r2.1 = 0 then (z_g (z_in 6 y2) (Option.bind (C 15 [.ref 2, .int y6, .int y2] (z_up r2.2.2 49 y2.toNatClampNeg y6)) (fun r3 => Option.bind (C 18 [.ref 2, .int y2] r3.2.2) (fun r4 => if r3.1 < r4.1 then (z_g (z_in 5 y6) (Option.bind (C 47 [.ref 48, .ref 2, .int (y2 + 1), .int (y3 ||| ((1 : Int32) <<< (y6 &&& 31))), .int (y4 + 0), .int (y5 + (r4.2.2 3 y6.toNatClampNeg))] r4.2.2) (fun r5 => z_lp z_SH L xs C me_X6_tryFrom F 38 [some (.ref 48), some (.ref 2), some (.int y2), some (.int y3), some (.int y4), some (.int y5), some (.int (y6 + 1)), none] [] r5.2.2))) else (z_g (z_in 5 y6) (Option.bind (C 47 [.ref 48, .ref 2, .int (y2 + 1), .int (y3 ||| ((1 : Int32) <<< (y6 &&& 31))), .int (y4 + 1), .int (y5 + (r4.2.2 3 y6.toNatClampNeg))] r4.2.2) (fun r6 => z_lp z_SH L xs C me_X6_tryFrom F 38 [some (.ref 48), some (.ref 2), some (.int y2), some (.int y3), some (.int y4), some (.int y5), some (.int (y6 + 1)), none] [] r6.2.2))))))) else (z_lp z_SH L xs C me_X6_tryFrom F 38 [some (.ref 48), some (.ref 2), some (.int y2), some (.int y3), some (.int y4), some (.int y5), some (.int (y6 + 1)), none] [] r2.2.2))) else (z_lp z_SH L xs C me_X6_tryFrom F 38 [some (.ref 48), some (.ref 2), some (.int y2), some (.int y3), some (.int y4), some (.int y5), some (.int (y6 + 1)), none] [] m)) := rfl
set_option maxRecDepth 100000 in
theorem e_X6_keepIfBetter_0 (L : Nat) (xs : Nat → Int32) (C : Nat → List Value → z_M → Option z_R) (F : Nat) (x1 : Int32) (x2 : Int32) (m : z_M) : z_lp z_SH L xs C me_X6_keepIfBetter (F + 1) 0 [some (.ref 48), some (.int x1), some (.int x2), none] [] m = if x1 < (m 48 2) then (some (0, 0, m)) else (if x1 = (m 48 2) then (if x2 < (m 48 3) then (z_lp z_SH L xs C me_X6_keepIfBetter F 37 [some (.ref 48), none, none, some (.int 0)] [] (z_up (z_up m 48 2 x1) 48 3 x2)) else (some (0, 0, m))) else (z_lp z_SH L xs C me_X6_keepIfBetter F 37 [some (.ref 48), none, none, some (.int 0)] [] (z_up (z_up m 48 2 x1) 48 3 x2))) := rfl
set_option maxRecDepth 100000 in
theorem e_X6_keepIfBetter_37 (L : Nat) (xs : Nat → Int32) (C : Nat → List Value → z_M → Option z_R) (F : Nat) (y3 : Int32) (m : z_M) : z_lp z_SH L xs C me_X6_keepIfBetter (F + 1) 37 [some (.ref 48), none, none, some (.int y3)] [] m = if 6 ≤ y3 then (some (0, 0, m)) else (z_g (z_in 6 y3) (z_g (z_in 6 y3) (z_lp z_SH L xs C me_X6_keepIfBetter F 37 [some (.ref 48), none, none, some (.int (y3 + 1))] [] (z_up m 50 y3.toNatClampNeg (m 49 y3.toNatClampNeg))))) := rfl
set_option maxRecDepth 100000 in
theorem e_X7_lay_0 (L : Nat) (xs : Nat → Int32) (C : Nat → List Value → z_M → Option z_R) (F : Nat) (m : z_M) : z_lp z_SH L xs C me_X7_lay (F + 1) 0 [some (.ref 46), some (.ref 2), none] [] m = z_lp z_SH L xs C me_X7_lay F 2 [some (.ref 46), some (.ref 2), some (.int 0)] [] m := rfl
set_option maxRecDepth 100000 in
theorem e_X7_lay_2 (L : Nat) (xs : Nat → Int32) (C : Nat → List Value → z_M → Option z_R) (F : Nat) (y2 : Int32) (m : z_M) : z_lp z_SH L xs C me_X7_lay (F + 1) 2 [some (.ref 46), some (.ref 2), some (.int y2)] [] m = if 6 ≤ y2 then (Option.bind (C 51 [.ref 46, .ref 2, .int 0, .int 6] m) (fun r1 => some (6, 0, r1.2.2))) else (Option.bind (C 51 [.ref 46, .ref 2, .int 0, .int y2] m) (fun r2 => if r2.1 = 0 then (z_lp z_SH L xs C me_X7_lay F 2 [some (.ref 46), some (.ref 2), some (.int (y2 + 1))] [] r2.2.2) else (some (y2, 0, r2.2.2)))) := rfl
set_option maxRecDepth 100000 in
theorem e_X7_sitsFrom_0 (L : Nat) (xs : Nat → Int32) (C : Nat → List Value → z_M → Option z_R) (F : Nat) (x2 : Int32) (x3 : Int32) (m : z_M) : z_lp z_SH L xs C me_X7_sitsFrom (F + 1) 0 [some (.ref 46), some (.ref 2), some (.int x2), some (.int x3), none] [] m = if x2 < 6 then (if (m 2 3) ≤ x2 then (z_g (z_in 6 x2) (Option.bind (C 51 [.ref 46, .ref 2, .int (x2 + 1), .int x3] (z_up m 47 x2.toNatClampNeg (-9))) (fun r1 => z_g (z_isb r1.1) (some (r1.1, 0, r1.2.2))))) else (z_g (z_in 6 x2) (z_g (z_okp z_SH (5 + x2.toNatClampNeg) 1 5 1) (if (z_b (m (5 + x2.toNatClampNeg) 5)) = 0 then (z_lp z_SH L xs C me_X7_sitsFrom F 49 [some (.ref 46), some (.ref 2), some (.int x2), some (.int x3), some (.int 0)] [] m) else (z_g (z_in 6 x2) (Option.bind (C 51 [.ref 46, .ref 2, .int (x2 + 1), .int x3] (z_up m 47 x2.toNatClampNeg (-9))) (fun r2 => z_g (z_isb r2.1) (some (r2.1, 0, r2.2.2))))))))) else (some (1, 0, m)) := rfl
set_option maxRecDepth 100000 in
theorem e_X7_sitsFrom_49 (L : Nat) (xs : Nat → Int32) (C : Nat → List Value → z_M → Option z_R) (F : Nat) (y2 : Int32) (y3 : Int32) (y4 : Int32) (m : z_M) : z_lp z_SH L xs C me_X7_sitsFrom (F + 1) 49 [some (.ref 46), some (.ref 2), some (.int y2), some (.int y3), some (.int y4)] [] m = if y3 ≤ y4 then (some (0, 0, m)) else (z_g (z_in 6 y2) (Option.bind (C 52 [.ref 46, .ref 2, .int y2, .int y4] (z_up m 47 y2.toNatClampNeg y4)) (fun r1 => if r1.1 = 0 then (z_lp z_SH L xs C me_X7_sitsFrom F 49 [some (.ref 46), some (.ref 2), some (.int y2), some (.int y3), some (.int (y4 + 1))] [] r1.2.2) else (Option.bind (C 51 [.ref 46, .ref 2, .int (y2 + 1), .int y3] r1.2.2) (fun r2 => if r2.1 = 0 then (z_lp z_SH L xs C me_X7_sitsFrom F 49 [some (.ref 46), some (.ref 2), some (.int y2), some (.int y3), some (.int (y4 + 1))] [] r2.2.2) else (some (1, 0, r2.2.2))))))) := rfl
set_option maxRecDepth 100000 in
theorem e_X7_isFree_0 (L : Nat) (xs : Nat → Int32) (C : Nat → List Value → z_M → Option z_R) (F : Nat) (x2 : Int32) (x3 : Int32) (m : z_M) : z_lp z_SH L xs C me_X7_isFree (F + 1) 0 [some (.ref 46), some (.ref 2), some (.int x2), some (.int x3), none] [] m = z_lp z_SH L xs C me_X7_isFree F 3 [some (.ref 46), some (.ref 2), some (.int x2), some (.int x3), some (.int 0)] [] m := rfl
set_option maxRecDepth 100000 in
theorem e_X7_isFree_3 (L : Nat) (xs : Nat → Int32) (C : Nat → List Value → z_M → Option z_R) (F : Nat) (y2 : Int32) (y3 : Int32) (y4 : Int32) (m : z_M) : z_lp z_SH L xs C me_X7_isFree (F + 1) 3 [some (.ref 46), some (.ref 2), some (.int y2), some (.int y3), some (.int y4)] [] m = if y2 ≤ y4 then (some (1, 0, m)) else (z_g (z_in 6 y4) (if (m 47 y4.toNatClampNeg) = y3 then (z_g (z_in 6 y4) (z_g (z_in 6 y2) (Option.bind (C 53 [.ref (5 + y4.toNatClampNeg), .ref (5 + y2.toNatClampNeg)] m) (fun r1 => if r1.1 = 0 then (z_lp z_SH L xs C me_X7_isFree F 3 [some (.ref 46), some (.ref 2), some (.int y2), some (.int y3), some (.int (y4 + 1))] [] r1.2.2) else (some (0, 0, r1.2.2)))))) else (z_lp z_SH L xs C me_X7_isFree F 3 [some (.ref 46), some (.ref 2), some (.int y2), some (.int y3), some (.int (y4 + 1))] [] m))) := rfl
set_option maxRecDepth 100000 in
theorem e_X7_clash_0 (L : Nat) (xs : Nat → Int32) (C : Nat → List Value → z_M → Option z_R) (F : Nat) (x1 : Nat) (x2 : Nat) (m : z_M) : z_lp z_SH L xs C me_X7_clash (F + 1) 0 [some (.ref x1), some (.ref x2)] [] m = z_g (z_okp z_SH x1 1 0 0) (z_g (z_okp z_SH x2 1 0 0) (if (m x1 0) = (m x2 0) then (some (1, 0, m)) else (z_g (z_okp z_SH x1 1 6 1) (if (z_b (m x1 6)) = 0 then (some (0, 0, m)) else (z_g (z_okp z_SH x2 1 6 1) (if (z_b (m x2 6)) = 0 then (some (0, 0, m)) else (some (1, 0, m)))))))) := rfl
set_option maxRecDepth 100000 in
theorem e_X8_firstFault_0 (L : Nat) (xs : Nat → Int32) (C : Nat → List Value → z_M → Option z_R) (F : Nat) (x1 : Nat) (x2 : Int32) (x3 : Int32) (m : z_M) : z_lp z_SH L xs C me_X8_firstFault (F + 1) 0 [some (.ref 20), some (.ref x1), some (.int x2), some (.int x3), none] [] m = Option.bind (C 13 [.ref 21] m) (fun r1 => z_lp z_SH L xs C me_X8_firstFault F 15 [some (.ref 20), some (.ref x1), some (.int x2), some (.int x3), some (.int 0)] [] (z_up r1.2.2 20 1 0)) := rfl
set_option maxRecDepth 100000 in
theorem e_X8_firstFault_15 (L : Nat) (xs : Nat → Int32) (C : Nat → List Value → z_M → Option z_R) (F : Nat) (y1 : Nat) (y2 : Int32) (y3 : Int32) (y4 : Int32) (m : z_M) : z_lp z_SH L xs C me_X8_firstFault (F + 1) 15 [some (.ref 20), some (.ref y1), some (.int y2), some (.int y3), some (.int y4)] [] m = if y3 ≤ y4 then (if (m 20 1) = 6 then (some ((-9), 0, m)) else (some (y3, 0, m))) else (Option.bind (z_ref z_SH y1 4 0) (fun r1 => z_g (z_ina z_SH r1 0 (y2 + y4)) (Option.bind (C 56 [.ref 20, .int (m r1 (y2 + y4).toNatClampNeg)] m) (fun r2 => if r2.1 = 0 then (some (y4, 0, r2.2.2)) else (z_lp z_SH L xs C me_X8_firstFault F 15 [some (.ref 20), some (.ref y1), some (.int y2), some (.int y3), some (.int (y4 + 1))] [] r2.2.2))))) := rfl
set_option maxRecDepth 100000 in
theorem e_X8_goesOn_0 (L : Nat) (xs : Nat → Int32) (C : Nat → List Value → z_M → Option z_R) (F : Nat) (x1 : Int32) (m : z_M) : z_lp z_SH L xs C me_X8_goesOn (F + 1) 0 [some (.ref 20), some (.int x1)] [] m = if (m 20 1) = nI 0 then (if x1 = 104 then (some (1, 0, z_up m 20 1 1)) else (some (0, 0, z_up m 20 1 1))) else if (m 20 1) = nI 1 then (if x1 = 59 then (if (m 21 2) ≤ 0 then (some (0, 0, m)) else (Option.bind (C 58 [.ref 20] m) (fun r1 => if r1.1 = 0 then (some (0, 0, r1.2.2)) else (some (1, 0, r1.2.2))))) else (Option.bind (C 57 [.ref 20, .int x1] m) (fun r2 => z_g (z_isb r2.1) (some (r2.1, 0, r2.2.2))))) else if (m 20 1) = nI 2 then (Option.bind (C 59 [.ref 20, .int x1] m) (fun r3 => z_g (z_isb r3.1) (some (r3.1, 0, r3.2.2)))) else if (m 20 1) = nI 3 then (Option.bind (C 60 [.ref 20, .int x1] m) (fun r4 => z_g (z_isb r4.1) (some (r4.1, 0, r4.2.2)))) else if (m 20 1) = nI 4 then (Option.bind (C 60 [.ref 20, .int x1] m) (fun r5 => z_g (z_isb r5.1) (some (r5.1, 0, r5.2.2)))) else if (m 20 1) = nI 5 then (Option.bind (C 60 [.ref 20, .int x1] m) (fun r6 => z_g (z_isb r6.1) (some (r6.1, 0, r6.2.2)))) else if (m 20 1) = nI 6 then (if x1 = 59 then (Option.bind (C 58 [.ref 20] m) (fun r7 => if r7.1 = 0 then (some (0, 0, r7.2.2)) else (some (1, 0, r7.2.2)))) else (some (0, 0, m))) else (Option.bind (C 60 [.ref 20, .int x1] m) (fun r8 => z_g (z_isb r8.1) (some (r8.1, 0, r8.2.2)))) := rfl
set_option maxRecDepth 100000 in
theorem e_X8_nextSign_0 (L : Nat) (xs : Nat → Int32) (C : Nat → List Value → z_M → Option z_R) (F : Nat) (x1 : Int32) (m : z_M) : z_lp z_SH L xs C me_X8_nextSign (F + 1) 0 [some (.ref 20), some (.int x1)] [] m = if 5 ≤ (m 21 2) then (some (0, 0, m)) else (Option.bind (C 94 [.int x1, .int 49, .int 57] m) (fun r1 => if r1.1 = 0 then (some (0, 0, r1.2.2)) else (z_g (z_in 5 (r1.2.2 21 2)) (some (1, 0, z_up (z_up r1.2.2 22 (r1.2.2 21 2).toNatClampNeg (x1 - 48)) 21 2 (((z_up r1.2.2 22 (r1.2.2 21 2).toNatClampNeg (x1 - 48)) 21 2) + 1)))))) := rfl
set_option maxRecDepth 100000 in
theorem e_X8_nextGuest_0 (L : Nat) (xs : Nat → Int32) (C : Nat → List Value → z_M → Option z_R) (F : Nat) (m : z_M) : z_lp z_SH L xs C me_X8_nextGuest (F + 1) 0 [some (.ref 20)] [] m = if 6 ≤ ((z_up m 20 1 2) 21 3) then (some (0, 0, z_up m 20 1 2)) else (some (1, 0, z_up m 20 1 2)) := rfl
set_option maxRecDepth 100000 in
theorem e_X8_letter_0 (L : Nat) (xs : Nat → Int32) (C : Nat → List Value → z_M → Option z_R) (F : Nat) (x1 : Int32) (m : z_M) : z_lp z_SH L xs C me_X8_letter (F + 1) 0 [some (.ref 20), some (.int x1), none] [] m = if x1 = 109 then (if (0 : Int32) = (-9) then (some (0, 0, m)) else (z_g (z_in 6 (m 21 3)) (z_g (z_okc z_SH (24 + (m 21 3).toNatClampNeg) 1) (Option.bind (C 9 [.ref (24 + (m 21 3).toNatClampNeg), .int 0] m) (fun r1 => some (1, 0, z_up r1.2.2 20 1 3)))))) else (if x1 = 99 then (if (1 : Int32) = (-9) then (some (0, 0, m)) else (z_g (z_in 6 (m 21 3)) (z_g (z_okc z_SH (24 + (m 21 3).toNatClampNeg) 1) (Option.bind (C 9 [.ref (24 + (m 21 3).toNatClampNeg), .int 1] m) (fun r2 => some (1, 0, z_up r2.2.2 20 1 3)))))) else (if x1 = 98 then (if (2 : Int32) = (-9) then (some (0, 0, m)) else (z_g (z_in 6 (m 21 3)) (z_g (z_okc z_SH (24 + (m 21 3).toNatClampNeg) 1) (Option.bind (C 9 [.ref (24 + (m 21 3).toNatClampNeg), .int 2] m) (fun r3 => some (1, 0, z_up r3.2.2 20 1 3)))))) else (if ((-9) : Int32) = (-9) then (some (0, 0, m)) else (z_g (z_in 6 (m 21 3)) (z_g (z_okc z_SH (24 + (m 21 3).toNatClampNeg) 1) (Option.bind (C 9 [.ref (24 + (m 21 3).toNatClampNeg), .int (-9)] m) (fun r4 => some (1, 0, z_up r4.2.2 20 1 3)))))))) := rfl
set_option maxRecDepth 100000 in
theorem e_X8_digitOfGuest_0 (L : Nat) (xs : Nat → Int32) (C : Nat → List Value → z_M → Option z_R) (F : Nat) (x1 : Int32) (m : z_M) : z_lp z_SH L xs C me_X8_digitOfGuest (F + 1) 0 [some (.ref 20), some (.int x1), none] [] m = z_g (z_in 6 (m 21 3)) (if (m 20 1) = 5 then (z_g (z_okp z_SH (24 + (m 21 3).toNatClampNeg) 1 3 0) (Option.bind (C 94 [.int x1, .int 48, .int 53] (z_up (z_up (z_up m (24 + (m 21 3).toNatClampNeg) 3 (x1 - 48)) 21 3 (((z_up m (24 + (m 21 3).toNatClampNeg) 3 (x1 - 48)) 21 3) + 1)) 20 1 6)) (fun r1 => z_g (z_isb r1.1) (some (r1.1, 0, r1.2.2))))) else (if (m 20 1) = 3 then (z_g (z_okp z_SH (24 + (m 21 3).toNatClampNeg) 1 1 0) (Option.bind (C 94 [.int x1, .int 49, .int 57] (z_up (z_up m (24 + (m 21 3).toNatClampNeg) 1 (x1 - 48)) 20 1 4)) (fun r2 => z_g (z_isb r2.1) (some (r2.1, 0, r2.2.2))))) else (z_g (z_okp z_SH (24 + (m 21 3).toNatClampNeg) 1 2 0) (Option.bind (C 94 [.int x1, .int 49, .int 57] (z_up (z_up m (24 + (m 21 3).toNatClampNeg) 2 (x1 - 48)) 20 1 5)) (fun r3 => z_g (z_isb r3.1) (some (r3.1, 0, r3.2.2))))))) := rfl
set_option maxRecDepth 100000 in
theorem e_X9_hotel_0 (L : Nat) (xs : Nat → Int32) (C : Nat → List Value → z_M → Option z_R) (F : Nat) (x1 : Int32) (x2 : Int32) (x3 : Int32) (x4 : Int32) (m : z_M) : z_lp z_SH L xs C me_X9_hotel (F + 1) 0 [some (.ref 0), some (.int x1), some (.int x2), some (.int x3), some (.int x4), none, none, none] [] m = Option.bind (C 95 [.int x1] (z_up m 0 10 0)) (fun r1 => if r1.1 = 0 then (some ((-1), 0, r1.2.2)) else (Option.bind (C 94 [.int x2, .int 0, .int 2] r1.2.2) (fun r2 => if r2.1 = 0 then (some ((-2), 0, r2.2.2)) else (z_g (z_in 4 x1) (z_g (z_okc z_SH (51 + 2 * x1.toNatClampNeg) 4) (Option.bind (C 34 [.ref (51 + 2 * x1.toNatClampNeg), .int x2] r2.2.2) (fun r3 => if r3.1 = 0 then (if 0 ≤ x4 then (z_g (z_okc z_SH (51 + 2 * x1.toNatClampNeg) 4) (Option.bind (C 36 [.ref (51 + 2 * x1.toNatClampNeg), .int x3, .int x4] r3.2.2) (fun r4 => if r4.1 = 0 then (Option.bind (C 55 [.ref 20, .ref (51 + 2 * x1.toNatClampNeg), .int x3, .int x4] r4.2.2) (fun r5 => if r5.1 = (-9) then (Option.bind (C 14 [.ref 2, .ref 21] r5.2.2) (fun r6 => some ((z_up r6.2.2 40 3 0) 2 3, 0, z_up r6.2.2 40 3 0))) else (some ((-100) - r5.1, 0, r5.2.2)))) else (Option.bind (C 99 [.ref 0, .int r4.1] r4.2.2) (fun r7 => some (r7.1, 0, r7.2.2)))))) else (if (4 : Int32) = 0 then (Option.bind (C 55 [.ref 20, .ref (51 + 2 * x1.toNatClampNeg), .int x3, .int x4] r3.2.2) (fun r8 => if r8.1 = (-9) then (Option.bind (C 14 [.ref 2, .ref 21] r8.2.2) (fun r9 => some ((z_up r9.2.2 40 3 0) 2 3, 0, z_up r9.2.2 40 3 0))) else (some ((-100) - r8.1, 0, r8.2.2)))) else (Option.bind (C 99 [.ref 0, .int 4] r3.2.2) (fun r10 => some (r10.1, 0, r10.2.2))))) else (if r3.1 = 0 then (Option.bind (C 55 [.ref 20, .ref (51 + 2 * x1.toNatClampNeg), .int x3, .int x4] r3.2.2) (fun r11 => if r11.1 = (-9) then (Option.bind (C 14 [.ref 2, .ref 21] r11.2.2) (fun r12 => some ((z_up r12.2.2 40 3 0) 2 3, 0, z_up r12.2.2 40 3 0))) else (some ((-100) - r11.1, 0, r11.2.2)))) else (Option.bind (C 99 [.ref 0, .int r3.1] r3.2.2) (fun r13 => some (r13.1, 0, r13.2.2))))))))))) := rfl
set_option maxRecDepth 100000 in
theorem e_X9_ofGuest_0 (L : Nat) (xs : Nat → Int32) (C : Nat → List Value → z_M → Option z_R) (F : Nat) (x1 : Int32) (x2 : Int32) (m : z_M) : z_lp z_SH L xs C me_X9_ofGuest (F + 1) 0 [some (.ref 0), some (.int x1), some (.int x2), none] [] m = Option.bind (C 97 [.ref 0, .int x1] m) (fun r1 => if r1.1 = 0 then (some ((-1), 0, r1.2.2)) else (z_g (z_in 6 x1) (if x2 = nI 0 then (z_g (z_okp z_SH (5 + x1.toNatClampNeg) 1 0 0) (some (r1.2.2 (5 + x1.toNatClampNeg) 0, 0, r1.2.2))) else if x2 = nI 1 then (z_g (z_okp z_SH (5 + x1.toNatClampNeg) 1 1 0) (some (r1.2.2 (5 + x1.toNatClampNeg) 1, 0, r1.2.2))) else if x2 = nI 2 then (z_g (z_okp z_SH (5 + x1.toNatClampNeg) 1 2 0) (some (r1.2.2 (5 + x1.toNatClampNeg) 2, 0, r1.2.2))) else if x2 = nI 3 then (z_g (z_okp z_SH (5 + x1.toNatClampNeg) 1 3 0) (some (r1.2.2 (5 + x1.toNatClampNeg) 3, 0, r1.2.2))) else if x2 = nI 4 then (z_g (z_okp z_SH (5 + x1.toNatClampNeg) 1 4 0) (some (r1.2.2 (5 + x1.toNatClampNeg) 4, 0, r1.2.2))) else if x2 = nI 5 then (z_g (z_okp z_SH (5 + x1.toNatClampNeg) 1 5 1) (if (z_b (r1.2.2 (5 + x1.toNatClampNeg) 5)) = 0 then (some (0, 0, r1.2.2)) else (some (1, 0, r1.2.2)))) else if x2 = nI 6 then (z_g (z_okp z_SH (5 + x1.toNatClampNeg) 1 6 1) (if (z_b (r1.2.2 (5 + x1.toNatClampNeg) 6)) = 0 then (some (0, 0, r1.2.2)) else (some (1, 0, r1.2.2)))) else (some ((-2), 0, r1.2.2))))) := rfl
set_option maxRecDepth 100000 in
theorem e_X9_hint_0 (L : Nat) (xs : Nat → Int32) (C : Nat → List Value → z_M → Option z_R) (F : Nat) (x1 : Int32) (m : z_M) : z_lp z_SH L xs C me_X9_hint (F + 1) 0 [some (.ref 0), some (.int x1)] [] m = Option.bind (C 96 [.ref 0, .int x1] m) (fun r1 => if r1.1 = 0 then (some ((-1), 0, r1.2.2)) else (z_g (z_in 5 x1) (some (r1.2.2 3 x1.toNatClampNeg, 0, r1.2.2)))) := rfl
set_option maxRecDepth 100000 in
theorem e_X9_word_0 (L : Nat) (xs : Nat → Int32) (C : Nat → List Value → z_M → Option z_R) (F : Nat) (x1 : Int32) (x2 : Int32) (m : z_M) : z_lp z_SH L xs C me_X9_word (F + 1) 0 [some (.ref 0), some (.int x1), some (.int x2), none] [] m = Option.bind (C 96 [.ref 0, .int x1] m) (fun r1 => if r1.1 = 0 then (some ((-1), 0, r1.2.2)) else (Option.bind (C 94 [.int x2, .int 1, .int 9] r1.2.2) (fun r2 => if r2.1 = 0 then (some ((-2), 0, r2.2.2)) else (z_g (z_in 5 x1) (z_g (z_in 5 x1) (some (r2.2.2 3 x1.toNatClampNeg, 0, z_up r2.2.2 3 x1.toNatClampNeg x2))))))) := rfl
set_option maxRecDepth 100000 in
theorem e_X9_weighs_0 (L : Nat) (xs : Nat → Int32) (C : Nat → List Value → z_M → Option z_R) (F : Nat) (x1 : Int32) (x2 : Int32) (m : z_M) : z_lp z_SH L xs C me_X9_weighs (F + 1) 0 [some (.ref 0), some (.int x1), some (.int x2)] [] m = Option.bind (C 96 [.ref 0, .int x1] m) (fun r1 => if r1.1 = 0 then (some ((-1), 0, r1.2.2)) else (Option.bind (C 97 [.ref 0, .int x2] r1.2.2) (fun r2 => if r2.1 = 0 then (some ((-1), 0, r2.2.2)) else (Option.bind (C 15 [.ref 2, .int x1, .int x2] r2.2.2) (fun r3 => some (r3.1, 0, r3.2.2)))))) := rfl
set_option maxRecDepth 100000 in
theorem e_X9_seat_0 (L : Nat) (xs : Nat → Int32) (C : Nat → List Value → z_M → Option z_R) (F : Nat) (x1 : Int32) (x2 : Int32) (m : z_M) : z_lp z_SH L xs C me_X9_seat (F + 1) 0 [some (.ref 0), some (.int x1), some (.int x2), none] [] m = Option.bind (C 97 [.ref 0, .int x1] m) (fun r1 => if r1.1 = 0 then (some ((-1), 0, r1.2.2)) else (Option.bind (C 94 [.int x2, .int 0, .int 5] r1.2.2) (fun r2 => if r2.1 = 0 then (some ((-2), 0, r2.2.2)) else (z_g (z_in 6 x1) (z_g (z_okp z_SH (5 + x1.toNatClampNeg) 1 3 0) (z_g (z_in 6 x1) (z_g (z_okp z_SH (5 + x1.toNatClampNeg) 1 3 0) (some (r2.2.2 (5 + x1.toNatClampNeg) 3, 0, z_up r2.2.2 (5 + x1.toNatClampNeg) 3 x2))))))))) := rfl
set_option maxRecDepth 100000 in
theorem e_X9_give_0 (L : Nat) (xs : Nat → Int32) (C : Nat → List Value → z_M → Option z_R) (F : Nat) (x1 : Int32) (x2 : Int32) (m : z_M) : z_lp z_SH L xs C me_X9_give (F + 1) 0 [some (.ref 0), some (.int x1), some (.int x2)] [] m = Option.bind (C 96 [.ref 0, .int x1] m) (fun r1 => if r1.1 = 0 then (some ((-1), 0, r1.2.2)) else (Option.bind (C 97 [.ref 0, .int x2] r1.2.2) (fun r2 => if r2.1 = 0 then (some ((-1), 0, r2.2.2)) else (z_g (z_in 6 x2) (z_g (z_okp z_SH (5 + x2.toNatClampNeg) 1 5 1) (if (z_b (r2.2.2 (5 + x2.toNatClampNeg) 5)) = 0 then (Option.bind (C 19 [.ref 2, .int x1, .int x2] r2.2.2) (fun r3 => some (r3.1, 0, r3.2.2))) else (some ((-3), 0, r2.2.2)))))))) := rfl
set_option maxRecDepth 100000 in
theorem e_X9_nights_0 (L : Nat) (xs : Nat → Int32) (C : Nat → List Value → z_M → Option z_R) (F : Nat) (x1 : Int32) (m : z_M) : z_lp z_SH L xs C me_X9_nights (F + 1) 0 [some (.ref 0), some (.int x1)] [] m = Option.bind (C 94 [.int x1, .int 1, .int 30] m) (fun r1 => if r1.1 = 0 then (some ((-2), 0, r1.2.2)) else (Option.bind (C 12 [.ref 2] r1.2.2) (fun r2 => if r2.1 = 0 then (some ((-3), 0, r2.2.2)) else (Option.bind (C 23 [.ref 2, .int x1] r2.2.2) (fun r3 => Option.bind (C 24 [.ref 2] r3.2.2) (fun r4 => some (r4.1, 0, r4.2.2))))))) := rfl
set_option maxRecDepth 100000 in
theorem e_X9_arrive_0 (L : Nat) (xs : Nat → Int32) (C : Nat → List Value → z_M → Option z_R) (F : Nat) (x1 : Int32) (x2 : Int32) (x3 : Int32) (x4 : Int32) (m : z_M) : z_lp z_SH L xs C me_X9_arrive (F + 1) 0 [some (.ref 0), some (.int x1), some (.int x2), some (.int x3), some (.int x4), none] [] m = Option.bind (C 94 [.int x1, .int 0, .int 2] m) (fun r1 => if r1.1 = 0 then (some ((-2), 0, r1.2.2)) else (Option.bind (C 94 [.int x2, .int 1, .int 9] r1.2.2) (fun r2 => if r2.1 = 0 then (some ((-2), 0, r2.2.2)) else (Option.bind (C 94 [.int x3, .int 1, .int 9] r2.2.2) (fun r3 => if r3.1 = 0 then (some ((-2), 0, r3.2.2)) else (Option.bind (C 94 [.int x4, .int 0, .int 5] r3.2.2) (fun r4 => if r4.1 = 0 then (some ((-2), 0, r4.2.2)) else (Option.bind (C 12 [.ref 2] r4.2.2) (fun r5 => if r5.1 = 0 then (some ((-3), 0, r5.2.2)) else (if (r5.2.2 2 3) < 6 then (z_g (z_in 6 (r5.2.2 2 3)) (z_g (z_okc z_SH (5 + (r5.2.2 2 3).toNatClampNeg) 1) (Option.bind (C 9 [.ref (5 + (r5.2.2 2 3).toNatClampNeg), .int x1] r5.2.2) (fun r6 => z_g (z_okp z_SH (5 + (r5.2.2 2 3).toNatClampNeg) 1 1 0) (z_g (z_okp z_SH (5 + (r5.2.2 2 3).toNatClampNeg) 1 2 0) (z_g (z_okp z_SH (5 + (r5.2.2 2 3).toNatClampNeg) 1 3 0) (some (((z_up (z_up (z_up (z_up r6.2.2 (5 + (r5.2.2 2 3).toNatClampNeg) 1 x2) (5 + (r5.2.2 2 3).toNatClampNeg) 2 x3) (5 + (r5.2.2 2 3).toNatClampNeg) 3 x4) 2 3 (((z_up (z_up (z_up r6.2.2 (5 + (r5.2.2 2 3).toNatClampNeg) 1 x2) (5 + (r5.2.2 2 3).toNatClampNeg) 2 x3) (5 + (r5.2.2 2 3).toNatClampNeg) 3 x4) 2 3) + 1)) 2 3) - 1, 0, z_up (z_up (z_up (z_up r6.2.2 (5 + (r5.2.2 2 3).toNatClampNeg) 1 x2) (5 + (r5.2.2 2 3).toNatClampNeg) 2 x3) (5 + (r5.2.2 2 3).toNatClampNeg) 3 x4) 2 3 (((z_up (z_up (z_up r6.2.2 (5 + (r5.2.2 2 3).toNatClampNeg) 1 x2) (5 + (r5.2.2 2 3).toNatClampNeg) 2 x3) (5 + (r5.2.2 2 3).toNatClampNeg) 3 x4) 2 3) + 1))))))))) else (some ((-4), 0, r5.2.2)))))))))))) := rfl
set_option maxRecDepth 100000 in
theorem e_X9_leave_0 (L : Nat) (xs : Nat → Int32) (C : Nat → List Value → z_M → Option z_R) (F : Nat) (x1 : Int32) (m : z_M) : z_lp z_SH L xs C me_X9_leave (F + 1) 0 [some (.ref 0), some (.int x1)] [] m = Option.bind (C 97 [.ref 0, .int x1] m) (fun r1 => if r1.1 = 0 then (some ((-1), 0, r1.2.2)) else (if (r1.2.2 2 3) = 1 then (some ((-3), 0, r1.2.2)) else (Option.bind (C 25 [.ref 2, .int x1] r1.2.2) (fun r2 => some ((z_up r2.2.2 40 3 0) 2 3, 0, z_up r2.2.2 40 3 0))))) := rfl
set_option maxRecDepth 100000 in
theorem e_X9_dinner_0 (L : Nat) (xs : Nat → Int32) (C : Nat → List Value → z_M → Option z_R) (F : Nat) (x1 : Int32) (x2 : Int32) (x3 : Int32) (x4 : Int32) (x5 : Int32) (m : z_M) : z_lp z_SH L xs C me_X9_dinner (F + 1) 0 [some (.ref 0), some (.int x1), some (.int x2), some (.int x3), some (.int x4), some (.int x5), none, none, none] [] m = Option.bind (C 95 [.int x1] (z_up m 0 10 0)) (fun r1 => if r1.1 = 0 then (some ((-1), 0, r1.2.2)) else (Option.bind (C 94 [.int x2, .int 0, .int 2] r1.2.2) (fun r2 => if r2.1 = 0 then (some ((-2), 0, r2.2.2)) else (Option.bind (C 94 [.int x4, .int 0, .int 20] r2.2.2) (fun r3 => if r3.1 = 0 then (some ((-2), 0, r3.2.2)) else (Option.bind (C 98 [.int x5] r3.2.2) (fun r4 => if r4.1 = 0 then (some ((-2), 0, r4.2.2)) else (z_g (z_in 4 x1) (z_g (z_okc z_SH (51 + 2 * x1.toNatClampNeg) 4) (Option.bind (C 34 [.ref (51 + 2 * x1.toNatClampNeg), .int x2] r4.2.2) (fun r5 => if r5.1 = 0 then (z_g (z_okc z_SH (51 + 2 * x1.toNatClampNeg) 4) (Option.bind (C 36 [.ref (51 + 2 * x1.toNatClampNeg), .int x3, .int (2 * x4)] r5.2.2) (fun r6 => if r6.1 = 0 then (Option.bind (C 12 [.ref 2] r6.2.2) (fun r7 => if r7.1 = 0 then (some ((-3), 0, r7.2.2)) else (Option.bind (C 1 [.ref 30, .int (r7.2.2 2 3), .ref (51 + 2 * x1.toNatClampNeg), .int x3, .int x4] r7.2.2) (fun r8 => if r8.1 = 0 then (Option.bind (C 2 [.ref 30, .ref 2, .ref (51 + 2 * x1.toNatClampNeg), .int x3, .int x4] r8.2.2) (fun r9 => Option.bind (C 4 [.ref 30, .int x5] r9.2.2) (fun r10 => some (r10.1, 0, r10.2.2)))) else (some (r8.1, 0, r8.2.2)))))) else (Option.bind (C 99 [.ref 0, .int r6.1] r6.2.2) (fun r11 => some (r11.1, 0, r11.2.2)))))) else (if r5.1 = 0 then (Option.bind (C 12 [.ref 2] r5.2.2) (fun r12 => if r12.1 = 0 then (some ((-3), 0, r12.2.2)) else (Option.bind (C 1 [.ref 30, .int (r12.2.2 2 3), .ref (51 + 2 * x1.toNatClampNeg), .int x3, .int x4] r12.2.2) (fun r13 => if r13.1 = 0 then (Option.bind (C 2 [.ref 30, .ref 2, .ref (51 + 2 * x1.toNatClampNeg), .int x3, .int x4] r13.2.2) (fun r14 => Option.bind (C 4 [.ref 30, .int x5] r14.2.2) (fun r15 => some (r15.1, 0, r15.2.2)))) else (some (r13.1, 0, r13.2.2)))))) else (Option.bind (C 99 [.ref 0, .int r5.1] r5.2.2) (fun r16 => some (r16.1, 0, r16.2.2))))))))))))))) := rfl
set_option maxRecDepth 100000 in
theorem e_X9_softly_0 (L : Nat) (xs : Nat → Int32) (C : Nat → List Value → z_M → Option z_R) (F : Nat) (x1 : Int32) (x2 : Int32) (m : z_M) : z_lp z_SH L xs C me_X9_softly (F + 1) 0 [some (.ref 0), some (.int x1), some (.int x2)] [] m = Option.bind (C 97 [.ref 0, .int x1] m) (fun r1 => if r1.1 = 0 then (some ((-1), 0, r1.2.2)) else (Option.bind (C 94 [.int x2, .int (-1), .int 8] r1.2.2) (fun r2 => if r2.1 = 0 then (some ((-2), 0, r2.2.2)) else (z_g (z_in 6 x1) (z_g (z_okp z_SH (5 + x1.toNatClampNeg) 1 5 1) (if (z_b (r2.2.2 (5 + x1.toNatClampNeg) 5)) = 0 then (if 0 ≤ x2 then (Option.bind (C 39 [.ref 44, .ref 2, .int x1, .int x2] r2.2.2) (fun r3 => some (r3.1, 0, r3.2.2))) else (Option.bind (C 38 [.ref 44, .ref 2, .int x1] r2.2.2) (fun r4 => some (r4.1, 0, r4.2.2)))) else (some ((-3), 0, r2.2.2)))))))) := rfl
set_option maxRecDepth 100000 in
theorem e_X9_just_0 (L : Nat) (xs : Nat → Int32) (C : Nat → List Value → z_M → Option z_R) (F : Nat) (x1 : Int32) (x2 : Int32) (x3 : Int32) (m : z_M) : z_lp z_SH L xs C me_X9_just (F + 1) 0 [some (.ref 0), some (.int x1), some (.int x2), some (.int x3)] [] m = Option.bind (C 97 [.ref 0, .int x1] m) (fun r1 => if r1.1 = 0 then (some ((-1), 0, r1.2.2)) else (Option.bind (C 94 [.int x2, .int 0, .int 6] r1.2.2) (fun r2 => if r2.1 = 0 then (some ((-2), 0, r2.2.2)) else (Option.bind (C 94 [.int x3, .int 0, .int 54] r2.2.2) (fun r3 => if r3.1 = 0 then (some ((-2), 0, r3.2.2)) else (Option.bind (C 42 [.ref 44, .ref 2, .int x1, .int x2, .int x3] r3.2.2) (fun r4 => some (r4.1, 0, r4.2.2)))))))) := rfl
set_option maxRecDepth 100000 in
theorem e_X9_apart_0 (L : Nat) (xs : Nat → Int32) (C : Nat → List Value → z_M → Option z_R) (F : Nat) (x1 : Int32) (m : z_M) : z_lp z_SH L xs C me_X9_apart (F + 1) 0 [some (.ref 0), some (.int x1), none] [] m = Option.bind (C 94 [.int x1, .int (-1), .int 5] m) (fun r1 => if r1.1 = 0 then (some ((-2), 0, r1.2.2)) else (Option.bind (C 12 [.ref 2] r1.2.2) (fun r2 => if r2.1 = 0 then (some ((-3), 0, r2.2.2)) else (Option.bind (C 50 [.ref 46, .ref 2] r2.2.2) (fun r3 => if 0 ≤ x1 then (z_g (z_in 6 x1) (some (r3.2.2 47 x1.toNatClampNeg, 0, r3.2.2))) else (some (r3.1, 0, r3.2.2))))))) := rfl
set_option maxRecDepth 100000 in
theorem e_X9_best_0 (L : Nat) (xs : Nat → Int32) (C : Nat → List Value → z_M → Option z_R) (F : Nat) (x1 : Int32) (m : z_M) : z_lp z_SH L xs C me_X9_best (F + 1) 0 [some (.ref 0), some (.int x1)] [] m = Option.bind (C 94 [.int x1, .int (-2), .int 5] m) (fun r1 => if r1.1 = 0 then (some ((-2), 0, r1.2.2)) else (Option.bind (C 12 [.ref 2] r1.2.2) (fun r2 => if r2.1 = 0 then (some ((-3), 0, r2.2.2)) else (Option.bind (C 45 [.ref 48, .ref 2] r2.2.2) (fun r3 => if x1 = (-2) then (some (r3.2.2 48 2, 0, r3.2.2)) else (if x1 = (-1) then (some (r3.2.2 48 3, 0, r3.2.2)) else (Option.bind (C 46 [.ref 48, .int x1] r3.2.2) (fun r4 => some (r4.1, 0, r4.2.2))))))))) := rfl
set_option maxRecDepth 100000 in
theorem e_X9_reading_0 (L : Nat) (xs : Nat → Int32) (C : Nat → List Value → z_M → Option z_R) (F : Nat) (x1 : Int32) (x2 : Int32) (x3 : Int32) (m : z_M) : z_lp z_SH L xs C me_X9_reading (F + 1) 0 [some (.ref 0), some (.int x1), some (.int x2), some (.int x3)] [] m = Option.bind (C 96 [.ref 0, .int x1] m) (fun r1 => if r1.1 = 0 then (some ((-1), 0, r1.2.2)) else (Option.bind (C 97 [.ref 0, .int x2] r1.2.2) (fun r2 => if r2.1 = 0 then (some ((-1), 0, r2.2.2)) else (Option.bind (C 94 [.int x3, .int 0, .int 1] r2.2.2) (fun r3 => if r3.1 = 0 then (some ((-2), 0, r3.2.2)) else (if (r3.2.2 40 3) < 8 then (if x3 = 1 then (Option.bind (C 29 [.ref 40, .int x1, .int x2, .int 1] r3.2.2) (fun r4 => some (r4.1, 0, r4.2.2))) else (Option.bind (C 29 [.ref 40, .int x1, .int x2, .int 0] r3.2.2) (fun r5 => some (r5.1, 0, r5.2.2)))) else (some ((-4), 0, r3.2.2)))))))) := rfl
set_option maxRecDepth 100000 in
theorem e_X9_back_0 (L : Nat) (xs : Nat → Int32) (C : Nat → List Value → z_M → Option z_R) (F : Nat) (x1 : Int32) (m : z_M) : z_lp z_SH L xs C me_X9_back (F + 1) 0 [some (.ref 0), some (.int x1)] [] m = Option.bind (C 94 [.int x1, .int 0, .int (m 40 3)] m) (fun r1 => if r1.1 = 0 then (some ((-2), 0, r1.2.2)) else (some ((z_up r1.2.2 40 3 ((r1.2.2 40 3) - x1)) 40 3, 0, z_up r1.2.2 40 3 ((r1.2.2 40 3) - x1)))) := rfl
set_option maxRecDepth 100000 in
theorem e_X9_bearings_0 (L : Nat) (xs : Nat → Int32) (C : Nat → List Value → z_M → Option z_R) (F : Nat) (x1 : Int32) (m : z_M) : z_lp z_SH L xs C me_X9_bearings (F + 1) 0 [some (.ref 0), some (.int x1), none, none] [] m = Option.bind (C 97 [.ref 0, .int x1] m) (fun r1 => if r1.1 = 0 then (some ((-1), 0, r1.2.2)) else (Option.bind (C 14 [.ref 11, .ref 2] r1.2.2) (fun r2 => z_lp z_SH L xs C me_X9_bearings F 25 [some (.ref 0), some (.int x1), some (.int 0), some (.int 1)] [] r2.2.2))) := rfl
set_option maxRecDepth 100000 in
theorem e_X9_bearings_25 (L : Nat) (xs : Nat → Int32) (C : Nat → List Value → z_M → Option z_R) (F : Nat) (y1 : Int32) (y2 : Int32) (y3 : Int32) (m : z_M) : z_lp z_SH L xs C me_X9_bearings (F + 1) 25 [some (.ref 0), some (.int y1), some (.int y2), some (.int y3)] [] m = if 9 < y3 then (some (y2, 0, m)) else (z_g (z_in 6 y1) (z_g (z_okp z_SH (14 + y1.toNatClampNeg) 1 1 0) (Option.bind (C 30 [.ref 40, .ref 11] (z_up m (14 + y1.toNatClampNeg) 1 y3)) (fun r1 => if r1.1 = 0 then (z_lp z_SH L xs C me_X9_bearings F 25 [some (.ref 0), some (.int y1), some (.int (y2 ||| 0)), some (.int (y3 + 1))] [] r1.2.2) else (z_lp z_SH L xs C me_X9_bearings F 25 [some (.ref 0), some (.int y1), some (.int (y2 ||| ((1 : Int32) <<< (y3 &&& 31)))), some (.int (y3 + 1))] [] r1.2.2))))) := rfl
set_option maxRecDepth 100000 in
theorem e_X9_kinds_0 (L : Nat) (xs : Nat → Int32) (C : Nat → List Value → z_M → Option z_R) (F : Nat) (x1 : Int32) (m : z_M) : z_lp z_SH L xs C me_X9_kinds (F + 1) 0 [some (.ref 0), some (.int x1), none, none] [] m = Option.bind (C 97 [.ref 0, .int x1] m) (fun r1 => if r1.1 = 0 then (some ((-1), 0, r1.2.2)) else (Option.bind (C 14 [.ref 11, .ref 2] r1.2.2) (fun r2 => z_lp z_SH L xs C me_X9_kinds F 25 [some (.ref 0), some (.int x1), some (.int 0), some (.int 0)] [] r2.2.2))) := rfl
set_option maxRecDepth 100000 in
theorem e_X9_kinds_25 (L : Nat) (xs : Nat → Int32) (C : Nat → List Value → z_M → Option z_R) (F : Nat) (y1 : Int32) (y2 : Int32) (y3 : Int32) (m : z_M) : z_lp z_SH L xs C me_X9_kinds (F + 1) 25 [some (.ref 0), some (.int y1), some (.int y2), some (.int y3)] [] m = if 2 < y3 then (some (y2, 0, m)) else (z_g (z_in 6 y1) (z_g (z_okp z_SH (14 + y1.toNatClampNeg) 1 0 0) (Option.bind (C 30 [.ref 40, .ref 11] (z_up m (14 + y1.toNatClampNeg) 0 y3)) (fun r1 => if r1.1 = 0 then (z_lp z_SH L xs C me_X9_kinds F 25 [some (.ref 0), some (.int y1), some (.int (y2 ||| 0)), some (.int (y3 + 1))] [] r1.2.2) else (z_lp z_SH L xs C me_X9_kinds F 25 [some (.ref 0), some (.int y1), some (.int (y2 ||| ((1 : Int32) <<< (y3 &&& 31)))), some (.int (y3 + 1))] [] r1.2.2))))) := rfl
set_option maxRecDepth 100000 in
theorem e_X9_hintings_0 (L : Nat) (xs : Nat → Int32) (C : Nat → List Value → z_M → Option z_R) (F : Nat) (x1 : Int32) (m : z_M) : z_lp z_SH L xs C me_X9_hintings (F + 1) 0 [some (.ref 0), some (.int x1), none, none] [] m = Option.bind (C 96 [.ref 0, .int x1] m) (fun r1 => if r1.1 = 0 then (some ((-1), 0, r1.2.2)) else (Option.bind (C 14 [.ref 11, .ref 2] r1.2.2) (fun r2 => z_lp z_SH L xs C me_X9_hintings F 25 [some (.ref 0), some (.int x1), some (.int 0), some (.int 1)] [] r2.2.2))) := rfl
set_option maxRecDepth 100000 in
theorem e_X9_hintings_25 (L : Nat) (xs : Nat → Int32) (C : Nat → List Value → z_M → Option z_R) (F : Nat) (y1 : Int32) (y2 : Int32) (y3 : Int32) (m : z_M) : z_lp z_SH L xs C me_X9_hintings (F + 1) 25 [some (.ref 0), some (.int y1), some (.int y2), some (.int y3)] [] m = if 9 < y3 then (some (y2, 0, m)) else (z_g (z_in 5 y1) (Option.bind (C 30 [.ref 40, .ref 11] (z_up m 12 y1.toNatClampNeg y3)) (fun r1 => if r1.1 = 0 then (z_lp z_SH L xs C me_X9_hintings F 25 [some (.ref 0), some (.int y1), some (.int (y2 ||| 0)), some (.int (y3 + 1))] [] r1.2.2) else (z_lp z_SH L xs C me_X9_hintings F 25 [some (.ref 0), some (.int y1), some (.int (y2 ||| ((1 : Int32) <<< (y3 &&& 31)))), some (.int (y3 + 1))] [] r1.2.2)))) := rfl
set_option maxRecDepth 100000 in
theorem e_X9_odds_0 (L : Nat) (xs : Nat → Int32) (C : Nat → List Value → z_M → Option z_R) (F : Nat) (x1 : Int32) (x2 : Int32) (m : z_M) : z_lp z_SH L xs C me_X9_odds (F + 1) 0 [some (.ref 0), some (.int x1), some (.int x2), none, none] [] m = Option.bind (C 97 [.ref 0, .int x1] m) (fun r1 => if r1.1 = 0 then (some (0, z_lost, r1.2.2)) else (Option.bind (C 94 [.int x2, .int 0, .int 1] r1.2.2) (fun r2 => if r2.1 = 0 then (some (0, z_lost, r2.2.2)) else (z_lp z_SH L xs C me_X9_odds F 26 [some (.ref 0), some (.int x1), some (.int x2), some (.int 0), some (.int 0)] [] r2.2.2)))) := rfl
set_option maxRecDepth 100000 in
theorem e_X9_odds_26 (L : Nat) (xs : Nat → Int32) (C : Nat → List Value → z_M → Option z_R) (F : Nat) (y1 : Int32) (y2 : Int32) (y3 : Int32) (y4 : Int32) (m : z_M) : z_lp z_SH L xs C me_X9_odds (F + 1) 26 [some (.ref 0), some (.int y1), some (.int y2), some (.int y3), some (.int y4)] [] m = if (m 2 2) ≤ y4 then (Option.bind (C 100 [.int (m 2 2), .int y3] m) (fun r1 => if r1.1 = 0 then (some (0, z_lost, r1.2.2)) else (if y2 = 0 then (z_g (decide (¬ (r1.1 : Int32) = 0)) (some (0, (y3 / r1.1).toInt64, r1.2.2))) else (z_g (decide (¬ (r1.1 : Int32) = 0)) (some (0, ((r1.2.2 2 2) / r1.1).toInt64, r1.2.2)))))) else (Option.bind (C 16 [.ref 2, .int y4, .int y1] m) (fun r2 => if r2.1 = 0 then (z_lp z_SH L xs C me_X9_odds F 26 [some (.ref 0), some (.int y1), some (.int y2), some (.int (y3 + 1)), some (.int (y4 + 1))] [] r2.2.2) else (z_lp z_SH L xs C me_X9_odds F 26 [some (.ref 0), some (.int y1), some (.int y2), some (.int (y3 + 0)), some (.int (y4 + 1))] [] r2.2.2))) := rfl
set_option maxRecDepth 100000 in
theorem e_X9_sheet_0 (L : Nat) (xs : Nat → Int32) (C : Nat → List Value → z_M → Option z_R) (F : Nat) (x1 : Int32) (x2 : Int32) (x3 : Int32) (m : z_M) : z_lp z_SH L xs C me_X9_sheet (F + 1) 0 [some (.ref 0), some (.int x1), some (.int x2), some (.int x3)] [] m = Option.bind (C 95 [.int x1] (z_up m 0 10 0)) (fun r1 => if r1.1 = 0 then (some ((-1), 0, r1.2.2)) else (Option.bind (C 94 [.int x2, .int 0, .int 2] r1.2.2) (fun r2 => if r2.1 = 0 then (some ((-2), 0, r2.2.2)) else (if x3 ≤ 60 then (if 0 ≤ x3 then (z_g (z_in 4 x1) (z_g (z_okc z_SH (51 + 2 * x1.toNatClampNeg) 4) (Option.bind (C 32 [.ref (51 + 2 * x1.toNatClampNeg), .int x2, .int x3] r2.2.2) (fun r3 => some (1, 0, r3.2.2))))) else (Option.bind (C 99 [.ref 0, .int 4] r2.2.2) (fun r4 => some (r4.1, 0, r4.2.2)))) else (some ((-2), 0, r2.2.2)))))) := rfl
set_option maxRecDepth 100000 in
theorem e_X9_lose_0 (L : Nat) (xs : Nat → Int32) (C : Nat → List Value → z_M → Option z_R) (F : Nat) (x1 : Int32) (m : z_M) : z_lp z_SH L xs C me_X9_lose (F + 1) 0 [some (.ref 0), some (.int x1), none] [] m = Option.bind (C 95 [.int x1] m) (fun r1 => if r1.1 = 0 then (some ((-1), 0, r1.2.2)) else (z_g (z_in 4 x1) (z_g (z_okp z_SH (51 + 2 * x1.toNatClampNeg) 4 1 1) (z_g (z_in 4 x1) (z_g (z_okp z_SH (51 + 2 * x1.toNatClampNeg) 4 1 1 && z_isb 0) (if (z_b (r1.2.2 (51 + 2 * x1.toNatClampNeg) 1)) = 0 then (some (0, 0, z_up r1.2.2 (51 + 2 * x1.toNatClampNeg) 1 0)) else (some (1, 0, z_up r1.2.2 (51 + 2 * x1.toNatClampNeg) 1 0)))))))) := rfl
set_option maxRecDepth 100000 in
theorem e_X9_put_0 (L : Nat) (xs : Nat → Int32) (C : Nat → List Value → z_M → Option z_R) (F : Nat) (x1 : Int32) (x2 : Int32) (x3 : Int32) (m : z_M) : z_lp z_SH L xs C me_X9_put (F + 1) 0 [some (.ref 0), some (.int x1), some (.int x2), some (.int x3), none] [] m = Option.bind (C 95 [.int x1] (z_up m 0 10 0)) (fun r1 => if r1.1 = 0 then (some ((-1), 0, r1.2.2)) else (z_g (z_in 4 x1) (z_g (z_okc z_SH (51 + 2 * x1.toNatClampNeg) 4) (Option.bind (C 35 [.ref (51 + 2 * x1.toNatClampNeg), .int x2] r1.2.2) (fun r2 => if r2.1 = 0 then (z_g (z_in 4 x1) (z_g (z_okc z_SH (51 + 2 * x1.toNatClampNeg) 4) (Option.bind (C 33 [.ref (51 + 2 * x1.toNatClampNeg), .int x2, .int x3] r2.2.2) (fun r3 => some (1, 0, r3.2.2))))) else (Option.bind (C 99 [.ref 0, .int r2.1] r2.2.2) (fun r4 => some (r4.1, 0, r4.2.2)))))))) := rfl
set_option maxRecDepth 100000 in
theorem e_X9_cell_0 (L : Nat) (xs : Nat → Int32) (C : Nat → List Value → z_M → Option z_R) (F : Nat) (x1 : Int32) (x2 : Int32) (x3 : Int32) (m : z_M) : z_lp z_SH L xs C me_X9_cell (F + 1) 0 [some (.ref 0), some (.int x1), some (.int x2), some (.int x3), none] [] m = Option.bind (C 95 [.int x1] (z_up m 0 10 0)) (fun r1 => if r1.1 = 0 then (some (0, z_lost, r1.2.2)) else (Option.bind (C 94 [.int x3, .int 0, .int 2] r1.2.2) (fun r2 => if r2.1 = 0 then (some (0, z_lost, r2.2.2)) else (z_g (z_in 4 x1) (z_g (z_okc z_SH (51 + 2 * x1.toNatClampNeg) 4) (Option.bind (C 34 [.ref (51 + 2 * x1.toNatClampNeg), .int x3] r2.2.2) (fun r3 => if r3.1 = 0 then (z_g (z_in 4 x1) (z_g (z_okc z_SH (51 + 2 * x1.toNatClampNeg) 4) (Option.bind (C 35 [.ref (51 + 2 * x1.toNatClampNeg), .int x2] r3.2.2) (fun r4 => if r4.1 = 0 then (z_g (z_in 4 x1) (Option.bind (z_ref z_SH (51 + 2 * x1.toNatClampNeg) 4 0) (fun r5 => z_g (z_ina z_SH r5 0 x2) (some (0, (r4.2.2 r5 x2.toNatClampNeg).toInt64, r4.2.2))))) else (some (0, z_lost, z_up r4.2.2 0 10 r4.1)))))) else (if r3.1 = 0 then (z_g (z_in 4 x1) (Option.bind (z_ref z_SH (51 + 2 * x1.toNatClampNeg) 4 0) (fun r6 => z_g (z_ina z_SH r6 0 x2) (some (0, (r3.2.2 r6 x2.toNatClampNeg).toInt64, r3.2.2))))) else (some (0, z_lost, z_up r3.2.2 0 10 r3.1)))))))))) := rfl
set_option maxRecDepth 100000 in
theorem e_X9_copy_0 (L : Nat) (xs : Nat → Int32) (C : Nat → List Value → z_M → Option z_R) (F : Nat) (x1 : Int32) (x2 : Int32) (x3 : Int32) (x4 : Int32) (x5 : Int32) (m : z_M) : z_lp z_SH L xs C me_X9_copy (F + 1) 0 [some (.ref 0), some (.int x1), some (.int x2), some (.int x3), some (.int x4), some (.int x5), none, none] [] m = Option.bind (C 95 [.int x1] (z_up m 0 10 0)) (fun r1 => if r1.1 = 0 then (some ((-1), 0, r1.2.2)) else (Option.bind (C 95 [.int x3] r1.2.2) (fun r2 => if r2.1 = 0 then (some ((-1), 0, r2.2.2)) else (z_g (z_in 4 x1) (z_g (z_in 4 x3) (z_g (z_okp z_SH (51 + 2 * x1.toNatClampNeg) 4 1 1) (if (z_b (r2.2.2 (51 + 2 * x1.toNatClampNeg) 1)) = 0 then (Option.bind (C 99 [.ref 0, .int 1] r2.2.2) (fun r3 => some (r3.1, 0, r3.2.2))) else (z_g (z_okp z_SH (51 + 2 * x3.toNatClampNeg) 4 1 1) (if (z_b (r2.2.2 (51 + 2 * x3.toNatClampNeg) 1)) = 0 then (Option.bind (C 99 [.ref 0, .int 1] r2.2.2) (fun r4 => some (r4.1, 0, r4.2.2))) else (z_g (z_okp z_SH (51 + 2 * x1.toNatClampNeg) 4 2 0) (z_g (z_okp z_SH (51 + 2 * x3.toNatClampNeg) 4 2 0) (if (r2.2.2 (51 + 2 * x1.toNatClampNeg) 2) = (r2.2.2 (51 + 2 * x3.toNatClampNeg) 2) then (z_g (z_okc z_SH (51 + 2 * x1.toNatClampNeg) 4) (Option.bind (C 36 [.ref (51 + 2 * x1.toNatClampNeg), .int x2, .int x5] r2.2.2) (fun r5 => if r5.1 = 0 then (z_g (z_okc z_SH (51 + 2 * x3.toNatClampNeg) 4) (Option.bind (C 36 [.ref (51 + 2 * x3.toNatClampNeg), .int x4, .int x5] r5.2.2) (fun r6 => if r6.1 = 0 then (Option.bind (z_ref z_SH (51 + 2 * x1.toNatClampNeg) 4 0) (fun r7 => Option.bind (z_ref z_SH (51 + 2 * x3.toNatClampNeg) 4 0) (fun r8 => z_g (z_copy z_SH r7 r8 x2 x4 x5) (some (x5, 0, (fun q => if q = r8 then va_cpy (r6.2.2 r7) (r6.2.2 r8) x2.toNatClampNeg x4.toNatClampNeg x5.toNatClampNeg else r6.2.2 q)))))) else (Option.bind (C 99 [.ref 0, .int 3] r6.2.2) (fun r9 => some (r9.1, 0, r9.2.2)))))) else (Option.bind (C 99 [.ref 0, .int 3] r5.2.2) (fun r10 => some (r10.1, 0, r10.2.2)))))) else (Option.bind (C 99 [.ref 0, .int 2] r2.2.2) (fun r11 => some (r11.1, 0, r11.2.2))))))))))))))) := rfl
set_option maxRecDepth 100000 in
theorem e_X9_tell_0 (L : Nat) (xs : Nat → Int32) (C : Nat → List Value → z_M → Option z_R) (F : Nat) (x1 : Int32) (m : z_M) : z_lp z_SH L xs C me_X9_tell (F + 1) 0 [some (.ref 0), some (.int x1)] [] m = Option.bind (C 97 [.ref 0, .int x1] m) (fun r1 => if r1.1 = 0 then (some ((-1), 0, r1.2.2)) else (z_g (z_in 6 x1) (z_g (z_okp z_SH (5 + x1.toNatClampNeg) 1 0 0) (if (r1.2.2 (5 + x1.toNatClampNeg) 0) = nI 0 then (Option.bind (C 102 [.ref 0, .int x1] r1.2.2) (fun r2 => some (r2.1, 0, r2.2.2))) else if (r1.2.2 (5 + x1.toNatClampNeg) 0) = nI 1 then (Option.bind (C 103 [.ref 0, .int x1] r1.2.2) (fun r3 => some (r3.1, 0, r3.2.2))) else (Option.bind (C 104 [.ref 0, .int x1] r1.2.2) (fun r4 => some (r4.1, 0, r4.2.2))))))) := rfl
set_option maxRecDepth 100000 in
theorem e_X9_bow_0 (L : Nat) (xs : Nat → Int32) (C : Nat → List Value → z_M → Option z_R) (F : Nat) (x1 : Int32) (m : z_M) : z_lp z_SH L xs C me_X9_bow (F + 1) 0 [some (.ref 0), some (.int x1)] [] m = Option.bind (C 97 [.ref 0, .int x1] m) (fun r1 => if r1.1 = 0 then (some ((-1), 0, r1.2.2)) else (z_g (z_in 6 x1) (z_g (z_okp z_SH (5 + x1.toNatClampNeg) 1 0 0) (if (r1.2.2 (5 + x1.toNatClampNeg) 0) = 2 then (Option.bind (C 101 [.ref 0, .int 5] r1.2.2) (fun r2 => some (70, 0, r2.2.2))) else (Option.bind (C 101 [.ref 0, .int 4] r1.2.2) (fun r3 => z_g (z_in 6 x1) (z_g (z_okp z_SH (5 + x1.toNatClampNeg) 1 3 0) (some (r3.2.2 (5 + x1.toNatClampNeg) 3, 0, r3.2.2))))))))) := rfl
set_option maxRecDepth 100000 in
theorem e_X9_as_0 (L : Nat) (xs : Nat → Int32) (C : Nat → List Value → z_M → Option z_R) (F : Nat) (x1 : Int32) (x2 : Int32) (m : z_M) : z_lp z_SH L xs C me_X9_as (F + 1) 0 [some (.ref 0), some (.int x1), some (.int x2)] [] m = Option.bind (C 97 [.ref 0, .int x1] (z_up m 0 10 0)) (fun r1 => if r1.1 = 0 then (some ((-1), 0, r1.2.2)) else (Option.bind (C 94 [.int x2, .int 0, .int 2] r1.2.2) (fun r2 => if r2.1 = 0 then (some ((-2), 0, r2.2.2)) else (z_g (z_in 6 x1) (z_g (z_okp z_SH (5 + x1.toNatClampNeg) 1 0 0) (if (r2.2.2 (5 + x1.toNatClampNeg) 0) < x2 then (Option.bind (C 99 [.ref 0, .int 2] r2.2.2) (fun r3 => some (r3.1, 0, r3.2.2))) else (some (1, 0, r2.2.2)))))))) := rfl
set_option maxRecDepth 100000 in
theorem e_X9_trace_0 (L : Nat) (xs : Nat → Int32) (C : Nat → List Value → z_M → Option z_R) (F : Nat) (m : z_M) : z_lp z_SH L xs C me_X9_trace (F + 1) 0 [some (.ref 0)] [] m = some (m 0 9, 0, m) := rfl
set_option maxRecDepth 100000 in
theorem e_X9_fault_0 (L : Nat) (xs : Nat → Int32) (C : Nat → List Value → z_M → Option z_R) (F : Nat) (m : z_M) : z_lp z_SH L xs C me_X9_fault (F + 1) 0 [some (.ref 0)] [] m = some (m 0 10, 0, m) := rfl
set_option maxRecDepth 100000 in
theorem e_X9_many_0 (L : Nat) (xs : Nat → Int32) (C : Nat → List Value → z_M → Option z_R) (F : Nat) (x1 : Int32) (m : z_M) : z_lp z_SH L xs C me_X9_many (F + 1) 0 [some (.ref 0), some (.int x1)] [] m = if x1 = nI 0 then (some (m 2 3, 0, m)) else if x1 = nI 1 then (some (m 2 2, 0, m)) else if x1 = nI 2 then (some (m 2 4, 0, m)) else if x1 = nI 3 then (Option.bind (C 26 [.ref 2] m) (fun r1 => Option.bind (C 178 [.int r1.1] r1.2.2) (fun r2 => some (r2.1, 0, r2.2.2)))) else if x1 = nI 4 then (some (m 40 3, 0, m)) else (some ((-2), 0, m)) := rfl
set_option maxRecDepth 100000 in
theorem e_X9_within_0 (L : Nat) (xs : Nat → Int32) (C : Nat → List Value → z_M → Option z_R) (F : Nat) (x1 : Int32) (x2 : Int32) (x3 : Int32) (m : z_M) : z_lp z_SH L xs C me_X9_within (F + 1) 0 [some (.int x1), some (.int x2), some (.int x3)] [] m = if x1 < x2 then (some (0, 0, m)) else (if x3 < x1 then (some (0, 0, m)) else (some (1, 0, m))) := rfl
set_option maxRecDepth 100000 in
theorem e_X9_isSheet_0 (L : Nat) (xs : Nat → Int32) (C : Nat → List Value → z_M → Option z_R) (F : Nat) (x1 : Int32) (m : z_M) : z_lp z_SH L xs C me_X9_isSheet (F + 1) 0 [some (.int x1)] [] m = Option.bind (C 94 [.int x1, .int 0, .int 3] m) (fun r1 => z_g (z_isb r1.1) (some (r1.1, 0, r1.2.2))) := rfl
set_option maxRecDepth 100000 in
theorem e_X9_isSign_0 (L : Nat) (xs : Nat → Int32) (C : Nat → List Value → z_M → Option z_R) (F : Nat) (x1 : Int32) (m : z_M) : z_lp z_SH L xs C me_X9_isSign (F + 1) 0 [some (.ref 0), some (.int x1)] [] m = if x1 < 0 then (some (0, 0, m)) else (if (m 2 2) ≤ x1 then (some (0, 0, m)) else (some (1, 0, m))) := rfl
set_option maxRecDepth 100000 in
theorem e_X9_isGuest_0 (L : Nat) (xs : Nat → Int32) (C : Nat → List Value → z_M → Option z_R) (F : Nat) (x1 : Int32) (m : z_M) : z_lp z_SH L xs C me_X9_isGuest (F + 1) 0 [some (.ref 0), some (.int x1)] [] m = if x1 < 0 then (some (0, 0, m)) else (if (m 2 3) ≤ x1 then (some (0, 0, m)) else (some (1, 0, m))) := rfl
set_option maxRecDepth 100000 in
theorem e_X9_isDinnerQuestion_0 (L : Nat) (xs : Nat → Int32) (C : Nat → List Value → z_M → Option z_R) (F : Nat) (x1 : Int32) (m : z_M) : z_lp z_SH L xs C me_X9_isDinnerQuestion (F + 1) 0 [some (.int x1)] [] m = Option.bind (C 94 [.int x1, .int 0, .int 4] m) (fun r1 => if r1.1 = 0 then (Option.bind (C 94 [.int x1, .int 10, .int 15] r1.2.2) (fun r2 => if r2.1 = 0 then (some (0, 0, r2.2.2)) else (some (1, 0, r2.2.2)))) else (some (1, 0, r1.2.2))) := rfl
set_option maxRecDepth 100000 in
theorem e_X9_failed_0 (L : Nat) (xs : Nat → Int32) (C : Nat → List Value → z_M → Option z_R) (F : Nat) (x1 : Int32) (m : z_M) : z_lp z_SH L xs C me_X9_failed (F + 1) 0 [some (.ref 0), some (.int x1)] [] m = some ((-10) - x1, 0, z_up m 0 10 x1) := rfl
set_option maxRecDepth 100000 in
theorem e_X9_commonDivisor_0 (L : Nat) (xs : Nat → Int32) (C : Nat → List Value → z_M → Option z_R) (F : Nat) (x1 : Int32) (x2 : Int32) (m : z_M) : z_lp z_SH L xs C me_X9_commonDivisor (F + 1) 0 [some (.int x1), some (.int x2), none, none, none, none] [] m = z_lp z_SH L xs C me_X9_commonDivisor F 7 [none, none, some (.int x1), some (.int x2), some (.int 0), none] [] m := rfl
set_option maxRecDepth 100000 in
theorem e_X9_commonDivisor_7 (L : Nat) (xs : Nat → Int32) (C : Nat → List Value → z_M → Option z_R) (F : Nat) (y2 : Int32) (y3 : Int32) (y4 : Int32) (m : z_M) : z_lp z_SH L xs C me_X9_commonDivisor (F + 1) 7 [none, none, some (.int y2), some (.int y3), some (.int y4), none] [] m = if 40 ≤ y4 then (some (y2, 0, m)) else (if y3 ≤ 0 then (some (y2, 0, m)) else (z_g (decide (¬ (y3 : Int32) = 0)) (z_lp z_SH L xs C me_X9_commonDivisor F 7 [none, none, some (.int y3), some (.int (y2 - y2 / y3 * y3)), some (.int (y4 + 1)), none] [] m))) := rfl
set_option maxRecDepth 100000 in
theorem e_X9_begin_0 (L : Nat) (xs : Nat → Int32) (C : Nat → List Value → z_M → Option z_R) (F : Nat) (x1 : Int32) (m : z_M) : z_lp z_SH L xs C me_X9_begin (F + 1) 0 [some (.ref 0), some (.int x1)] [] m = some (0, 0, z_up m 0 9 ((31 * (m 0 9)) + x1)) := rfl
set_option maxRecDepth 100000 in
theorem e_X9_missTells_0 (L : Nat) (xs : Nat → Int32) (C : Nat → List Value → z_M → Option z_R) (F : Nat) (x1 : Int32) (m : z_M) : z_lp z_SH L xs C me_X9_missTells (F + 1) 0 [some (.ref 0), some (.int x1)] [] m = Option.bind (C 101 [.ref 0, .int 1] m) (fun r1 => z_g (z_in 6 x1) (z_g (z_okp z_SH (5 + x1.toNatClampNeg) 1 1 0) (some (r1.2.2 (5 + x1.toNatClampNeg) 1, 0, r1.2.2)))) := rfl
set_option maxRecDepth 100000 in
theorem e_X9_colonelTells_0 (L : Nat) (xs : Nat → Int32) (C : Nat → List Value → z_M → Option z_R) (F : Nat) (x1 : Int32) (m : z_M) : z_lp z_SH L xs C me_X9_colonelTells (F + 1) 0 [some (.ref 0), some (.int x1)] [] m = Option.bind (C 101 [.ref 0, .int 2] m) (fun r1 => Option.bind (C 102 [.ref 0, .int x1] r1.2.2) (fun r2 => some (r2.1 + 100, 0, r2.2.2))) := rfl
set_option maxRecDepth 100000 in
theorem e_X9_brokerTells_0 (L : Nat) (xs : Nat → Int32) (C : Nat → List Value → z_M → Option z_R) (F : Nat) (x1 : Int32) (m : z_M) : z_lp z_SH L xs C me_X9_brokerTells (F + 1) 0 [some (.ref 0), some (.int x1), none] [] m = Option.bind (C 101 [.ref 0, .int 3] m) (fun r1 => Option.bind (C 103 [.ref 0, .int x1] r1.2.2) (fun r2 => Option.bind (C 102 [.ref 0, .int x1] r2.2.2) (fun r3 => some (r2.1 + r3.1, 0, r3.2.2)))) := rfl
set_option maxRecDepth 100000 in
theorem e_X10_fails_0 (L : Nat) (xs : Nat → Int32) (C : Nat → List Value → z_M → Option z_R) (F : Nat) (x1 : Int32) (m : z_M) : z_lp z_SH L xs C me_X10_fails (F + 1) 0 [some (.ref 59), some (.int x1)] [] m = some ((-10) - x1, 0, z_up m 59 0 x1) := rfl
set_option maxRecDepth 100000 in
theorem e_X10_lost_0 (L : Nat) (xs : Nat → Int32) (C : Nat → List Value → z_M → Option z_R) (F : Nat) (x1 : Int32) (m : z_M) : z_lp z_SH L xs C me_X10_lost (F + 1) 0 [some (.ref 59), some (.int x1)] [] m = some (0, z_lost, z_up m 59 0 x1) := rfl
set_option maxRecDepth 100000 in
theorem e_X10_within_0 (L : Nat) (xs : Nat → Int32) (C : Nat → List Value → z_M → Option z_R) (F : Nat) (x1 : Int32) (x2 : Int32) (x3 : Int32) (m : z_M) : z_lp z_SH L xs C me_X10_within (F + 1) 0 [some (.int x1), some (.int x2), some (.int x3)] [] m = if x1 < x2 then (some (0, 0, m)) else (if x3 < x1 then (some (0, 0, m)) else (some (1, 0, m))) := rfl
set_option maxRecDepth 100000 in
theorem e_X10_isSheet_0 (L : Nat) (xs : Nat → Int32) (C : Nat → List Value → z_M → Option z_R) (F : Nat) (x1 : Int32) (m : z_M) : z_lp z_SH L xs C me_X10_isSheet (F + 1) 0 [some (.int x1)] [] m = Option.bind (C 108 [.int x1, .int 0, .int 3] m) (fun r1 => z_g (z_isb r1.1) (some (r1.1, 0, r1.2.2))) := rfl
set_option maxRecDepth 100000 in
theorem e_X10_isSort_0 (L : Nat) (xs : Nat → Int32) (C : Nat → List Value → z_M → Option z_R) (F : Nat) (x1 : Int32) (m : z_M) : z_lp z_SH L xs C me_X10_isSort (F + 1) 0 [some (.int x1)] [] m = Option.bind (C 108 [.int x1, .int 0, .int 2] m) (fun r1 => z_g (z_isb r1.1) (some (r1.1, 0, r1.2.2))) := rfl
set_option maxRecDepth 100000 in
theorem e_X10_against_0 (L : Nat) (xs : Nat → Int32) (C : Nat → List Value → z_M → Option z_R) (F : Nat) (x1 : Int32) (x2 : Int32) (x3 : Int32) (x4 : Int32) (m : z_M) : z_lp z_SH L xs C me_X10_against (F + 1) 0 [some (.ref 59), some (.int x1), some (.int x2), some (.int x3), some (.int x4)] [] m = z_g (z_in 4 x1) (if (m 60 x1.toNatClampNeg) = (-9) then (z_g (z_in 4 x1) (if (m 60 x1.toNatClampNeg) = (-9) then (some (1, 0, m)) else (if 0 ≤ x4 then (if x3 < 0 then (some (3, 0, m)) else (z_g (z_in 4 x1) (if (m 61 x1.toNatClampNeg) < x3 then (some (3, 0, m)) else (z_g (z_in 4 x1) (if x4 ≤ ((m 61 x1.toNatClampNeg) - x3) then (some (0, 0, m)) else (some (3, 0, m))))))) else (some (4, 0, m))))) else (z_g (z_in 4 x1) (if (m 60 x1.toNatClampNeg) = x2 then (z_g (z_in 4 x1) (if (m 60 x1.toNatClampNeg) = (-9) then (some (1, 0, m)) else (if 0 ≤ x4 then (if x3 < 0 then (some (3, 0, m)) else (z_g (z_in 4 x1) (if (m 61 x1.toNatClampNeg) < x3 then (some (3, 0, m)) else (z_g (z_in 4 x1) (if x4 ≤ ((m 61 x1.toNatClampNeg) - x3) then (some (0, 0, m)) else (some (3, 0, m))))))) else (some (4, 0, m))))) else (some (2, 0, m))))) := rfl
set_option maxRecDepth 100000 in
theorem e_X10_isSignOf_0 (L : Nat) (xs : Nat → Int32) (C : Nat → List Value → z_M → Option z_R) (F : Nat) (x1 : Int32) (m : z_M) : z_lp z_SH L xs C me_X10_isSignOf (F + 1) 0 [some (.ref 59), some (.int x1)] [] m = if x1 < 0 then (some (0, 0, m)) else (if (m 59 5) ≤ x1 then (some (0, 0, m)) else (some (1, 0, m))) := rfl
set_option maxRecDepth 100000 in
theorem e_X10_isGuest_0 (L : Nat) (xs : Nat → Int32) (C : Nat → List Value → z_M → Option z_R) (F : Nat) (x1 : Int32) (m : z_M) : z_lp z_SH L xs C me_X10_isGuest (F + 1) 0 [some (.ref 59), some (.int x1)] [] m = if x1 < 0 then (some (0, 0, m)) else (if (m 59 6) ≤ x1 then (some (0, 0, m)) else (some (1, 0, m))) := rfl
set_option maxRecDepth 100000 in
theorem e_X10_isTable_0 (L : Nat) (xs : Nat → Int32) (C : Nat → List Value → z_M → Option z_R) (F : Nat) (x1 : Int32) (m : z_M) : z_lp z_SH L xs C me_X10_isTable (F + 1) 0 [some (.int x1)] [] m = Option.bind (C 108 [.int x1, .int 0, .int 5] m) (fun r1 => z_g (z_isb r1.1) (some (r1.1, 0, r1.2.2))) := rfl
set_option maxRecDepth 100000 in
theorem e_X10_isOf_0 (L : Nat) (xs : Nat → Int32) (C : Nat → List Value → z_M → Option z_R) (F : Nat) (x1 : Int32) (x2 : Int32) (m : z_M) : z_lp z_SH L xs C me_X10_isOf (F + 1) 0 [some (.int x1), some (.int x2)] [] m = if ((x1 >>> (x2 &&& 31)) &&& (1 : Int32)) = 1 then (some (1, 0, m)) else (some (0, 0, m)) := rfl
set_option maxRecDepth 100000 in
theorem e_X10_size_0 (L : Nat) (xs : Nat → Int32) (C : Nat → List Value → z_M → Option z_R) (F : Nat) (x1 : Int32) (m : z_M) : z_lp z_SH L xs C me_X10_size (F + 1) 0 [some (.int x1), none, none] [] m = z_lp z_SH L xs C me_X10_size F 4 [none, some (.int 0), some (.int x1)] [] m := rfl
set_option maxRecDepth 100000 in
theorem e_X10_size_4 (L : Nat) (xs : Nat → Int32) (C : Nat → List Value → z_M → Option z_R) (F : Nat) (y1 : Int32) (y2 : Int32) (m : z_M) : z_lp z_SH L xs C me_X10_size (F + 1) 4 [none, some (.int y1), some (.int y2)] [] m = if y2 ≤ 0 then (some (y1, 0, m)) else (z_lp z_SH L xs C me_X10_size F 4 [none, some (.int (y1 + (y2 &&& 1))), some (.int (y2 >>> (1 &&& 31)))] [] m) := rfl
set_option maxRecDepth 100000 in
theorem e_X10_digit_0 (L : Nat) (xs : Nat → Int32) (C : Nat → List Value → z_M → Option z_R) (F : Nat) (x1 : Int32) (x2 : Int32) (x3 : Int32) (m : z_M) : z_lp z_SH L xs C me_X10_digit (F + 1) 0 [some (.ref 59), some (.int x1), some (.int x2), some (.int x3)] [] m = if x1 ≤ (m 59 16) then (some ((-9), 0, m)) else (z_g (z_in 240 (m 59 16)) (Option.bind (C 108 [.int (m 62 (m 59 16).toNatClampNeg), .int (48 + x2), .int (48 + x3)] m) (fun r1 => if r1.1 = 0 then (some ((-9), 0, r1.2.2)) else (z_g (z_in 240 (((z_up r1.2.2 59 16 ((r1.2.2 59 16) + 1)) 59 16) - 1)) (some (((z_up r1.2.2 59 16 ((r1.2.2 59 16) + 1)) 62 (((z_up r1.2.2 59 16 ((r1.2.2 59 16) + 1)) 59 16) - 1).toNatClampNeg) - 48, 0, z_up r1.2.2 59 16 ((r1.2.2 59 16) + 1))))))) := rfl
set_option maxRecDepth 100000 in
theorem e_X10_isSign_0 (L : Nat) (xs : Nat → Int32) (C : Nat → List Value → z_M → Option z_R) (F : Nat) (x1 : Int32) (x2 : Int32) (m : z_M) : z_lp z_SH L xs C me_X10_isSign (F + 1) 0 [some (.ref 59), some (.int x1), some (.int x2)] [] m = if x1 ≤ (m 59 16) then (some (0, 0, m)) else (z_g (z_in 240 (m 59 16)) (if (m 62 (m 59 16).toNatClampNeg) = x2 then (some (1, 0, z_up m 59 16 ((m 59 16) + 1))) else (some (0, 0, m)))) := rfl
set_option maxRecDepth 100000 in
theorem e_X10_hotel_0 (L : Nat) (xs : Nat → Int32) (C : Nat → List Value → z_M → Option z_R) (F : Nat) (x1 : Int32) (x2 : Int32) (x3 : Int32) (x4 : Int32) (m : z_M) : z_lp z_SH L xs C me_X10_hotel (F + 1) 0 [some (.ref 59), some (.int x1), some (.int x2), some (.int x3), some (.int x4), none, none] [] m = Option.bind (C 109 [.int x1] (z_up m 59 0 0)) (fun r1 => if r1.1 = 0 then (some ((-1), 0, r1.2.2)) else (Option.bind (C 110 [.int x2] r1.2.2) (fun r2 => if r2.1 = 0 then (some ((-2), 0, r2.2.2)) else (Option.bind (C 111 [.ref 59, .int x1, .int x2, .int x3, .int x4] r2.2.2) (fun r3 => if r3.1 = 0 then (Option.bind (C 121 [.ref 59, .int (((60 * x1) + x3) + x4)] (z_up r3.2.2 59 16 ((60 * x1) + x3))) (fun r4 => if r4.1 = 0 then (some ((-100) - ((r4.2.2 59 16) - ((60 * x1) + x3)), 0, r4.2.2)) else (Option.bind (C 120 [.ref 59] r4.2.2) (fun r5 => some (r5.2.2 59 6, 0, r5.2.2))))) else (Option.bind (C 106 [.ref 59, .int r3.1] r3.2.2) (fun r6 => some (r6.1, 0, r6.2.2)))))))) := rfl
set_option maxRecDepth 100000 in
theorem e_X10_takeHotel_0 (L : Nat) (xs : Nat → Int32) (C : Nat → List Value → z_M → Option z_R) (F : Nat) (m : z_M) : z_lp z_SH L xs C me_X10_takeHotel (F + 1) 0 [some (.ref 59), none] [] m = z_lp z_SH L xs C me_X10_takeHotel F 10 [some (.ref 59), some (.int 0)] [] (z_up m 59 5 (m 59 17)) := rfl
set_option maxRecDepth 100000 in
theorem e_X10_takeHotel_10 (L : Nat) (xs : Nat → Int32) (C : Nat → List Value → z_M → Option z_R) (F : Nat) (y1 : Int32) (m : z_M) : z_lp z_SH L xs C me_X10_takeHotel (F + 1) 10 [some (.ref 59), some (.int y1)] [] m = if (m 59 5) ≤ y1 then (z_lp z_SH L xs C me_X10_takeHotel F 46 [some (.ref 59), some (.int 0)] [] (z_up m 59 6 (m 59 18))) else (z_g (z_in 5 y1) (z_g (z_in 5 y1) (z_lp z_SH L xs C me_X10_takeHotel F 10 [some (.ref 59), some (.int (y1 + 1))] [] (z_up m 63 y1.toNatClampNeg (m 69 y1.toNatClampNeg))))) := rfl
set_option maxRecDepth 100000 in
theorem e_X10_takeHotel_46 (L : Nat) (xs : Nat → Int32) (C : Nat → List Value → z_M → Option z_R) (F : Nat) (y1 : Int32) (m : z_M) : z_lp z_SH L xs C me_X10_takeHotel (F + 1) 46 [some (.ref 59), some (.int y1)] [] m = if (m 59 6) ≤ y1 then (some (0, 0, z_up (z_up (z_up (z_up m 59 7 0) 59 8 0) 59 9 0) 59 33 0)) else (z_g (z_in 24 (4 * y1)) (z_g (z_in 6 y1) (z_g (z_in 24 ((4 * y1) + 1)) (z_g (z_in 6 y1) (z_g (z_in 24 ((4 * y1) + 2)) (z_g (z_in 6 y1) (z_g (z_in 24 ((4 * y1) + 3)) (z_g (z_in 6 y1) (z_g (z_in 6 y1) (z_lp z_SH L xs C me_X10_takeHotel F 46 [some (.ref 59), some (.int (y1 + 1))] [] (z_up (z_up (z_up (z_up (z_up m 64 y1.toNatClampNeg (m 70 (4 * y1).toNatClampNeg)) 65 y1.toNatClampNeg ((z_up m 64 y1.toNatClampNeg (m 70 (4 * y1).toNatClampNeg)) 70 ((4 * y1) + 1).toNatClampNeg)) 66 y1.toNatClampNeg ((z_up (z_up m 64 y1.toNatClampNeg (m 70 (4 * y1).toNatClampNeg)) 65 y1.toNatClampNeg ((z_up m 64 y1.toNatClampNeg (m 70 (4 * y1).toNatClampNeg)) 70 ((4 * y1) + 1).toNatClampNeg)) 70 ((4 * y1) + 2).toNatClampNeg)) 67 y1.toNatClampNeg ((z_up (z_up (z_up m 64 y1.toNatClampNeg (m 70 (4 * y1).toNatClampNeg)) 65 y1.toNatClampNeg ((z_up m 64 y1.toNatClampNeg (m 70 (4 * y1).toNatClampNeg)) 70 ((4 * y1) + 1).toNatClampNeg)) 66 y1.toNatClampNeg ((z_up (z_up m 64 y1.toNatClampNeg (m 70 (4 * y1).toNatClampNeg)) 65 y1.toNatClampNeg ((z_up m 64 y1.toNatClampNeg (m 70 (4 * y1).toNatClampNeg)) 70 ((4 * y1) + 1).toNatClampNeg)) 70 ((4 * y1) + 2).toNatClampNeg)) 70 ((4 * y1) + 3).toNatClampNeg)) 68 y1.toNatClampNeg 0))))))))))) := rfl
set_option maxRecDepth 100000 in
theorem e_X10_readHotel_0 (L : Nat) (xs : Nat → Int32) (C : Nat → List Value → z_M → Option z_R) (F : Nat) (x1 : Int32) (m : z_M) : z_lp z_SH L xs C me_X10_readHotel (F + 1) 0 [some (.ref 59), some (.int x1)] [] m = Option.bind (C 118 [.ref 59, .int x1, .int 104] (z_up m 59 18 0)) (fun r1 => if r1.1 = 0 then (some (0, 0, r1.2.2)) else (Option.bind (C 122 [.ref 59, .int x1] r1.2.2) (fun r2 => if r2.1 = 0 then (some (0, 0, r2.2.2)) else (z_lp z_SH L xs C me_X10_readHotel F 25 [some (.ref 59), some (.int x1)] [] r2.2.2)))) := rfl
set_option maxRecDepth 100000 in
theorem e_X10_readHotel_25 (L : Nat) (xs : Nat → Int32) (C : Nat → List Value → z_M → Option z_R) (F : Nat) (y1 : Int32) (m : z_M) : z_lp z_SH L xs C me_X10_readHotel (F + 1) 25 [some (.ref 59), some (.int y1)] [] m = if (m 59 18) = 0 then (Option.bind (C 118 [.ref 59, .int y1, .int 59] m) (fun r1 => if r1.1 = 0 then (some (0, 0, r1.2.2)) else (Option.bind (C 123 [.ref 59, .int y1] r1.2.2) (fun r2 => if r2.1 = 0 then (some (0, 0, r2.2.2)) else (z_lp z_SH L xs C me_X10_readHotel F 25 [some (.ref 59), some (.int y1)] [] r2.2.2))))) else (if 6 ≤ (m 59 18) then (if (m 59 16) = y1 then (some (1, 0, m)) else (some (0, 0, m))) else (if y1 ≤ (m 59 16) then (if (m 59 16) = y1 then (some (1, 0, m)) else (some (0, 0, m))) else (Option.bind (C 118 [.ref 59, .int y1, .int 59] m) (fun r3 => if r3.1 = 0 then (some (0, 0, r3.2.2)) else (Option.bind (C 123 [.ref 59, .int y1] r3.2.2) (fun r4 => if r4.1 = 0 then (some (0, 0, r4.2.2)) else (z_lp z_SH L xs C me_X10_readHotel F 25 [some (.ref 59), some (.int y1)] [] r4.2.2))))))) := rfl
set_option maxRecDepth 100000 in
theorem e_X10_readTheSigns_0 (L : Nat) (xs : Nat → Int32) (C : Nat → List Value → z_M → Option z_R) (F : Nat) (x1 : Int32) (m : z_M) : z_lp z_SH L xs C me_X10_readTheSigns (F + 1) 0 [some (.ref 59), some (.int x1), none] [] m = z_lp z_SH L xs C me_X10_readTheSigns F 5 [some (.ref 59), some (.int x1), none] [] (z_up m 59 17 0) := rfl
set_option maxRecDepth 100000 in
theorem e_X10_readTheSigns_5 (L : Nat) (xs : Nat → Int32) (C : Nat → List Value → z_M → Option z_R) (F : Nat) (y1 : Int32) (m : z_M) : z_lp z_SH L xs C me_X10_readTheSigns (F + 1) 5 [some (.ref 59), some (.int y1), none] [] m = if 5 ≤ (m 59 17) then (some (1, 0, m)) else (Option.bind (C 117 [.ref 59, .int y1, .int 1, .int 9] m) (fun r1 => if r1.1 = (-9) then (if (r1.2.2 59 17) ≤ 0 then (some (0, 0, r1.2.2)) else (some (1, 0, r1.2.2))) else (z_g (z_in 5 (r1.2.2 59 17)) (z_lp z_SH L xs C me_X10_readTheSigns F 5 [some (.ref 59), some (.int y1), none] [] (z_up (z_up r1.2.2 69 (r1.2.2 59 17).toNatClampNeg r1.1) 59 17 (((z_up r1.2.2 69 (r1.2.2 59 17).toNatClampNeg r1.1) 59 17) + 1)))))) := rfl
set_option maxRecDepth 100000 in
theorem e_X10_readGuest_0 (L : Nat) (xs : Nat → Int32) (C : Nat → List Value → z_M → Option z_R) (F : Nat) (x1 : Int32) (m : z_M) : z_lp z_SH L xs C me_X10_readGuest (F + 1) 0 [some (.ref 59), some (.int x1), none, none, none] [] m = if x1 ≤ (m 59 16) then (if (0 : Int32) = 109 then (z_g (z_in 24 (4 * (m 59 18))) (z_g (z_in 24 (4 * (m 59 18))) (if ((z_up m 70 (4 * (m 59 18)).toNatClampNeg 0) 70 (4 * (m 59 18)).toNatClampNeg) = (-9) then (some (0, 0, z_up m 70 (4 * (m 59 18)).toNatClampNeg 0)) else (z_lp z_SH L xs C me_X10_readGuest F 93 [some (.ref 59), some (.int x1), none, some (.int (4 * (m 59 18))), some (.int 1)] [] (z_up (z_up m 70 (4 * (m 59 18)).toNatClampNeg 0) 59 16 (((z_up m 70 (4 * (m 59 18)).toNatClampNeg 0) 59 16) + 1)))))) else (if (0 : Int32) = 99 then (z_g (z_in 24 (4 * (m 59 18))) (z_g (z_in 24 (4 * (m 59 18))) (if ((z_up m 70 (4 * (m 59 18)).toNatClampNeg 1) 70 (4 * (m 59 18)).toNatClampNeg) = (-9) then (some (0, 0, z_up m 70 (4 * (m 59 18)).toNatClampNeg 1)) else (z_lp z_SH L xs C me_X10_readGuest F 93 [some (.ref 59), some (.int x1), none, some (.int (4 * (m 59 18))), some (.int 1)] [] (z_up (z_up m 70 (4 * (m 59 18)).toNatClampNeg 1) 59 16 (((z_up m 70 (4 * (m 59 18)).toNatClampNeg 1) 59 16) + 1)))))) else (if (0 : Int32) = 98 then (z_g (z_in 24 (4 * (m 59 18))) (z_g (z_in 24 (4 * (m 59 18))) (if ((z_up m 70 (4 * (m 59 18)).toNatClampNeg 2) 70 (4 * (m 59 18)).toNatClampNeg) = (-9) then (some (0, 0, z_up m 70 (4 * (m 59 18)).toNatClampNeg 2)) else (z_lp z_SH L xs C me_X10_readGuest F 93 [some (.ref 59), some (.int x1), none, some (.int (4 * (m 59 18))), some (.int 1)] [] (z_up (z_up m 70 (4 * (m 59 18)).toNatClampNeg 2) 59 16 (((z_up m 70 (4 * (m 59 18)).toNatClampNeg 2) 59 16) + 1)))))) else (z_g (z_in 24 (4 * (m 59 18))) (z_g (z_in 24 (4 * (m 59 18))) (if ((z_up m 70 (4 * (m 59 18)).toNatClampNeg (-9)) 70 (4 * (m 59 18)).toNatClampNeg) = (-9) then (some (0, 0, z_up m 70 (4 * (m 59 18)).toNatClampNeg (-9))) else (z_lp z_SH L xs C me_X10_readGuest F 93 [some (.ref 59), some (.int x1), none, some (.int (4 * (m 59 18))), some (.int 1)] [] (z_up (z_up m 70 (4 * (m 59 18)).toNatClampNeg (-9)) 59 16 (((z_up m 70 (4 * (m 59 18)).toNatClampNeg (-9)) 59 16) + 1))))))))) else (z_g (z_in 240 (m 59 16)) (if (m 62 (m 59 16).toNatClampNeg) = 109 then (z_g (z_in 24 (4 * (m 59 18))) (z_g (z_in 24 (4 * (m 59 18))) (if ((z_up m 70 (4 * (m 59 18)).toNatClampNeg 0) 70 (4 * (m 59 18)).toNatClampNeg) = (-9) then (some (0, 0, z_up m 70 (4 * (m 59 18)).toNatClampNeg 0)) else (z_lp z_SH L xs C me_X10_readGuest F 93 [some (.ref 59), some (.int x1), none, some (.int (4 * (m 59 18))), some (.int 1)] [] (z_up (z_up m 70 (4 * (m 59 18)).toNatClampNeg 0) 59 16 (((z_up m 70 (4 * (m 59 18)).toNatClampNeg 0) 59 16) + 1)))))) else (if (m 62 (m 59 16).toNatClampNeg) = 99 then (z_g (z_in 24 (4 * (m 59 18))) (z_g (z_in 24 (4 * (m 59 18))) (if ((z_up m 70 (4 * (m 59 18)).toNatClampNeg 1) 70 (4 * (m 59 18)).toNatClampNeg) = (-9) then (some (0, 0, z_up m 70 (4 * (m 59 18)).toNatClampNeg 1)) else (z_lp z_SH L xs C me_X10_readGuest F 93 [some (.ref 59), some (.int x1), none, some (.int (4 * (m 59 18))), some (.int 1)] [] (z_up (z_up m 70 (4 * (m 59 18)).toNatClampNeg 1) 59 16 (((z_up m 70 (4 * (m 59 18)).toNatClampNeg 1) 59 16) + 1)))))) else (if (m 62 (m 59 16).toNatClampNeg) = 98 then (z_g (z_in 24 (4 * (m 59 18))) (z_g (z_in 24 (4 * (m 59 18))) (if ((z_up m 70 (4 * (m 59 18)).toNatClampNeg 2) 70 (4 * (m 59 18)).toNatClampNeg) = (-9) then (some (0, 0, z_up m 70 (4 * (m 59 18)).toNatClampNeg 2)) else (z_lp z_SH L xs C me_X10_readGuest F 93 [some (.ref 59), some (.int x1), none, some (.int (4 * (m 59 18))), some (.int 1)] [] (z_up (z_up m 70 (4 * (m 59 18)).toNatClampNeg 2) 59 16 (((z_up m 70 (4 * (m 59 18)).toNatClampNeg 2) 59 16) + 1)))))) else (z_g (z_in 24 (4 * (m 59 18))) (z_g (z_in 24 (4 * (m 59 18))) (if ((z_up m 70 (4 * (m 59 18)).toNatClampNeg (-9)) 70 (4 * (m 59 18)).toNatClampNeg) = (-9) then (some (0, 0, z_up m 70 (4 * (m 59 18)).toNatClampNeg (-9))) else (z_lp z_SH L xs C me_X10_readGuest F 93 [some (.ref 59), some (.int x1), none, some (.int (4 * (m 59 18))), some (.int 1)] [] (z_up (z_up m 70 (4 * (m 59 18)).toNatClampNeg (-9)) 59 16 (((z_up m 70 (4 * (m 59 18)).toNatClampNeg (-9)) 59 16) + 1)))))))))) := rfl
set_option maxRecDepth 100000 in
theorem e_X10_readGuest_93 (L : Nat) (xs : Nat → Int32) (C : Nat → List Value → z_M → Option z_R) (F : Nat) (y1 : Int32) (y3 : Int32) (y4 : Int32) (m : z_M) : z_lp z_SH L xs C me_X10_readGuest (F + 1) 93 [some (.ref 59), some (.int y1), none, some (.int y3), some (.int y4)] [] m = if 4 ≤ y4 then (some (1, 0, z_up m 59 18 ((m 59 18) + 1))) else (if y4 = 3 then (if y4 = 3 then (Option.bind (C 117 [.ref 59, .int y1, .int 0, .int 5] m) (fun r1 => z_g (z_in 24 (y3 + y4)) (z_g (z_in 24 (y3 + y4)) (if ((z_up r1.2.2 70 (y3 + y4).toNatClampNeg r1.1) 70 (y3 + y4).toNatClampNeg) = (-9) then (some (0, 0, z_up r1.2.2 70 (y3 + y4).toNatClampNeg r1.1)) else (z_lp z_SH L xs C me_X10_readGuest F 93 [some (.ref 59), some (.int y1), none, some (.int y3), some (.int (y4 + 1))] [] (z_up r1.2.2 70 (y3 + y4).toNatClampNeg r1.1)))))) else (Option.bind (C 117 [.ref 59, .int y1, .int 0, .int 9] m) (fun r2 => z_g (z_in 24 (y3 + y4)) (z_g (z_in 24 (y3 + y4)) (if ((z_up r2.2.2 70 (y3 + y4).toNatClampNeg r2.1) 70 (y3 + y4).toNatClampNeg) = (-9) then (some (0, 0, z_up r2.2.2 70 (y3 + y4).toNatClampNeg r2.1)) else (z_lp z_SH L xs C me_X10_readGuest F 93 [some (.ref 59), some (.int y1), none, some (.int y3), some (.int (y4 + 1))] [] (z_up r2.2.2 70 (y3 + y4).toNatClampNeg r2.1))))))) else (if y4 = 3 then (Option.bind (C 117 [.ref 59, .int y1, .int 1, .int 5] m) (fun r3 => z_g (z_in 24 (y3 + y4)) (z_g (z_in 24 (y3 + y4)) (if ((z_up r3.2.2 70 (y3 + y4).toNatClampNeg r3.1) 70 (y3 + y4).toNatClampNeg) = (-9) then (some (0, 0, z_up r3.2.2 70 (y3 + y4).toNatClampNeg r3.1)) else (z_lp z_SH L xs C me_X10_readGuest F 93 [some (.ref 59), some (.int y1), none, some (.int y3), some (.int (y4 + 1))] [] (z_up r3.2.2 70 (y3 + y4).toNatClampNeg r3.1)))))) else (Option.bind (C 117 [.ref 59, .int y1, .int 1, .int 9] m) (fun r4 => z_g (z_in 24 (y3 + y4)) (z_g (z_in 24 (y3 + y4)) (if ((z_up r4.2.2 70 (y3 + y4).toNatClampNeg r4.1) 70 (y3 + y4).toNatClampNeg) = (-9) then (some (0, 0, z_up r4.2.2 70 (y3 + y4).toNatClampNeg r4.1)) else (z_lp z_SH L xs C me_X10_readGuest F 93 [some (.ref 59), some (.int y1), none, some (.int y3), some (.int (y4 + 1))] [] (z_up r4.2.2 70 (y3 + y4).toNatClampNeg r4.1)))))))) := rfl
set_option maxRecDepth 100000 in
theorem e_X10_weighsOf_0 (L : Nat) (xs : Nat → Int32) (C : Nat → List Value → z_M → Option z_R) (F : Nat) (x1 : Int32) (x2 : Int32) (m : z_M) : z_lp z_SH L xs C me_X10_weighsOf (F + 1) 0 [some (.ref 59), some (.int x1), some (.int x2)] [] m = z_g (z_in 6 x2) (if (m 64 x2.toNatClampNeg) = 0 then (z_g (z_in 5 x1) (some (m 63 x1.toNatClampNeg, 0, m))) else (z_g (z_in 6 x2) (if (m 64 x2.toNatClampNeg) = 1 then (z_g (z_in 5 x1) (some ((m 63 x1.toNatClampNeg) - 1, 0, m))) else (z_g (z_in 5 x1) (z_g (decide (¬ (2 : Int32) = 0)) (some ((m 63 x1.toNatClampNeg) / 2, 0, m))))))) := rfl
set_option maxRecDepth 100000 in
theorem e_X10_ofGuest_0 (L : Nat) (xs : Nat → Int32) (C : Nat → List Value → z_M → Option z_R) (F : Nat) (x1 : Int32) (x2 : Int32) (m : z_M) : z_lp z_SH L xs C me_X10_ofGuest (F + 1) 0 [some (.ref 59), some (.int x1), some (.int x2)] [] m = Option.bind (C 113 [.ref 59, .int x1] m) (fun r1 => if r1.1 = 0 then (some ((-1), 0, r1.2.2)) else (if x2 = nI 0 then (z_g (z_in 6 x1) (some (r1.2.2 64 x1.toNatClampNeg, 0, r1.2.2))) else if x2 = nI 1 then (z_g (z_in 6 x1) (some (r1.2.2 65 x1.toNatClampNeg, 0, r1.2.2))) else if x2 = nI 2 then (z_g (z_in 6 x1) (some (r1.2.2 66 x1.toNatClampNeg, 0, r1.2.2))) else if x2 = nI 3 then (z_g (z_in 6 x1) (some (r1.2.2 67 x1.toNatClampNeg, 0, r1.2.2))) else if x2 = nI 4 then (z_g (z_in 6 x1) (some (r1.2.2 68 x1.toNatClampNeg, 0, r1.2.2))) else if x2 = nI 5 then (some (((r1.2.2 59 8) >>> (x1 &&& 31)) &&& (1 : Int32), 0, r1.2.2)) else if x2 = nI 6 then (some (((r1.2.2 59 9) >>> (x1 &&& 31)) &&& (1 : Int32), 0, r1.2.2)) else (some ((-2), 0, r1.2.2)))) := rfl
set_option maxRecDepth 100000 in
theorem e_X10_hint_0 (L : Nat) (xs : Nat → Int32) (C : Nat → List Value → z_M → Option z_R) (F : Nat) (x1 : Int32) (m : z_M) : z_lp z_SH L xs C me_X10_hint (F + 1) 0 [some (.ref 59), some (.int x1)] [] m = Option.bind (C 112 [.ref 59, .int x1] m) (fun r1 => if r1.1 = 0 then (some ((-1), 0, r1.2.2)) else (z_g (z_in 5 x1) (some (r1.2.2 63 x1.toNatClampNeg, 0, r1.2.2)))) := rfl
set_option maxRecDepth 100000 in
theorem e_X10_word_0 (L : Nat) (xs : Nat → Int32) (C : Nat → List Value → z_M → Option z_R) (F : Nat) (x1 : Int32) (x2 : Int32) (m : z_M) : z_lp z_SH L xs C me_X10_word (F + 1) 0 [some (.ref 59), some (.int x1), some (.int x2), none] [] m = Option.bind (C 112 [.ref 59, .int x1] m) (fun r1 => if r1.1 = 0 then (some ((-1), 0, r1.2.2)) else (Option.bind (C 108 [.int x2, .int 1, .int 9] r1.2.2) (fun r2 => if r2.1 = 0 then (some ((-2), 0, r2.2.2)) else (z_g (z_in 5 x1) (z_g (z_in 5 x1) (some (r2.2.2 63 x1.toNatClampNeg, 0, z_up r2.2.2 63 x1.toNatClampNeg x2))))))) := rfl
set_option maxRecDepth 100000 in
theorem e_X10_weighs_0 (L : Nat) (xs : Nat → Int32) (C : Nat → List Value → z_M → Option z_R) (F : Nat) (x1 : Int32) (x2 : Int32) (m : z_M) : z_lp z_SH L xs C me_X10_weighs (F + 1) 0 [some (.ref 59), some (.int x1), some (.int x2)] [] m = Option.bind (C 112 [.ref 59, .int x1] m) (fun r1 => if r1.1 = 0 then (some ((-1), 0, r1.2.2)) else (Option.bind (C 113 [.ref 59, .int x2] r1.2.2) (fun r2 => if r2.1 = 0 then (some ((-1), 0, r2.2.2)) else (Option.bind (C 124 [.ref 59, .int x1, .int x2] r2.2.2) (fun r3 => some (r3.1, 0, r3.2.2)))))) := rfl
set_option maxRecDepth 100000 in
theorem e_X10_seat_0 (L : Nat) (xs : Nat → Int32) (C : Nat → List Value → z_M → Option z_R) (F : Nat) (x1 : Int32) (x2 : Int32) (m : z_M) : z_lp z_SH L xs C me_X10_seat (F + 1) 0 [some (.ref 59), some (.int x1), some (.int x2), none] [] m = Option.bind (C 113 [.ref 59, .int x1] m) (fun r1 => if r1.1 = 0 then (some ((-1), 0, r1.2.2)) else (Option.bind (C 114 [.int x2] r1.2.2) (fun r2 => if r2.1 = 0 then (some ((-2), 0, r2.2.2)) else (z_g (z_in 6 x1) (z_g (z_in 6 x1) (some (r2.2.2 67 x1.toNatClampNeg, 0, z_up r2.2.2 67 x1.toNatClampNeg x2))))))) := rfl
set_option maxRecDepth 100000 in
theorem e_X10_nextToKnow_0 (L : Nat) (xs : Nat → Int32) (C : Nat → List Value → z_M → Option z_R) (F : Nat) (m : z_M) : z_lp z_SH L xs C me_X10_nextToKnow (F + 1) 0 [some (.ref 59), none] [] m = z_lp z_SH L xs C me_X10_nextToKnow F 2 [some (.ref 59), some (.int 0)] [] m := rfl
set_option maxRecDepth 100000 in
theorem e_X10_nextToKnow_2 (L : Nat) (xs : Nat → Int32) (C : Nat → List Value → z_M → Option z_R) (F : Nat) (y1 : Int32) (m : z_M) : z_lp z_SH L xs C me_X10_nextToKnow (F + 1) 2 [some (.ref 59), some (.int y1)] [] m = if (m 59 6) ≤ y1 then (some ((-9), 0, m)) else (Option.bind (C 115 [.int (m 59 8), .int y1] m) (fun r1 => if r1.1 = 0 then (z_g (z_in 6 y1) (z_g (z_in 6 y1) (if (r1.2.2 68 y1.toNatClampNeg) < (r1.2.2 66 y1.toNatClampNeg) then (z_lp z_SH L xs C me_X10_nextToKnow F 2 [some (.ref 59), some (.int (y1 + 1))] [] r1.2.2) else (some (y1, 0, r1.2.2))))) else (z_lp z_SH L xs C me_X10_nextToKnow F 2 [some (.ref 59), some (.int (y1 + 1))] [] r1.2.2))) := rfl
set_option maxRecDepth 100000 in
theorem e_X10_dawns_0 (L : Nat) (xs : Nat → Int32) (C : Nat → List Value → z_M → Option z_R) (F : Nat) (m : z_M) : z_lp z_SH L xs C me_X10_dawns (F + 1) 0 [some (.ref 59), none, none, none] [] m = Option.bind (C 130 [.ref 59] m) (fun r1 => z_lp z_SH L xs C me_X10_dawns F 7 [some (.ref 59), some (.int 0), some (.int r1.1), none] [] r1.2.2) := rfl
set_option maxRecDepth 100000 in
theorem e_X10_dawns_7 (L : Nat) (xs : Nat → Int32) (C : Nat → List Value → z_M → Option z_R) (F : Nat) (y1 : Int32) (y2 : Int32) (m : z_M) : z_lp z_SH L xs C me_X10_dawns (F + 1) 7 [some (.ref 59), some (.int y1), some (.int y2), none] [] m = if y2 = (-9) then (some (y1, 0, m)) else (z_lp z_SH L xs C me_X10_dawns F 30 [some (.ref 59), some (.int (y1 + 1)), some (.int y2), some (.int 0)] [] (z_up m 59 8 ((m 59 8) ||| ((1 : Int32) <<< (y2 &&& 31))))) := rfl
set_option maxRecDepth 100000 in
theorem e_X10_dawns_30 (L : Nat) (xs : Nat → Int32) (C : Nat → List Value → z_M → Option z_R) (F : Nat) (y1 : Int32) (y2 : Int32) (y3 : Int32) (m : z_M) : z_lp z_SH L xs C me_X10_dawns (F + 1) 30 [some (.ref 59), some (.int y1), some (.int y2), some (.int y3)] [] m = if (m 59 6) ≤ y3 then (Option.bind (C 130 [.ref 59] m) (fun r1 => z_lp z_SH L xs C me_X10_dawns F 7 [some (.ref 59), some (.int y1), some (.int r1.1), none] [] r1.2.2)) else (z_g (z_in 6 y3) (Option.bind (C 115 [.int (m 59 8), .int y3] m) (fun r2 => if r2.1 = 0 then (z_g (z_in 6 y3) (z_g (z_in 6 y2) (if (r2.2.2 67 y3.toNatClampNeg) = (r2.2.2 67 y2.toNatClampNeg) then (z_g (z_in 6 y3) (z_lp z_SH L xs C me_X10_dawns F 30 [some (.ref 59), some (.int y1), some (.int y2), some (.int (y3 + 1))] [] (z_up r2.2.2 68 y3.toNatClampNeg ((m 68 y3.toNatClampNeg) + 1)))) else (z_g (z_in 6 y3) (z_lp z_SH L xs C me_X10_dawns F 30 [some (.ref 59), some (.int y1), some (.int y2), some (.int (y3 + 1))] [] (z_up r2.2.2 68 y3.toNatClampNeg ((m 68 y3.toNatClampNeg) + 0))))))) else (z_g (z_in 6 y3) (z_lp z_SH L xs C me_X10_dawns F 30 [some (.ref 59), some (.int y1), some (.int y2), some (.int (y3 + 1))] [] (z_up r2.2.2 68 y3.toNatClampNeg ((m 68 y3.toNatClampNeg) + 0))))))) := rfl
set_option maxRecDepth 100000 in
theorem e_X10_isGiven_0 (L : Nat) (xs : Nat → Int32) (C : Nat → List Value → z_M → Option z_R) (F : Nat) (x1 : Int32) (x2 : Int32) (m : z_M) : z_lp z_SH L xs C me_X10_isGiven (F + 1) 0 [some (.ref 59), some (.int x1), some (.int x2), none] [] m = Option.bind (C 124 [.ref 59, .int x1, .int x2] m) (fun r1 => z_g (z_in 6 x2) (if r1.1 ≤ (r1.2.2 65 x2.toNatClampNeg) then (z_g (z_in 6 x2) (z_g (z_in 6 x2) (Option.bind (C 131 [.ref 59] (z_up r1.2.2 68 x2.toNatClampNeg ((r1.2.2 68 x2.toNatClampNeg) + r1.1))) (fun r2 => some (r2.1, 0, r2.2.2))))) else (some ((-9), 0, z_up r1.2.2 59 9 ((r1.2.2 59 9) ||| ((1 : Int32) <<< (x2 &&& 31))))))) := rfl
set_option maxRecDepth 100000 in
theorem e_X10_give_0 (L : Nat) (xs : Nat → Int32) (C : Nat → List Value → z_M → Option z_R) (F : Nat) (x1 : Int32) (x2 : Int32) (m : z_M) : z_lp z_SH L xs C me_X10_give (F + 1) 0 [some (.ref 59), some (.int x1), some (.int x2)] [] m = Option.bind (C 112 [.ref 59, .int x1] m) (fun r1 => if r1.1 = 0 then (some ((-1), 0, r1.2.2)) else (Option.bind (C 113 [.ref 59, .int x2] r1.2.2) (fun r2 => if r2.1 = 0 then (some ((-1), 0, r2.2.2)) else (Option.bind (C 115 [.int (r2.2.2 59 8), .int x2] r2.2.2) (fun r3 => if r3.1 = 0 then (Option.bind (C 132 [.ref 59, .int x1, .int x2] r3.2.2) (fun r4 => some (r4.1, 0, r4.2.2))) else (some ((-3), 0, r3.2.2))))))) := rfl
set_option maxRecDepth 100000 in
theorem e_X10_oneNight_0 (L : Nat) (xs : Nat → Int32) (C : Nat → List Value → z_M → Option z_R) (F : Nat) (m : z_M) : z_lp z_SH L xs C me_X10_oneNight (F + 1) 0 [some (.ref 59), none] [] m = z_lp z_SH L xs C me_X10_oneNight F 2 [some (.ref 59), some (.int 0)] [] m := rfl
set_option maxRecDepth 100000 in
theorem e_X10_oneNight_2 (L : Nat) (xs : Nat → Int32) (C : Nat → List Value → z_M → Option z_R) (F : Nat) (y1 : Int32) (m : z_M) : z_lp z_SH L xs C me_X10_oneNight (F + 1) 2 [some (.ref 59), some (.int y1)] [] m = if (m 59 6) ≤ y1 then (some (0, 0, m)) else (z_g (z_in 6 y1) (Option.bind (C 115 [.int (m 59 8), .int y1] m) (fun r1 => if r1.1 = 0 then (z_g (z_in 6 y1) (if (r1.2.2 68 y1.toNatClampNeg) ≤ 0 then (z_g (z_in 6 y1) (z_lp z_SH L xs C me_X10_oneNight F 2 [some (.ref 59), some (.int (y1 + 1))] [] (z_up r1.2.2 68 y1.toNatClampNeg ((m 68 y1.toNatClampNeg) - 0)))) else (z_g (z_in 6 y1) (z_lp z_SH L xs C me_X10_oneNight F 2 [some (.ref 59), some (.int (y1 + 1))] [] (z_up r1.2.2 68 y1.toNatClampNeg ((m 68 y1.toNatClampNeg) - 1)))))) else (z_g (z_in 6 y1) (z_lp z_SH L xs C me_X10_oneNight F 2 [some (.ref 59), some (.int (y1 + 1))] [] (z_up r1.2.2 68 y1.toNatClampNeg ((m 68 y1.toNatClampNeg) - 0))))))) := rfl
set_option maxRecDepth 100000 in
theorem e_X10_nights_0 (L : Nat) (xs : Nat → Int32) (C : Nat → List Value → z_M → Option z_R) (F : Nat) (x1 : Int32) (m : z_M) : z_lp z_SH L xs C me_X10_nights (F + 1) 0 [some (.ref 59), some (.int x1), none, none] [] m = Option.bind (C 108 [.int x1, .int 1, .int 30] m) (fun r1 => if r1.1 = 0 then (some ((-2), 0, r1.2.2)) else (if (r1.2.2 59 6) = 0 then (some ((-3), 0, r1.2.2)) else (z_lp z_SH L xs C me_X10_nights F 25 [some (.ref 59), some (.int x1), some (.int 0), none] [] r1.2.2))) := rfl
set_option maxRecDepth 100000 in
theorem e_X10_nights_25 (L : Nat) (xs : Nat → Int32) (C : Nat → List Value → z_M → Option z_R) (F : Nat) (y1 : Int32) (y2 : Int32) (m : z_M) : z_lp z_SH L xs C me_X10_nights (F + 1) 25 [some (.ref 59), some (.int y1), some (.int y2), none] [] m = if y1 ≤ y2 then (z_lp z_SH L xs C me_X10_nights F 54 [some (.ref 59), none, some (.int 0), some (.int 0)] [] (z_up m 59 7 ((m 59 7) + y1))) else (Option.bind (C 134 [.ref 59] m) (fun r1 => z_lp z_SH L xs C me_X10_nights F 25 [some (.ref 59), some (.int y1), some (.int (y2 + 1)), none] [] r1.2.2)) := rfl
set_option maxRecDepth 100000 in
theorem e_X10_nights_54 (L : Nat) (xs : Nat → Int32) (C : Nat → List Value → z_M → Option z_R) (F : Nat) (y2 : Int32) (y3 : Int32) (m : z_M) : z_lp z_SH L xs C me_X10_nights (F + 1) 54 [some (.ref 59), none, some (.int y2), some (.int y3)] [] m = if (m 59 6) ≤ y3 then (some (y2, 0, m)) else (Option.bind (C 115 [.int (m 59 8), .int y3] m) (fun r1 => if r1.1 = 0 then (z_g (z_in 6 y3) (z_lp z_SH L xs C me_X10_nights F 54 [some (.ref 59), none, some (.int (y2 + (r1.2.2 68 y3.toNatClampNeg))), some (.int (y3 + 1))] [] r1.2.2)) else (z_lp z_SH L xs C me_X10_nights F 54 [some (.ref 59), none, some (.int (y2 + 0)), some (.int (y3 + 1))] [] r1.2.2))) := rfl
set_option maxRecDepth 100000 in
theorem e_X10_arrive_0 (L : Nat) (xs : Nat → Int32) (C : Nat → List Value → z_M → Option z_R) (F : Nat) (x1 : Int32) (x2 : Int32) (x3 : Int32) (x4 : Int32) (m : z_M) : z_lp z_SH L xs C me_X10_arrive (F + 1) 0 [some (.ref 59), some (.int x1), some (.int x2), some (.int x3), some (.int x4)] [] m = Option.bind (C 108 [.int x1, .int 0, .int 2] m) (fun r1 => if r1.1 = 0 then (some ((-2), 0, r1.2.2)) else (Option.bind (C 108 [.int x2, .int 1, .int 9] r1.2.2) (fun r2 => if r2.1 = 0 then (some ((-2), 0, r2.2.2)) else (Option.bind (C 108 [.int x3, .int 1, .int 9] r2.2.2) (fun r3 => if r3.1 = 0 then (some ((-2), 0, r3.2.2)) else (Option.bind (C 114 [.int x4] r3.2.2) (fun r4 => if r4.1 = 0 then (some ((-2), 0, r4.2.2)) else (if (r4.2.2 59 6) = 0 then (some ((-3), 0, r4.2.2)) else (if (r4.2.2 59 6) = 6 then (some ((-4), 0, r4.2.2)) else (z_g (z_in 6 (r4.2.2 59 6)) (z_g (z_in 6 ((z_up r4.2.2 64 (r4.2.2 59 6).toNatClampNeg x1) 59 6)) (z_g (z_in 6 ((z_up (z_up r4.2.2 64 (r4.2.2 59 6).toNatClampNeg x1) 65 ((z_up r4.2.2 64 (r4.2.2 59 6).toNatClampNeg x1) 59 6).toNatClampNeg x2) 59 6)) (z_g (z_in 6 ((z_up (z_up (z_up r4.2.2 64 (r4.2.2 59 6).toNatClampNeg x1) 65 ((z_up r4.2.2 64 (r4.2.2 59 6).toNatClampNeg x1) 59 6).toNatClampNeg x2) 66 ((z_up (z_up r4.2.2 64 (r4.2.2 59 6).toNatClampNeg x1) 65 ((z_up r4.2.2 64 (r4.2.2 59 6).toNatClampNeg x1) 59 6).toNatClampNeg x2) 59 6).toNatClampNeg x3) 59 6)) (z_g (z_in 6 ((z_up (z_up (z_up (z_up r4.2.2 64 (r4.2.2 59 6).toNatClampNeg x1) 65 ((z_up r4.2.2 64 (r4.2.2 59 6).toNatClampNeg x1) 59 6).toNatClampNeg x2) 66 ((z_up (z_up r4.2.2 64 (r4.2.2 59 6).toNatClampNeg x1) 65 ((z_up r4.2.2 64 (r4.2.2 59 6).toNatClampNeg x1) 59 6).toNatClampNeg x2) 59 6).toNatClampNeg x3) 67 ((z_up (z_up (z_up r4.2.2 64 (r4.2.2 59 6).toNatClampNeg x1) 65 ((z_up r4.2.2 64 (r4.2.2 59 6).toNatClampNeg x1) 59 6).toNatClampNeg x2) 66 ((z_up (z_up r4.2.2 64 (r4.2.2 59 6).toNatClampNeg x1) 65 ((z_up r4.2.2 64 (r4.2.2 59 6).toNatClampNeg x1) 59 6).toNatClampNeg x2) 59 6).toNatClampNeg x3) 59 6).toNatClampNeg x4) 59 6)) (some (((z_up (z_up (z_up (z_up (z_up (z_up r4.2.2 64 (r4.2.2 59 6).toNatClampNeg x1) 65 ((z_up r4.2.2 64 (r4.2.2 59 6).toNatClampNeg x1) 59 6).toNatClampNeg x2) 66 ((z_up (z_up r4.2.2 64 (r4.2.2 59 6).toNatClampNeg x1) 65 ((z_up r4.2.2 64 (r4.2.2 59 6).toNatClampNeg x1) 59 6).toNatClampNeg x2) 59 6).toNatClampNeg x3) 67 ((z_up (z_up (z_up r4.2.2 64 (r4.2.2 59 6).toNatClampNeg x1) 65 ((z_up r4.2.2 64 (r4.2.2 59 6).toNatClampNeg x1) 59 6).toNatClampNeg x2) 66 ((z_up (z_up r4.2.2 64 (r4.2.2 59 6).toNatClampNeg x1) 65 ((z_up r4.2.2 64 (r4.2.2 59 6).toNatClampNeg x1) 59 6).toNatClampNeg x2) 59 6).toNatClampNeg x3) 59 6).toNatClampNeg x4) 68 ((z_up (z_up (z_up (z_up r4.2.2 64 (r4.2.2 59 6).toNatClampNeg x1) 65 ((z_up r4.2.2 64 (r4.2.2 59 6).toNatClampNeg x1) 59 6).toNatClampNeg x2) 66 ((z_up (z_up r4.2.2 64 (r4.2.2 59 6).toNatClampNeg x1) 65 ((z_up r4.2.2 64 (r4.2.2 59 6).toNatClampNeg x1) 59 6).toNatClampNeg x2) 59 6).toNatClampNeg x3) 67 ((z_up (z_up (z_up r4.2.2 64 (r4.2.2 59 6).toNatClampNeg x1) 65 ((z_up r4.2.2 64 (r4.2.2 59 6).toNatClampNeg x1) 59 6).toNatClampNeg x2) 66 ((z_up (z_up r4.2.2 64 (r4.2.2 59 6).toNatClampNeg x1) 65 ((z_up r4.2.2 64 (r4.2.2 59 6).toNatClampNeg x1) 59 6).toNatClampNeg x2) 59 6).toNatClampNeg x3) 59 6).toNatClampNeg x4) 59 6).toNatClampNeg 0) 59 6 (((z_up (z_up (z_up (z_up (z_up r4.2.2 64 (r4.2.2 59 6).toNatClampNeg x1) 65 ((z_up r4.2.2 64 (r4.2.2 59 6).toNatClampNeg x1) 59 6).toNatClampNeg x2) 66 ((z_up (z_up r4.2.2 64 (r4.2.2 59 6).toNatClampNeg x1) 65 ((z_up r4.2.2 64 (r4.2.2 59 6).toNatClampNeg x1) 59 6).toNatClampNeg x2) 59 6).toNatClampNeg x3) 67 ((z_up (z_up (z_up r4.2.2 64 (r4.2.2 59 6).toNatClampNeg x1) 65 ((z_up r4.2.2 64 (r4.2.2 59 6).toNatClampNeg x1) 59 6).toNatClampNeg x2) 66 ((z_up (z_up r4.2.2 64 (r4.2.2 59 6).toNatClampNeg x1) 65 ((z_up r4.2.2 64 (r4.2.2 59 6).toNatClampNeg x1) 59 6).toNatClampNeg x2) 59 6).toNatClampNeg x3) 59 6).toNatClampNeg x4) 68 ((z_up (z_up (z_up (z_up r4.2.2 64 (r4.2.2 59 6).toNatClampNeg x1) 65 ((z_up r4.2.2 64 (r4.2.2 59 6).toNatClampNeg x1) 59 6).toNatClampNeg x2) 66 ((z_up (z_up r4.2.2 64 (r4.2.2 59 6).toNatClampNeg x1) 65 ((z_up r4.2.2 64 (r4.2.2 59 6).toNatClampNeg x1) 59 6).toNatClampNeg x2) 59 6).toNatClampNeg x3) 67 ((z_up (z_up (z_up r4.2.2 64 (r4.2.2 59 6).toNatClampNeg x1) 65 ((z_up r4.2.2 64 (r4.2.2 59 6).toNatClampNeg x1) 59 6).toNatClampNeg x2) 66 ((z_up (z_up r4.2.2 64 (r4.2.2 59 6).toNatClampNeg x1) 65 ((z_up r4.2.2 64 (r4.2.2 59 6).toNatClampNeg x1) 59 6).toNatClampNeg x2) 59 6).toNatClampNeg x3) 59 6).toNatClampNeg x4) 59 6).toNatClampNeg 0) 59 6) + 1)) 59 6) - 1, 0, z_up (z_up (z_up (z_up (z_up (z_up r4.2.2 64 (r4.2.2 59 6).toNatClampNeg x1) 65 ((z_up r4.2.2 64 (r4.2.2 59 6).toNatClampNeg x1) 59 6).toNatClampNeg x2) 66 ((z_up (z_up r4.2.2 64 (r4.2.2 59 6).toNatClampNeg x1) 65 ((z_up r4.2.2 64 (r4.2.2 59 6).toNatClampNeg x1) 59 6).toNatClampNeg x2) 59 6).toNatClampNeg x3) 67 ((z_up (z_up (z_up r4.2.2 64 (r4.2.2 59 6).toNatClampNeg x1) 65 ((z_up r4.2.2 64 (r4.2.2 59 6).toNatClampNeg x1) 59 6).toNatClampNeg x2) 66 ((z_up (z_up r4.2.2 64 (r4.2.2 59 6).toNatClampNeg x1) 65 ((z_up r4.2.2 64 (r4.2.2 59 6).toNatClampNeg x1) 59 6).toNatClampNeg x2) 59 6).toNatClampNeg x3) 59 6).toNatClampNeg x4) 68 ((z_up (z_up (z_up (z_up r4.2.2 64 (r4.2.2 59 6).toNatClampNeg x1) 65 ((z_up r4.2.2 64 (r4.2.2 59 6).toNatClampNeg x1) 59 6).toNatClampNeg x2) 66 ((z_up (z_up r4.2.2 64 (r4.2.2 59 6).toNatClampNeg x1) 65 ((z_up r4.2.2 64 (r4.2.2 59 6).toNatClampNeg x1) 59 6).toNatClampNeg x2) 59 6).toNatClampNeg x3) 67 ((z_up (z_up (z_up r4.2.2 64 (r4.2.2 59 6).toNatClampNeg x1) 65 ((z_up r4.2.2 64 (r4.2.2 59 6).toNatClampNeg x1) 59 6).toNatClampNeg x2) 66 ((z_up (z_up r4.2.2 64 (r4.2.2 59 6).toNatClampNeg x1) 65 ((z_up r4.2.2 64 (r4.2.2 59 6).toNatClampNeg x1) 59 6).toNatClampNeg x2) 59 6).toNatClampNeg x3) 59 6).toNatClampNeg x4) 59 6).toNatClampNeg 0) 59 6 (((z_up (z_up (z_up (z_up (z_up r4.2.2 64 (r4.2.2 59 6).toNatClampNeg x1) 65 ((z_up r4.2.2 64 (r4.2.2 59 6).toNatClampNeg x1) 59 6).toNatClampNeg x2) 66 ((z_up (z_up r4.2.2 64 (r4.2.2 59 6).toNatClampNeg x1) 65 ((z_up r4.2.2 64 (r4.2.2 59 6).toNatClampNeg x1) 59 6).toNatClampNeg x2) 59 6).toNatClampNeg x3) 67 ((z_up (z_up (z_up r4.2.2 64 (r4.2.2 59 6).toNatClampNeg x1) 65 ((z_up r4.2.2 64 (r4.2.2 59 6).toNatClampNeg x1) 59 6).toNatClampNeg x2) 66 ((z_up (z_up r4.2.2 64 (r4.2.2 59 6).toNatClampNeg x1) 65 ((z_up r4.2.2 64 (r4.2.2 59 6).toNatClampNeg x1) 59 6).toNatClampNeg x2) 59 6).toNatClampNeg x3) 59 6).toNatClampNeg x4) 68 ((z_up (z_up (z_up (z_up r4.2.2 64 (r4.2.2 59 6).toNatClampNeg x1) 65 ((z_up r4.2.2 64 (r4.2.2 59 6).toNatClampNeg x1) 59 6).toNatClampNeg x2) 66 ((z_up (z_up r4.2.2 64 (r4.2.2 59 6).toNatClampNeg x1) 65 ((z_up r4.2.2 64 (r4.2.2 59 6).toNatClampNeg x1) 59 6).toNatClampNeg x2) 59 6).toNatClampNeg x3) 67 ((z_up (z_up (z_up r4.2.2 64 (r4.2.2 59 6).toNatClampNeg x1) 65 ((z_up r4.2.2 64 (r4.2.2 59 6).toNatClampNeg x1) 59 6).toNatClampNeg x2) 66 ((z_up (z_up r4.2.2 64 (r4.2.2 59 6).toNatClampNeg x1) 65 ((z_up r4.2.2 64 (r4.2.2 59 6).toNatClampNeg x1) 59 6).toNatClampNeg x2) 59 6).toNatClampNeg x3) 59 6).toNatClampNeg x4) 59 6).toNatClampNeg 0) 59 6) + 1))))))))))))))))) := rfl
set_option maxRecDepth 100000 in
theorem e_X10_without_0 (L : Nat) (xs : Nat → Int32) (C : Nat → List Value → z_M → Option z_R) (F : Nat) (x1 : Int32) (x2 : Int32) (m : z_M) : z_lp z_SH L xs C me_X10_without (F + 1) 0 [some (.int x1), some (.int x2), none] [] m = some ((x1 &&& (((1 : Int32) <<< (x2 &&& 31)) - (1 : Int32))) ||| ((x1 >>> (1 &&& 31)) &&& ((((1 : Int32) <<< (x2 &&& 31)) - (1 : Int32)) ^^^ ((-1) : Int32))), 0, m) := rfl
set_option maxRecDepth 100000 in
theorem e_X10_leave_0 (L : Nat) (xs : Nat → Int32) (C : Nat → List Value → z_M → Option z_R) (F : Nat) (x1 : Int32) (m : z_M) : z_lp z_SH L xs C me_X10_leave (F + 1) 0 [some (.ref 59), some (.int x1), none] [] m = Option.bind (C 113 [.ref 59, .int x1] m) (fun r1 => if r1.1 = 0 then (some ((-1), 0, r1.2.2)) else (if (r1.2.2 59 6) = 1 then (some ((-3), 0, r1.2.2)) else (z_lp z_SH L xs C me_X10_leave F 33 [some (.ref 59), some (.int x1), some (.int x1)] [] (z_up r1.2.2 59 6 ((r1.2.2 59 6) - 1))))) := rfl
set_option maxRecDepth 100000 in
theorem e_X10_leave_33 (L : Nat) (xs : Nat → Int32) (C : Nat → List Value → z_M → Option z_R) (F : Nat) (y1 : Int32) (y2 : Int32) (m : z_M) : z_lp z_SH L xs C me_X10_leave (F + 1) 33 [some (.ref 59), some (.int y1), some (.int y2)] [] m = if (m 59 6) ≤ y2 then (Option.bind (C 137 [.int (m 59 8), .int y1] m) (fun r1 => Option.bind (C 137 [.int ((z_up r1.2.2 59 8 r1.1) 59 9), .int y1] (z_up r1.2.2 59 8 r1.1)) (fun r2 => some ((z_up (z_up r2.2.2 59 9 r2.1) 59 33 0) 59 6, 0, z_up (z_up r2.2.2 59 9 r2.1) 59 33 0)))) else (z_g (z_in 6 (y2 + 1)) (z_g (z_in 6 y2) (z_g (z_in 6 (y2 + 1)) (z_g (z_in 6 y2) (z_g (z_in 6 (y2 + 1)) (z_g (z_in 6 y2) (z_g (z_in 6 (y2 + 1)) (z_g (z_in 6 y2) (z_g (z_in 6 (y2 + 1)) (z_g (z_in 6 y2) (z_lp z_SH L xs C me_X10_leave F 33 [some (.ref 59), some (.int y1), some (.int (y2 + 1))] [] (z_up (z_up (z_up (z_up (z_up m 64 y2.toNatClampNeg (m 64 (y2 + 1).toNatClampNeg)) 65 y2.toNatClampNeg ((z_up m 64 y2.toNatClampNeg (m 64 (y2 + 1).toNatClampNeg)) 65 (y2 + 1).toNatClampNeg)) 66 y2.toNatClampNeg ((z_up (z_up m 64 y2.toNatClampNeg (m 64 (y2 + 1).toNatClampNeg)) 65 y2.toNatClampNeg ((z_up m 64 y2.toNatClampNeg (m 64 (y2 + 1).toNatClampNeg)) 65 (y2 + 1).toNatClampNeg)) 66 (y2 + 1).toNatClampNeg)) 67 y2.toNatClampNeg ((z_up (z_up (z_up m 64 y2.toNatClampNeg (m 64 (y2 + 1).toNatClampNeg)) 65 y2.toNatClampNeg ((z_up m 64 y2.toNatClampNeg (m 64 (y2 + 1).toNatClampNeg)) 65 (y2 + 1).toNatClampNeg)) 66 y2.toNatClampNeg ((z_up (z_up m 64 y2.toNatClampNeg (m 64 (y2 + 1).toNatClampNeg)) 65 y2.toNatClampNeg ((z_up m 64 y2.toNatClampNeg (m 64 (y2 + 1).toNatClampNeg)) 65 (y2 + 1).toNatClampNeg)) 66 (y2 + 1).toNatClampNeg)) 67 (y2 + 1).toNatClampNeg)) 68 y2.toNatClampNeg ((z_up (z_up (z_up (z_up m 64 y2.toNatClampNeg (m 64 (y2 + 1).toNatClampNeg)) 65 y2.toNatClampNeg ((z_up m 64 y2.toNatClampNeg (m 64 (y2 + 1).toNatClampNeg)) 65 (y2 + 1).toNatClampNeg)) 66 y2.toNatClampNeg ((z_up (z_up m 64 y2.toNatClampNeg (m 64 (y2 + 1).toNatClampNeg)) 65 y2.toNatClampNeg ((z_up m 64 y2.toNatClampNeg (m 64 (y2 + 1).toNatClampNeg)) 65 (y2 + 1).toNatClampNeg)) 66 (y2 + 1).toNatClampNeg)) 67 y2.toNatClampNeg ((z_up (z_up (z_up m 64 y2.toNatClampNeg (m 64 (y2 + 1).toNatClampNeg)) 65 y2.toNatClampNeg ((z_up m 64 y2.toNatClampNeg (m 64 (y2 + 1).toNatClampNeg)) 65 (y2 + 1).toNatClampNeg)) 66 y2.toNatClampNeg ((z_up (z_up m 64 y2.toNatClampNeg (m 64 (y2 + 1).toNatClampNeg)) 65 y2.toNatClampNeg ((z_up m 64 y2.toNatClampNeg (m 64 (y2 + 1).toNatClampNeg)) 65 (y2 + 1).toNatClampNeg)) 66 (y2 + 1).toNatClampNeg)) 67 (y2 + 1).toNatClampNeg)) 68 (y2 + 1).toNatClampNeg))))))))))))) := rfl
set_option maxRecDepth 100000 in
theorem e_X10_keep_0 (L : Nat) (xs : Nat → Int32) (C : Nat → List Value → z_M → Option z_R) (F : Nat) (m : z_M) : z_lp z_SH L xs C me_X10_keep (F + 1) 0 [some (.ref 59), none] [] m = z_lp z_SH L xs C me_X10_keep F 18 [some (.ref 59), some (.int 0)] [] (z_up (z_up m 59 23 (m 59 8)) 59 24 ((z_up m 59 23 (m 59 8)) 59 9)) := rfl
set_option maxRecDepth 100000 in
theorem e_X10_keep_18 (L : Nat) (xs : Nat → Int32) (C : Nat → List Value → z_M → Option z_R) (F : Nat) (y1 : Int32) (m : z_M) : z_lp z_SH L xs C me_X10_keep (F + 1) 18 [some (.ref 59), some (.int y1)] [] m = if (m 59 6) ≤ y1 then (some (0, 0, m)) else (z_g (z_in 6 y1) (z_g (z_in 6 y1) (z_g (z_in 6 y1) (z_g (z_in 6 y1) (z_lp z_SH L xs C me_X10_keep F 18 [some (.ref 59), some (.int (y1 + 1))] [] (z_up (z_up m 71 y1.toNatClampNeg (m 67 y1.toNatClampNeg)) 72 y1.toNatClampNeg ((z_up m 71 y1.toNatClampNeg (m 67 y1.toNatClampNeg)) 68 y1.toNatClampNeg))))))) := rfl
set_option maxRecDepth 100000 in
theorem e_X10_putBack_0 (L : Nat) (xs : Nat → Int32) (C : Nat → List Value → z_M → Option z_R) (F : Nat) (m : z_M) : z_lp z_SH L xs C me_X10_putBack (F + 1) 0 [some (.ref 59), none] [] m = z_lp z_SH L xs C me_X10_putBack F 18 [some (.ref 59), some (.int 0)] [] (z_up (z_up m 59 8 (m 59 23)) 59 9 ((z_up m 59 8 (m 59 23)) 59 24)) := rfl
set_option maxRecDepth 100000 in
theorem e_X10_putBack_18 (L : Nat) (xs : Nat → Int32) (C : Nat → List Value → z_M → Option z_R) (F : Nat) (y1 : Int32) (m : z_M) : z_lp z_SH L xs C me_X10_putBack (F + 1) 18 [some (.ref 59), some (.int y1)] [] m = if (m 59 6) ≤ y1 then (some (0, 0, m)) else (z_g (z_in 6 y1) (z_g (z_in 6 y1) (z_g (z_in 6 y1) (z_g (z_in 6 y1) (z_lp z_SH L xs C me_X10_putBack F 18 [some (.ref 59), some (.int (y1 + 1))] [] (z_up (z_up m 67 y1.toNatClampNeg (m 71 y1.toNatClampNeg)) 68 y1.toNatClampNeg ((z_up m 67 y1.toNatClampNeg (m 71 y1.toNatClampNeg)) 72 y1.toNatClampNeg))))))) := rfl
set_option maxRecDepth 100000 in
theorem e_X10_does_0 (L : Nat) (xs : Nat → Int32) (C : Nat → List Value → z_M → Option z_R) (F : Nat) (x1 : Int32) (x2 : Int32) (m : z_M) : z_lp z_SH L xs C me_X10_does (F + 1) 0 [some (.ref 59), some (.int x1), some (.int x2), none] [] m = if x2 = 10 then (z_lp z_SH L xs C me_X10_does F 8 [some (.ref 59), some (.int x1), none, some (.int 0)] [] m) else (if x2 < 20 then (Option.bind (C 115 [.int (m 59 8), .int x1] m) (fun r1 => if r1.1 = 0 then (Option.bind (C 112 [.ref 59, .int x2] r1.2.2) (fun r2 => if r2.1 = 0 then (some (0, 0, r2.2.2)) else (Option.bind (C 132 [.ref 59, .int x2, .int x1] r2.2.2) (fun r3 => if r3.1 ≤ 0 then (if r3.1 ≤ 1 then (some (1, 0, z_up (z_up r3.2.2 59 25 ((r3.2.2 59 25) + 0)) 59 26 (((z_up r3.2.2 59 25 ((r3.2.2 59 25) + 0)) 59 26) + 0))) else (some (1, 0, z_up (z_up r3.2.2 59 25 ((r3.2.2 59 25) + 0)) 59 26 (((z_up r3.2.2 59 25 ((r3.2.2 59 25) + 0)) 59 26) + (r3.1 - 1))))) else (if r3.1 ≤ 1 then (some (1, 0, z_up (z_up r3.2.2 59 25 ((r3.2.2 59 25) + r3.1)) 59 26 (((z_up r3.2.2 59 25 ((r3.2.2 59 25) + r3.1)) 59 26) + 0))) else (some (1, 0, z_up (z_up r3.2.2 59 25 ((r3.2.2 59 25) + r3.1)) 59 26 (((z_up r3.2.2 59 25 ((r3.2.2 59 25) + r3.1)) 59 26) + (r3.1 - 1))))))))) else (some (0, 0, r1.2.2)))) else (z_g (z_in 6 x1) (some (1, 0, z_up m 67 x1.toNatClampNeg (x2 - 20))))) := rfl
set_option maxRecDepth 100000 in
theorem e_X10_does_8 (L : Nat) (xs : Nat → Int32) (C : Nat → List Value → z_M → Option z_R) (F : Nat) (y1 : Int32) (y3 : Int32) (m : z_M) : z_lp z_SH L xs C me_X10_does (F + 1) 8 [some (.ref 59), some (.int y1), none, some (.int y3)] [] m = if y1 ≤ y3 then (some (1, 0, m)) else (Option.bind (C 134 [.ref 59] m) (fun r1 => z_lp z_SH L xs C me_X10_does F 8 [some (.ref 59), some (.int y1), none, some (.int (y3 + 1))] [] r1.2.2)) := rfl
set_option maxRecDepth 100000 in
theorem e_X10_goDinner_0 (L : Nat) (xs : Nat → Int32) (C : Nat → List Value → z_M → Option z_R) (F : Nat) (x1 : Int32) (x2 : Int32) (m : z_M) : z_lp z_SH L xs C me_X10_goDinner (F + 1) 0 [some (.ref 59), some (.int x1), some (.int x2), none] [] m = z_lp z_SH L xs C me_X10_goDinner F 12 [some (.ref 59), some (.int x1), some (.int x2), some (.int 0)] [] (z_up (z_up m 59 25 0) 59 26 0) := rfl
set_option maxRecDepth 100000 in
theorem e_X10_goDinner_12 (L : Nat) (xs : Nat → Int32) (C : Nat → List Value → z_M → Option z_R) (F : Nat) (y1 : Int32) (y2 : Int32) (y3 : Int32) (m : z_M) : z_lp z_SH L xs C me_X10_goDinner (F + 1) 12 [some (.ref 59), some (.int y1), some (.int y2), some (.int y3)] [] m = if y2 ≤ y3 then (some ((-9), 0, m)) else (z_g (z_in 240 (y1 + (2 * y3))) (z_g (z_in 240 ((y1 + (2 * y3)) + 1)) (Option.bind (C 141 [.ref 59, .int (m 62 (y1 + (2 * y3)).toNatClampNeg), .int (m 62 ((y1 + (2 * y3)) + 1).toNatClampNeg)] m) (fun r1 => if r1.1 = 0 then (some (y3, 0, r1.2.2)) else (z_lp z_SH L xs C me_X10_goDinner F 12 [some (.ref 59), some (.int y1), some (.int y2), some (.int (y3 + 1))] [] r1.2.2))))) := rfl
set_option maxRecDepth 100000 in
theorem e_X10_refusesPair_0 (L : Nat) (xs : Nat → Int32) (C : Nat → List Value → z_M → Option z_R) (F : Nat) (x1 : Int32) (x2 : Int32) (m : z_M) : z_lp z_SH L xs C me_X10_refusesPair (F + 1) 0 [some (.ref 59), some (.int x1), some (.int x2), none] [] m = Option.bind (C 108 [.int x2, .int 0, .int 4] m) (fun r1 => if r1.1 = 0 then (if x2 = 10 then (z_lp z_SH L xs C me_X10_refusesPair F 31 [some (.ref 59), some (.int x1), some (.int x2), none] [.int 1] r1.2.2) else (Option.bind (C 108 [.int x2, .int 20, .int 25] r1.2.2) (fun r2 => if r2.1 = 0 then (z_lp z_SH L xs C me_X10_refusesPair F 31 [some (.ref 59), some (.int x1), some (.int x2), none] [.int 0] r2.2.2) else (z_lp z_SH L xs C me_X10_refusesPair F 31 [some (.ref 59), some (.int x1), some (.int x2), none] [.int 1] r2.2.2)))) else (z_lp z_SH L xs C me_X10_refusesPair F 31 [some (.ref 59), some (.int x1), some (.int x2), none] [.int 1] r1.2.2)) := rfl
set_option maxRecDepth 100000 in
theorem e_X10_refusesPair_31 (L : Nat) (xs : Nat → Int32) (C : Nat → List Value → z_M → Option z_R) (F : Nat) (y1 : Int32) (y2 : Int32) (t0 : Int32) (m : z_M) : z_lp z_SH L xs C me_X10_refusesPair (F + 1) 31 [some (.ref 59), some (.int y1), some (.int y2), none] [.int t0] m = if t0 = 0 then (some ((-2), 0, m)) else (if y2 = 10 then (Option.bind (C 108 [.int y1, .int 0, .int 9] m) (fun r1 => if r1.1 = 0 then (some ((-2), 0, r1.2.2)) else (if y2 = 10 then (some (0, 0, r1.2.2)) else (Option.bind (C 113 [.ref 59, .int y1] r1.2.2) (fun r2 => if r2.1 = 0 then (some ((-1), 0, r2.2.2)) else (some (0, 0, r2.2.2))))))) else (if y2 = 10 then (some (0, 0, m)) else (Option.bind (C 113 [.ref 59, .int y1] m) (fun r3 => if r3.1 = 0 then (some ((-1), 0, r3.2.2)) else (some (0, 0, r3.2.2)))))) := rfl
set_option maxRecDepth 100000 in
theorem e_X10_dinner_0 (L : Nat) (xs : Nat → Int32) (C : Nat → List Value → z_M → Option z_R) (F : Nat) (x1 : Int32) (x2 : Int32) (x3 : Int32) (x4 : Int32) (x5 : Int32) (m : z_M) : z_lp z_SH L xs C me_X10_dinner (F + 1) 0 [some (.ref 59), some (.int x1), some (.int x2), some (.int x3), some (.int x4), some (.int x5), none, none, none, none] [] m = Option.bind (C 109 [.int x1] (z_up m 59 0 0)) (fun r1 => if r1.1 = 0 then (some ((-1), 0, r1.2.2)) else (Option.bind (C 110 [.int x2] r1.2.2) (fun r2 => if r2.1 = 0 then (some ((-2), 0, r2.2.2)) else (Option.bind (C 108 [.int x4, .int 0, .int 20] r2.2.2) (fun r3 => if r3.1 = 0 then (some ((-2), 0, r3.2.2)) else (Option.bind (C 108 [.int x5, .int 0, .int 4] r3.2.2) (fun r4 => if r4.1 = 0 then (Option.bind (C 108 [.int x5, .int 10, .int 15] r4.2.2) (fun r5 => if r5.1 = 0 then (some ((-2), 0, r5.2.2)) else (Option.bind (C 111 [.ref 59, .int x1, .int x2, .int x3, .int (2 * x4)] r5.2.2) (fun r6 => if r6.1 = 0 then (if (r6.2.2 59 6) = 0 then (some ((-3), 0, r6.2.2)) else (z_lp z_SH L xs C me_X10_dinner F 103 [some (.ref 59), none, none, none, some (.int x4), some (.int x5), none, some (.int ((60 * x1) + x3)), some (.int 0), none] [] r6.2.2)) else (Option.bind (C 106 [.ref 59, .int r6.1] r6.2.2) (fun r7 => some (r7.1, 0, r7.2.2))))))) else (Option.bind (C 111 [.ref 59, .int x1, .int x2, .int x3, .int (2 * x4)] r4.2.2) (fun r8 => if r8.1 = 0 then (if (r8.2.2 59 6) = 0 then (some ((-3), 0, r8.2.2)) else (z_lp z_SH L xs C me_X10_dinner F 103 [some (.ref 59), none, none, none, some (.int x4), some (.int x5), none, some (.int ((60 * x1) + x3)), some (.int 0), none] [] r8.2.2)) else (Option.bind (C 106 [.ref 59, .int r8.1] r8.2.2) (fun r9 => some (r9.1, 0, r9.2.2)))))))))))) := rfl
set_option maxRecDepth 100000 in
theorem e_X10_dinner_103 (L : Nat) (xs : Nat → Int32) (C : Nat → List Value → z_M → Option z_R) (F : Nat) (y4 : Int32) (y5 : Int32) (y7 : Int32) (y8 : Int32) (m : z_M) : z_lp z_SH L xs C me_X10_dinner (F + 1) 103 [some (.ref 59), none, none, none, some (.int y4), some (.int y5), none, some (.int y7), some (.int y8), none] [] m = if y4 ≤ y8 then (Option.bind (C 139 [.ref 59] m) (fun r1 => Option.bind (C 142 [.ref 59, .int y7, .int y4] r1.2.2) (fun r2 => Option.bind (C 145 [.ref 59, .int y5] r2.2.2) (fun r3 => Option.bind (C 140 [.ref 59] r3.2.2) (fun r4 => if y5 = 1 then (some (r2.1, 0, r4.2.2)) else (if r2.1 = (-9) then (some (r3.1, 0, r4.2.2)) else (some ((-100) - r2.1, 0, r4.2.2)))))))) else (z_g (z_in 240 (y7 + (2 * y8))) (z_g (z_in 240 ((y7 + (2 * y8)) + 1)) (Option.bind (C 143 [.ref 59, .int (m 62 (y7 + (2 * y8)).toNatClampNeg), .int (m 62 ((y7 + (2 * y8)) + 1).toNatClampNeg)] m) (fun r5 => if r5.1 = 0 then (z_lp z_SH L xs C me_X10_dinner F 103 [some (.ref 59), none, none, none, some (.int y4), some (.int y5), none, some (.int y7), some (.int (y8 + 1)), none] [] r5.2.2) else (some (r5.1, 0, r5.2.2)))))) := rfl
set_option maxRecDepth 100000 in
theorem e_X10_tellDinner_0 (L : Nat) (xs : Nat → Int32) (C : Nat → List Value → z_M → Option z_R) (F : Nat) (x1 : Int32) (m : z_M) : z_lp z_SH L xs C me_X10_tellDinner (F + 1) 0 [some (.ref 59), some (.int x1)] [] m = if x1 < 10 then (if x1 = nI 0 then (some (m 59 8, 0, m)) else if x1 = nI 1 then (some (m 59 26, 0, m)) else if x1 = nI 2 then (some (m 59 9, 0, m)) else if x1 = nI 3 then (some (m 59 25, 0, m)) else (some (m 59 26, 0, m))) else (Option.bind (C 113 [.ref 59, .int (x1 - 10)] m) (fun r1 => if r1.1 = 0 then (some ((-9), 0, r1.2.2)) else (z_g (z_in 6 (x1 - 10)) (some (r1.2.2 68 (x1 - 10).toNatClampNeg, 0, r1.2.2))))) := rfl
set_option maxRecDepth 100000 in
theorem e_X10_isSoft_0 (L : Nat) (xs : Nat → Int32) (C : Nat → List Value → z_M → Option z_R) (F : Nat) (x1 : Int32) (x2 : Int32) (m : z_M) : z_lp z_SH L xs C me_X10_isSoft (F + 1) 0 [some (.ref 59), some (.int x1), some (.int x2)] [] m = Option.bind (C 124 [.ref 59, .int x1, .int x2] m) (fun r1 => if r1.1 ≤ 0 then (some (0, 0, r1.2.2)) else (Option.bind (C 124 [.ref 59, .int x1, .int x2] r1.2.2) (fun r2 => z_g (z_in 6 x2) (if (r2.2.2 65 x2.toNatClampNeg) < r2.1 then (some (0, 0, r2.2.2)) else (some (1, 0, r2.2.2)))))) := rfl
set_option maxRecDepth 100000 in
theorem e_X10_heaviest_0 (L : Nat) (xs : Nat → Int32) (C : Nat → List Value → z_M → Option z_R) (F : Nat) (x1 : Int32) (m : z_M) : z_lp z_SH L xs C me_X10_heaviest (F + 1) 0 [some (.ref 59), some (.int x1), none, none] [] m = z_lp z_SH L xs C me_X10_heaviest F 4 [some (.ref 59), some (.int x1), some (.int 0), some (.int 0)] [] m := rfl
set_option maxRecDepth 100000 in
theorem e_X10_heaviest_4 (L : Nat) (xs : Nat → Int32) (C : Nat → List Value → z_M → Option z_R) (F : Nat) (y1 : Int32) (y2 : Int32) (y3 : Int32) (m : z_M) : z_lp z_SH L xs C me_X10_heaviest (F + 1) 4 [some (.ref 59), some (.int y1), some (.int y2), some (.int y3)] [] m = if (m 59 5) ≤ y3 then (some (y2, 0, m)) else (Option.bind (C 146 [.ref 59, .int y3, .int y1] m) (fun r1 => if r1.1 = 0 then (z_lp z_SH L xs C me_X10_heaviest F 4 [some (.ref 59), some (.int y1), some (.int y2), some (.int (y3 + 1))] [] r1.2.2) else (Option.bind (C 124 [.ref 59, .int y3, .int y1] r1.2.2) (fun r2 => if r2.1 ≤ y2 then (z_lp z_SH L xs C me_X10_heaviest F 4 [some (.ref 59), some (.int y1), some (.int y2), some (.int (y3 + 1))] [] r2.2.2) else (Option.bind (C 124 [.ref 59, .int y3, .int y1] r2.2.2) (fun r3 => z_lp z_SH L xs C me_X10_heaviest F 4 [some (.ref 59), some (.int y1), some (.int r3.1), some (.int (y3 + 1))] [] r3.2.2)))))) := rfl
set_option maxRecDepth 100000 in
theorem e_X10_softly_0 (L : Nat) (xs : Nat → Int32) (C : Nat → List Value → z_M → Option z_R) (F : Nat) (x1 : Int32) (x2 : Int32) (m : z_M) : z_lp z_SH L xs C me_X10_softly (F + 1) 0 [some (.ref 59), some (.int x1), some (.int x2), none, none, none, none, none] [] m = Option.bind (C 113 [.ref 59, .int x1] m) (fun r1 => if r1.1 = 0 then (some ((-1), 0, r1.2.2)) else (Option.bind (C 108 [.int x2, .int (-1), .int 8] r1.2.2) (fun r2 => if r2.1 = 0 then (some ((-2), 0, r2.2.2)) else (Option.bind (C 115 [.int (r2.2.2 59 8), .int x1] r2.2.2) (fun r3 => if r3.1 = 0 then (z_g (z_in 6 x1) (z_g (z_in 6 x1) (Option.bind (C 147 [.ref 59, .int x1] r3.2.2) (fun r4 => if r4.1 = 0 then (some ((-9), 0, r4.2.2)) else (z_g (decide (¬ (r4.1 : Int32) = 0)) (if x2 = (-1) then (if x2 = (-1) then (some (((((r3.2.2 66 x1.toNatClampNeg) - (r3.2.2 68 x1.toNatClampNeg)) + r4.1) - 1) / r4.1, 0, r4.2.2)) else (some ((-9), 0, r4.2.2))) else (if x2 < (((((r3.2.2 66 x1.toNatClampNeg) - (r3.2.2 68 x1.toNatClampNeg)) + r4.1) - 1) / r4.1) then (z_lp z_SH L xs C me_X10_softly F 107 [some (.ref 59), some (.int x1), some (.int x2), some (.int ((r3.2.2 66 x1.toNatClampNeg) - (r3.2.2 68 x1.toNatClampNeg))), some (.int r4.1), some (.int (((((r3.2.2 66 x1.toNatClampNeg) - (r3.2.2 68 x1.toNatClampNeg)) + r4.1) - 1) / r4.1)), some (.int 0), some (.int 0)] [] r4.2.2) else (if x2 = (-1) then (some (((((r3.2.2 66 x1.toNatClampNeg) - (r3.2.2 68 x1.toNatClampNeg)) + r4.1) - 1) / r4.1, 0, r4.2.2)) else (some ((-9), 0, r4.2.2)))))))))) else (some ((-3), 0, r3.2.2))))))) := rfl
set_option maxRecDepth 100000 in
theorem e_X10_softly_107 (L : Nat) (xs : Nat → Int32) (C : Nat → List Value → z_M → Option z_R) (F : Nat) (y1 : Int32) (y2 : Int32) (y3 : Int32) (y4 : Int32) (y5 : Int32) (y6 : Int32) (y7 : Int32) (m : z_M) : z_lp z_SH L xs C me_X10_softly (F + 1) 107 [some (.ref 59), some (.int y1), some (.int y2), some (.int y3), some (.int y4), some (.int y5), some (.int y6), some (.int y7)] [] m = if y2 < y7 then (some (y6, 0, m)) else (z_lp z_SH L xs C me_X10_softly F 116 [some (.ref 59), some (.int y1), some (.int y2), some (.int y3), some (.int y4), some (.int y5), some (.int 0), some (.int y7)] [] m) := rfl
set_option maxRecDepth 100000 in
theorem e_X10_softly_116 (L : Nat) (xs : Nat → Int32) (C : Nat → List Value → z_M → Option z_R) (F : Nat) (y1 : Int32) (y2 : Int32) (y3 : Int32) (y4 : Int32) (y5 : Int32) (y6 : Int32) (y7 : Int32) (m : z_M) : z_lp z_SH L xs C me_X10_softly (F + 1) 116 [some (.ref 59), some (.int y1), some (.int y2), some (.int y3), some (.int y4), some (.int y5), some (.int y6), some (.int y7)] [] m = Option.bind (C 146 [.ref 59, .int y6, .int y1] m) (fun r1 => if r1.1 = 0 then (z_lp z_SH L xs C me_X10_softly F 116 [some (.ref 59), some (.int y1), some (.int y2), some (.int y3), some (.int y4), some (.int y5), some (.int (y6 + 1)), some (.int y7)] [] r1.2.2) else (Option.bind (C 124 [.ref 59, .int y6, .int y1] r1.2.2) (fun r2 => if y3 ≤ (r2.1 + (((y5 - 1) - y7) * y4)) then (Option.bind (C 124 [.ref 59, .int y6, .int y1] r2.2.2) (fun r3 => z_lp z_SH L xs C me_X10_softly F 107 [some (.ref 59), some (.int y1), some (.int y2), some (.int (y3 - r3.1)), some (.int y4), some (.int y5), some (.int y6), some (.int (y7 + 1))] [] r3.2.2)) else (z_lp z_SH L xs C me_X10_softly F 116 [some (.ref 59), some (.int y1), some (.int y2), some (.int y3), some (.int y4), some (.int y5), some (.int (y6 + 1)), some (.int y7)] [] r2.2.2)))) := rfl
set_option maxRecDepth 100000 in
theorem e_X10_just_0 (L : Nat) (xs : Nat → Int32) (C : Nat → List Value → z_M → Option z_R) (F : Nat) (x1 : Int32) (x2 : Int32) (x3 : Int32) (m : z_M) : z_lp z_SH L xs C me_X10_just (F + 1) 0 [some (.ref 59), some (.int x1), some (.int x2), some (.int x3), none, none, none, none] [] m = Option.bind (C 113 [.ref 59, .int x1] m) (fun r1 => if r1.1 = 0 then (some ((-1), 0, r1.2.2)) else (Option.bind (C 108 [.int x2, .int 0, .int 6] r1.2.2) (fun r2 => if r2.1 = 0 then (some ((-2), 0, r2.2.2)) else (Option.bind (C 108 [.int x3, .int 0, .int 54] r2.2.2) (fun r3 => if r3.1 = 0 then (some ((-2), 0, r3.2.2)) else (z_lp z_SH L xs C me_X10_just F 36 [some (.ref 59), some (.int x1), some (.int x2), some (.int x3), some (.int 0), none, none, none] [] r3.2.2)))))) := rfl
set_option maxRecDepth 100000 in
theorem e_X10_just_36 (L : Nat) (xs : Nat → Int32) (C : Nat → List Value → z_M → Option z_R) (F : Nat) (y1 : Int32) (y2 : Int32) (y3 : Int32) (y4 : Int32) (m : z_M) : z_lp z_SH L xs C me_X10_just (F + 1) 36 [some (.ref 59), some (.int y1), some (.int y2), some (.int y3), some (.int y4), none, none, none] [] m = if 54 < y4 then (z_lp z_SH L xs C me_X10_just F 69 [some (.ref 59), some (.int y1), some (.int y2), some (.int y3), some (.int 0), none, none, none] [] m) else (if y4 = 0 then (z_g (z_in 55 y4) (z_lp z_SH L xs C me_X10_just F 36 [some (.ref 59), some (.int y1), some (.int y2), some (.int y3), some (.int (y4 + 1)), none, none, none] [] (z_up m 73 y4.toNatClampNeg 1))) else (z_g (z_in 55 y4) (z_lp z_SH L xs C me_X10_just F 36 [some (.ref 59), some (.int y1), some (.int y2), some (.int y3), some (.int (y4 + 1)), none, none, none] [] (z_up m 73 y4.toNatClampNeg 0)))) := rfl
set_option maxRecDepth 100000 in
theorem e_X10_just_69 (L : Nat) (xs : Nat → Int32) (C : Nat → List Value → z_M → Option z_R) (F : Nat) (y1 : Int32) (y2 : Int32) (y3 : Int32) (y4 : Int32) (m : z_M) : z_lp z_SH L xs C me_X10_just (F + 1) 69 [some (.ref 59), some (.int y1), some (.int y2), some (.int y3), some (.int y4), none, none, none] [] m = if y2 ≤ y4 then (z_g (z_in 55 y3) (some (m 73 y3.toNatClampNeg, 0, m))) else (z_lp z_SH L xs C me_X10_just F 79 [some (.ref 59), some (.int y1), some (.int y2), some (.int y3), some (.int y4), some (.int 54), none, none] [] m) := rfl
set_option maxRecDepth 100000 in
theorem e_X10_just_79 (L : Nat) (xs : Nat → Int32) (C : Nat → List Value → z_M → Option z_R) (F : Nat) (y1 : Int32) (y2 : Int32) (y3 : Int32) (y4 : Int32) (y5 : Int32) (m : z_M) : z_lp z_SH L xs C me_X10_just (F + 1) 79 [some (.ref 59), some (.int y1), some (.int y2), some (.int y3), some (.int y4), some (.int y5), none, none] [] m = if y5 < 0 then (z_lp z_SH L xs C me_X10_just F 69 [some (.ref 59), some (.int y1), some (.int y2), some (.int y3), some (.int (y4 + 1)), none, none, none] [] m) else (z_lp z_SH L xs C me_X10_just F 90 [some (.ref 59), some (.int y1), some (.int y2), some (.int y3), some (.int y4), some (.int y5), some (.int 0), some (.int 0)] [] m) := rfl
set_option maxRecDepth 100000 in
theorem e_X10_just_90 (L : Nat) (xs : Nat → Int32) (C : Nat → List Value → z_M → Option z_R) (F : Nat) (y1 : Int32) (y2 : Int32) (y3 : Int32) (y4 : Int32) (y5 : Int32) (y6 : Int32) (y7 : Int32) (m : z_M) : z_lp z_SH L xs C me_X10_just (F + 1) 90 [some (.ref 59), some (.int y1), some (.int y2), some (.int y3), some (.int y4), some (.int y5), some (.int y6), some (.int y7)] [] m = if (m 59 5) ≤ y7 then (z_g (z_in 55 y5) (z_lp z_SH L xs C me_X10_just F 79 [some (.ref 59), some (.int y1), some (.int y2), some (.int y3), some (.int y4), some (.int (y5 + (-1))), none, none] [] (z_up m 73 y5.toNatClampNeg y6))) else (Option.bind (C 146 [.ref 59, .int y7, .int y1] m) (fun r1 => if r1.1 = 0 then (z_lp z_SH L xs C me_X10_just F 90 [some (.ref 59), some (.int y1), some (.int y2), some (.int y3), some (.int y4), some (.int y5), some (.int (y6 + 0)), some (.int (y7 + 1))] [] r1.2.2) else (Option.bind (C 124 [.ref 59, .int y7, .int y1] r1.2.2) (fun r2 => if y5 < r2.1 then (z_lp z_SH L xs C me_X10_just F 90 [some (.ref 59), some (.int y1), some (.int y2), some (.int y3), some (.int y4), some (.int y5), some (.int (y6 + 0)), some (.int (y7 + 1))] [] r2.2.2) else (Option.bind (C 124 [.ref 59, .int y7, .int y1] r2.2.2) (fun r3 => z_g (z_in 55 (y5 - r3.1)) (z_lp z_SH L xs C me_X10_just F 90 [some (.ref 59), some (.int y1), some (.int y2), some (.int y3), some (.int y4), some (.int y5), some (.int (y6 + (r3.2.2 73 (y5 - r3.1).toNatClampNeg))), some (.int (y7 + 1))] [] r3.2.2))))))) := rfl
set_option maxRecDepth 100000 in
theorem e_X10_canSit_0 (L : Nat) (xs : Nat → Int32) (C : Nat → List Value → z_M → Option z_R) (F : Nat) (x1 : Int32) (x2 : Int32) (m : z_M) : z_lp z_SH L xs C me_X10_canSit (F + 1) 0 [some (.ref 59), some (.int x1), some (.int x2), none, none, none, none, none] [] m = z_lp z_SH L xs C me_X10_canSit F 10 [some (.ref 59), none, some (.int x2), some (.int x1), some (.int ((m 59 6) - 1)), none, none, none] [] m := rfl
set_option maxRecDepth 100000 in
theorem e_X10_canSit_10 (L : Nat) (xs : Nat → Int32) (C : Nat → List Value → z_M → Option z_R) (F : Nat) (y2 : Int32) (y3 : Int32) (y4 : Int32) (m : z_M) : z_lp z_SH L xs C me_X10_canSit (F + 1) 10 [some (.ref 59), none, some (.int y2), some (.int y3), some (.int y4), none, none, none] [] m = if y4 < 0 then (z_lp z_SH L xs C me_X10_canSit F 62 [some (.ref 59), none, some (.int y2), none, some (.int 0), some (.int 0), none, none] [] m) else (z_g (z_in 6 y4) (Option.bind (C 115 [.int ((z_up m 74 y4.toNatClampNeg (-9)) 59 8), .int y4] (z_up m 74 y4.toNatClampNeg (-9))) (fun r1 => if r1.1 = 0 then (z_g (decide (¬ (y2 : Int32) = 0)) (z_g (z_in 6 y4) (z_g (decide (¬ (y2 : Int32) = 0)) (z_lp z_SH L xs C me_X10_canSit F 10 [some (.ref 59), none, some (.int y2), some (.int (y3 / y2)), some (.int (y4 + (-1))), none, none, none] [] (z_up r1.2.2 74 y4.toNatClampNeg (y3 - y3 / y2 * y2)))))) else (z_lp z_SH L xs C me_X10_canSit F 10 [some (.ref 59), none, some (.int y2), some (.int y3), some (.int (y4 + (-1))), none, none, none] [] r1.2.2)))) := rfl
set_option maxRecDepth 100000 in
theorem e_X10_canSit_62 (L : Nat) (xs : Nat → Int32) (C : Nat → List Value → z_M → Option z_R) (F : Nat) (y2 : Int32) (y4 : Int32) (y5 : Int32) (m : z_M) : z_lp z_SH L xs C me_X10_canSit (F + 1) 62 [some (.ref 59), none, some (.int y2), none, some (.int y4), some (.int y5), none, none] [] m = if (m 59 6) ≤ y5 then (if y4 = (((1 : Int32) <<< (y2 &&& 31)) - (1 : Int32)) then (some (1, 0, m)) else (some (0, 0, m))) else (z_g (z_in 6 y5) (if (m 74 y5.toNatClampNeg) = (-9) then (z_lp z_SH L xs C me_X10_canSit F 104 [some (.ref 59), none, some (.int y2), none, some (.int (y4 ||| 0)), some (.int y5), some (.int 0), none] [] m) else (z_g (z_in 6 y5) (z_lp z_SH L xs C me_X10_canSit F 104 [some (.ref 59), none, some (.int y2), none, some (.int (y4 ||| ((1 : Int32) <<< ((m 74 y5.toNatClampNeg) &&& 31)))), some (.int y5), some (.int 0), none] [] m)))) := rfl
set_option maxRecDepth 100000 in
theorem e_X10_canSit_104 (L : Nat) (xs : Nat → Int32) (C : Nat → List Value → z_M → Option z_R) (F : Nat) (y2 : Int32) (y4 : Int32) (y5 : Int32) (y6 : Int32) (m : z_M) : z_lp z_SH L xs C me_X10_canSit (F + 1) 104 [some (.ref 59), none, some (.int y2), none, some (.int y4), some (.int y5), some (.int y6), none] [] m = if y5 ≤ y6 then (z_lp z_SH L xs C me_X10_canSit F 62 [some (.ref 59), none, some (.int y2), none, some (.int y4), some (.int (y5 + 1)), none, none] [] m) else (z_g (z_in 6 y5) (z_g (z_in 6 y6) (if (m 64 y5.toNatClampNeg) = (m 64 y6.toNatClampNeg) then (z_lp z_SH L xs C me_X10_canSit F 157 [some (.ref 59), none, some (.int y2), none, some (.int y4), some (.int y5), some (.int y6), none] [.int 0] m) else (Option.bind (C 115 [.int (m 59 9), .int y5] m) (fun r1 => if r1.1 = 0 then (z_lp z_SH L xs C me_X10_canSit F 157 [some (.ref 59), none, some (.int y2), none, some (.int y4), some (.int y5), some (.int y6), none] [.int 1] r1.2.2) else (Option.bind (C 115 [.int (r1.2.2 59 9), .int y6] r1.2.2) (fun r2 => if r2.1 = 0 then (z_lp z_SH L xs C me_X10_canSit F 157 [some (.ref 59), none, some (.int y2), none, some (.int y4), some (.int y5), some (.int y6), none] [.int 1] r2.2.2) else (z_lp z_SH L xs C me_X10_canSit F 157 [some (.ref 59), none, some (.int y2), none, some (.int y4), some (.int y5), some (.int y6), none] [.int 0] r2.2.2)))))))) := rfl
set_option maxRecDepth 100000 in
theorem e_X10_canSit_157 (L : Nat) (xs : Nat → Int32) (C : Nat → List Value → z_M → Option z_R) (F : Nat) (y2 : Int32) (y4 : Int32) (y5 : Int32) (y6 : Int32) (t0 : Int32) (m : z_M) : z_lp z_SH L xs C me_X10_canSit (F + 1) 157 [some (.ref 59), none, some (.int y2), none, some (.int y4), some (.int y5), some (.int y6), none] [.int t0] m = z_g (z_in 6 y5) (if (m 74 y5.toNatClampNeg) = (-9) then (z_lp z_SH L xs C me_X10_canSit F 104 [some (.ref 59), none, some (.int y2), none, some (.int y4), some (.int y5), some (.int (y6 + 1)), none] [] m) else (z_g (z_in 6 y5) (z_g (z_in 6 y6) (if (m 74 y5.toNatClampNeg) = (m 74 y6.toNatClampNeg) then (if t0 = 0 then (some (0, 0, m)) else (z_lp z_SH L xs C me_X10_canSit F 104 [some (.ref 59), none, some (.int y2), none, some (.int y4), some (.int y5), some (.int (y6 + 1)), none] [] m)) else (z_lp z_SH L xs C me_X10_canSit F 104 [some (.ref 59), none, some (.int y2), none, some (.int y4), some (.int y5), some (.int (y6 + 1)), none] [] m))))) := rfl
set_option maxRecDepth 100000 in
theorem e_X10_findTables_0 (L : Nat) (xs : Nat → Int32) (C : Nat → List Value → z_M → Option z_R) (F : Nat) (m : z_M) : z_lp z_SH L xs C me_X10_findTables (F + 1) 0 [some (.ref 59), none, none, none, none] [] m = Option.bind (C 116 [.int (m 59 8)] m) (fun r1 => if ((m 59 6) - r1.1) = 0 then (z_lp z_SH L xs C me_X10_findTables F 23 [some (.ref 59), some (.int ((m 59 6) - r1.1)), some (.int 0), none, none] [] r1.2.2) else (z_lp z_SH L xs C me_X10_findTables F 23 [some (.ref 59), some (.int ((m 59 6) - r1.1)), some (.int 1), none, none] [] r1.2.2)) := rfl
set_option maxRecDepth 100000 in
theorem e_X10_findTables_23 (L : Nat) (xs : Nat → Int32) (C : Nat → List Value → z_M → Option z_R) (F : Nat) (y1 : Int32) (y2 : Int32) (m : z_M) : z_lp z_SH L xs C me_X10_findTables (F + 1) 23 [some (.ref 59), some (.int y1), some (.int y2), none, none] [] m = if y1 < y2 then (some (0, 0, m)) else (z_lp z_SH L xs C me_X10_findTables F 33 [some (.ref 59), some (.int y1), some (.int y2), some (.int 1), some (.int 0)] [] m) := rfl
set_option maxRecDepth 100000 in
theorem e_X10_findTables_33 (L : Nat) (xs : Nat → Int32) (C : Nat → List Value → z_M → Option z_R) (F : Nat) (y1 : Int32) (y2 : Int32) (y3 : Int32) (y4 : Int32) (m : z_M) : z_lp z_SH L xs C me_X10_findTables (F + 1) 33 [some (.ref 59), some (.int y1), some (.int y2), some (.int y3), some (.int y4)] [] m = if y1 ≤ y4 then (z_lp z_SH L xs C me_X10_findTables F 52 [some (.ref 59), some (.int y1), some (.int y2), some (.int y3), some (.int 0)] [] m) else (z_lp z_SH L xs C me_X10_findTables F 33 [some (.ref 59), some (.int y1), some (.int y2), some (.int (y3 * y2)), some (.int (y4 + 1))] [] m) := rfl
set_option maxRecDepth 100000 in
theorem e_X10_findTables_52 (L : Nat) (xs : Nat → Int32) (C : Nat → List Value → z_M → Option z_R) (F : Nat) (y1 : Int32) (y2 : Int32) (y3 : Int32) (y4 : Int32) (m : z_M) : z_lp z_SH L xs C me_X10_findTables (F + 1) 52 [some (.ref 59), some (.int y1), some (.int y2), some (.int y3), some (.int y4)] [] m = if y3 ≤ y4 then (z_lp z_SH L xs C me_X10_findTables F 23 [some (.ref 59), some (.int y1), some (.int (y2 + 1)), none, none] [] m) else (Option.bind (C 150 [.ref 59, .int y4, .int y2] m) (fun r1 => if r1.1 = 0 then (z_lp z_SH L xs C me_X10_findTables F 52 [some (.ref 59), some (.int y1), some (.int y2), some (.int y3), some (.int (y4 + 1))] [] r1.2.2) else (some (y2, 0, r1.2.2)))) := rfl
set_option maxRecDepth 100000 in
theorem e_X10_apart_0 (L : Nat) (xs : Nat → Int32) (C : Nat → List Value → z_M → Option z_R) (F : Nat) (x1 : Int32) (m : z_M) : z_lp z_SH L xs C me_X10_apart (F + 1) 0 [some (.ref 59), some (.int x1), none] [] m = Option.bind (C 108 [.int x1, .int (-1), .int 5] m) (fun r1 => if r1.1 = 0 then (some ((-2), 0, r1.2.2)) else (if (r1.2.2 59 6) = 0 then (some ((-3), 0, r1.2.2)) else (Option.bind (C 151 [.ref 59] r1.2.2) (fun r2 => if x1 = (-1) then (some (r2.1, 0, r2.2.2)) else (Option.bind (C 113 [.ref 59, .int x1] r2.2.2) (fun r3 => if r3.1 = 0 then (some ((-9), 0, r3.2.2)) else (Option.bind (C 115 [.int (r3.2.2 59 8), .int x1] r3.2.2) (fun r4 => if r4.1 = 0 then (z_g (z_in 6 x1) (some (r4.2.2 74 x1.toNatClampNeg, 0, r4.2.2))) else (some ((-9), 0, r4.2.2)))))))))) := rfl
set_option maxRecDepth 100000 in
theorem e_X10_canGive_0 (L : Nat) (xs : Nat → Int32) (C : Nat → List Value → z_M → Option z_R) (F : Nat) (x1 : Int32) (m : z_M) : z_lp z_SH L xs C me_X10_canGive (F + 1) 0 [some (.ref 59), some (.int x1), none, none, none, none] [] m = z_lp z_SH L xs C me_X10_canGive F 12 [some (.ref 59), none, some (.int x1), some (.int 0), some (.int ((m 59 6) - 1)), none] [] m := rfl
set_option maxRecDepth 100000 in
theorem e_X10_canGive_12 (L : Nat) (xs : Nat → Int32) (C : Nat → List Value → z_M → Option z_R) (F : Nat) (y2 : Int32) (y3 : Int32) (y4 : Int32) (m : z_M) : z_lp z_SH L xs C me_X10_canGive (F + 1) 12 [some (.ref 59), none, some (.int y2), some (.int y3), some (.int y4), none] [] m = if y4 < 0 then (some (1, 0, m)) else (z_g (decide (¬ (((m 59 5) + 1) : Int32) = 0)) (z_g (decide (¬ (((m 59 5) + 1) : Int32) = 0)) (if (y2 - y2 / ((m 59 5) + 1) * ((m 59 5) + 1)) = (m 59 5) then (z_g (z_in 6 y4) (if ((z_up m 75 y4.toNatClampNeg 9) 59 5) ≤ (y2 - y2 / ((m 59 5) + 1) * ((m 59 5) + 1)) then (z_lp z_SH L xs C me_X10_canGive F 12 [some (.ref 59), none, some (.int (y2 / ((m 59 5) + 1))), some (.int y3), some (.int (y4 + (-1))), none] [] (z_up m 75 y4.toNatClampNeg 9)) else (Option.bind (C 115 [.int y3, .int (y2 - y2 / ((m 59 5) + 1) * ((m 59 5) + 1))] (z_up m 75 y4.toNatClampNeg 9)) (fun r1 => if r1.1 = 0 then (Option.bind (C 115 [.int (r1.2.2 59 8), .int y4] r1.2.2) (fun r2 => if r2.1 = 0 then (Option.bind (C 124 [.ref 59, .int (y2 - y2 / ((m 59 5) + 1) * ((m 59 5) + 1)), .int y4] r2.2.2) (fun r3 => z_g (z_in 6 y4) (if r3.1 ≤ (r3.2.2 65 y4.toNatClampNeg) then (z_lp z_SH L xs C me_X10_canGive F 12 [some (.ref 59), none, some (.int (y2 / ((m 59 5) + 1))), some (.int (y3 ||| ((1 : Int32) <<< ((y2 - y2 / ((m 59 5) + 1) * ((m 59 5) + 1)) &&& 31)))), some (.int (y4 + (-1))), none] [] r3.2.2) else (some (0, 0, r3.2.2))))) else (some (0, 0, r2.2.2)))) else (some (0, 0, r1.2.2)))))) else (z_g (z_in 6 y4) (if ((z_up m 75 y4.toNatClampNeg (y2 - y2 / ((m 59 5) + 1) * ((m 59 5) + 1))) 59 5) ≤ (y2 - y2 / ((m 59 5) + 1) * ((m 59 5) + 1)) then (z_lp z_SH L xs C me_X10_canGive F 12 [some (.ref 59), none, some (.int (y2 / ((m 59 5) + 1))), some (.int y3), some (.int (y4 + (-1))), none] [] (z_up m 75 y4.toNatClampNeg (y2 - y2 / ((m 59 5) + 1) * ((m 59 5) + 1)))) else (Option.bind (C 115 [.int y3, .int (y2 - y2 / ((m 59 5) + 1) * ((m 59 5) + 1))] (z_up m 75 y4.toNatClampNeg (y2 - y2 / ((m 59 5) + 1) * ((m 59 5) + 1)))) (fun r4 => if r4.1 = 0 then (Option.bind (C 115 [.int (r4.2.2 59 8), .int y4] r4.2.2) (fun r5 => if r5.1 = 0 then (Option.bind (C 124 [.ref 59, .int (y2 - y2 / ((m 59 5) + 1) * ((m 59 5) + 1)), .int y4] r5.2.2) (fun r6 => z_g (z_in 6 y4) (if r6.1 ≤ (r6.2.2 65 y4.toNatClampNeg) then (z_lp z_SH L xs C me_X10_canGive F 12 [some (.ref 59), none, some (.int (y2 / ((m 59 5) + 1))), some (.int (y3 ||| ((1 : Int32) <<< ((y2 - y2 / ((m 59 5) + 1) * ((m 59 5) + 1)) &&& 31)))), some (.int (y4 + (-1))), none] [] r6.2.2) else (some (0, 0, r6.2.2))))) else (some (0, 0, r5.2.2)))) else (some (0, 0, r4.2.2))))))))) := rfl
set_option maxRecDepth 100000 in
theorem e_X10_tryRow_0 (L : Nat) (xs : Nat → Int32) (C : Nat → List Value → z_M → Option z_R) (F : Nat) (m : z_M) : z_lp z_SH L xs C me_X10_tryRow (F + 1) 0 [some (.ref 59), none, none, none] [] m = z_lp z_SH L xs C me_X10_tryRow F 6 [some (.ref 59), some (.int 0), some (.int 0), some (.int 0)] [] m := rfl
set_option maxRecDepth 100000 in
theorem e_X10_tryRow_6 (L : Nat) (xs : Nat → Int32) (C : Nat → List Value → z_M → Option z_R) (F : Nat) (y1 : Int32) (y2 : Int32) (y3 : Int32) (m : z_M) : z_lp z_SH L xs C me_X10_tryRow (F + 1) 6 [some (.ref 59), some (.int y1), some (.int y2), some (.int y3)] [] m = if (m 59 6) ≤ y3 then (if (m 59 31) < y1 then (z_lp z_SH L xs C me_X10_tryRow F 116 [some (.ref 59), none, none, some (.int 0)] [] (z_up (z_up m 59 31 y1) 59 32 y2)) else (if y1 = (m 59 31) then (if (m 59 32) ≤ y2 then (some (0, 0, m)) else (z_lp z_SH L xs C me_X10_tryRow F 116 [some (.ref 59), none, none, some (.int 0)] [] (z_up (z_up m 59 31 y1) 59 32 y2))) else (some (0, 0, m)))) else (z_g (z_in 6 y3) (if (m 75 y3.toNatClampNeg) = 9 then (z_lp z_SH L xs C me_X10_tryRow F 6 [some (.ref 59), some (.int y1), some (.int y2), some (.int (y3 + 1))] [] m) else (z_g (z_in 6 y3) (z_g (z_in 6 y3) (Option.bind (C 124 [.ref 59, .int (m 75 y3.toNatClampNeg), .int y3] m) (fun r1 => z_g (z_in 6 y3) (if ((m 68 y3.toNatClampNeg) + r1.1) < (r1.2.2 66 y3.toNatClampNeg) then (z_g (z_in 6 y3) (z_g (z_in 5 (r1.2.2 75 y3.toNatClampNeg)) (z_lp z_SH L xs C me_X10_tryRow F 6 [some (.ref 59), some (.int (y1 + 0)), some (.int (y2 + (r1.2.2 63 (r1.2.2 75 y3.toNatClampNeg).toNatClampNeg))), some (.int (y3 + 1))] [] r1.2.2))) else (z_g (z_in 6 y3) (z_g (z_in 5 (r1.2.2 75 y3.toNatClampNeg)) (z_lp z_SH L xs C me_X10_tryRow F 6 [some (.ref 59), some (.int (y1 + 1)), some (.int (y2 + (r1.2.2 63 (r1.2.2 75 y3.toNatClampNeg).toNatClampNeg))), some (.int (y3 + 1))] [] r1.2.2)))))))))) := rfl
set_option maxRecDepth 100000 in
theorem e_X10_tryRow_116 (L : Nat) (xs : Nat → Int32) (C : Nat → List Value → z_M → Option z_R) (F : Nat) (y3 : Int32) (m : z_M) : z_lp z_SH L xs C me_X10_tryRow (F + 1) 116 [some (.ref 59), none, none, some (.int y3)] [] m = if (m 59 6) ≤ y3 then (some (0, 0, m)) else (z_g (z_in 6 y3) (z_g (z_in 6 y3) (z_lp z_SH L xs C me_X10_tryRow F 116 [some (.ref 59), none, none, some (.int (y3 + 1))] [] (z_up m 76 y3.toNatClampNeg (m 75 y3.toNatClampNeg))))) := rfl
set_option maxRecDepth 100000 in
theorem e_X10_best_0 (L : Nat) (xs : Nat → Int32) (C : Nat → List Value → z_M → Option z_R) (F : Nat) (x1 : Int32) (m : z_M) : z_lp z_SH L xs C me_X10_best (F + 1) 0 [some (.ref 59), some (.int x1), none, none] [] m = Option.bind (C 108 [.int x1, .int (-2), .int 5] m) (fun r1 => if r1.1 = 0 then (some ((-2), 0, r1.2.2)) else (if (r1.2.2 59 6) = 0 then (some ((-3), 0, r1.2.2)) else (z_lp z_SH L xs C me_X10_best F 27 [some (.ref 59), some (.int x1), some (.int 1), some (.int 0)] [] r1.2.2))) := rfl
set_option maxRecDepth 100000 in
theorem e_X10_best_27 (L : Nat) (xs : Nat → Int32) (C : Nat → List Value → z_M → Option z_R) (F : Nat) (y1 : Int32) (y2 : Int32) (y3 : Int32) (m : z_M) : z_lp z_SH L xs C me_X10_best (F + 1) 27 [some (.ref 59), some (.int y1), some (.int y2), some (.int y3)] [] m = if (m 59 6) ≤ y3 then (z_lp z_SH L xs C me_X10_best F 63 [some (.ref 59), some (.int y1), some (.int y2), some (.int 0)] [] (z_up (z_up m 59 31 (-9)) 59 32 0)) else (z_lp z_SH L xs C me_X10_best F 27 [some (.ref 59), some (.int y1), some (.int (y2 * ((m 59 5) + 1))), some (.int (y3 + 1))] [] m) := rfl
set_option maxRecDepth 100000 in
theorem e_X10_best_63 (L : Nat) (xs : Nat → Int32) (C : Nat → List Value → z_M → Option z_R) (F : Nat) (y1 : Int32) (y2 : Int32) (y3 : Int32) (m : z_M) : z_lp z_SH L xs C me_X10_best (F + 1) 63 [some (.ref 59), some (.int y1), some (.int y2), some (.int y3)] [] m = if y2 ≤ y3 then (if 0 ≤ y1 then (Option.bind (C 113 [.ref 59, .int y1] m) (fun r1 => if r1.1 = 0 then (some ((-9), 0, r1.2.2)) else (z_g (z_in 6 y1) (if (r1.2.2 76 y1.toNatClampNeg) = 9 then (some ((-9), 0, r1.2.2)) else (z_g (z_in 6 y1) (some (r1.2.2 76 y1.toNatClampNeg, 0, r1.2.2))))))) else (if y1 = (-2) then (some (m 59 31, 0, m)) else (some (m 59 32, 0, m)))) else (Option.bind (C 153 [.ref 59, .int y3] m) (fun r2 => if r2.1 = 0 then (z_lp z_SH L xs C me_X10_best F 63 [some (.ref 59), some (.int y1), some (.int y2), some (.int (y3 + 1))] [] r2.2.2) else (Option.bind (C 154 [.ref 59] r2.2.2) (fun r3 => z_lp z_SH L xs C me_X10_best F 63 [some (.ref 59), some (.int y1), some (.int y2), some (.int (y3 + 1))] [] r3.2.2)))) := rfl
set_option maxRecDepth 100000 in
theorem e_X10_reading_0 (L : Nat) (xs : Nat → Int32) (C : Nat → List Value → z_M → Option z_R) (F : Nat) (x1 : Int32) (x2 : Int32) (x3 : Int32) (m : z_M) : z_lp z_SH L xs C me_X10_reading (F + 1) 0 [some (.ref 59), some (.int x1), some (.int x2), some (.int x3)] [] m = Option.bind (C 112 [.ref 59, .int x1] m) (fun r1 => if r1.1 = 0 then (some ((-1), 0, r1.2.2)) else (Option.bind (C 113 [.ref 59, .int x2] r1.2.2) (fun r2 => if r2.1 = 0 then (some ((-1), 0, r2.2.2)) else (Option.bind (C 108 [.int x3, .int 0, .int 1] r2.2.2) (fun r3 => if r3.1 = 0 then (some ((-2), 0, r3.2.2)) else (if (r3.2.2 59 33) = 8 then (some ((-4), 0, r3.2.2)) else (z_g (z_in 8 (r3.2.2 59 33)) (z_g (z_in 8 ((z_up r3.2.2 77 (r3.2.2 59 33).toNatClampNeg x1) 59 33)) (z_g (z_in 8 ((z_up (z_up r3.2.2 77 (r3.2.2 59 33).toNatClampNeg x1) 78 ((z_up r3.2.2 77 (r3.2.2 59 33).toNatClampNeg x1) 59 33).toNatClampNeg x2) 59 33)) (some (((z_up (z_up (z_up (z_up r3.2.2 77 (r3.2.2 59 33).toNatClampNeg x1) 78 ((z_up r3.2.2 77 (r3.2.2 59 33).toNatClampNeg x1) 59 33).toNatClampNeg x2) 79 ((z_up (z_up r3.2.2 77 (r3.2.2 59 33).toNatClampNeg x1) 78 ((z_up r3.2.2 77 (r3.2.2 59 33).toNatClampNeg x1) 59 33).toNatClampNeg x2) 59 33).toNatClampNeg x3) 59 33 (((z_up (z_up (z_up r3.2.2 77 (r3.2.2 59 33).toNatClampNeg x1) 78 ((z_up r3.2.2 77 (r3.2.2 59 33).toNatClampNeg x1) 59 33).toNatClampNeg x2) 79 ((z_up (z_up r3.2.2 77 (r3.2.2 59 33).toNatClampNeg x1) 78 ((z_up r3.2.2 77 (r3.2.2 59 33).toNatClampNeg x1) 59 33).toNatClampNeg x2) 59 33).toNatClampNeg x3) 59 33) + 1)) 59 33) - 1, 0, z_up (z_up (z_up (z_up r3.2.2 77 (r3.2.2 59 33).toNatClampNeg x1) 78 ((z_up r3.2.2 77 (r3.2.2 59 33).toNatClampNeg x1) 59 33).toNatClampNeg x2) 79 ((z_up (z_up r3.2.2 77 (r3.2.2 59 33).toNatClampNeg x1) 78 ((z_up r3.2.2 77 (r3.2.2 59 33).toNatClampNeg x1) 59 33).toNatClampNeg x2) 59 33).toNatClampNeg x3) 59 33 (((z_up (z_up (z_up r3.2.2 77 (r3.2.2 59 33).toNatClampNeg x1) 78 ((z_up r3.2.2 77 (r3.2.2 59 33).toNatClampNeg x1) 59 33).toNatClampNeg x2) 79 ((z_up (z_up r3.2.2 77 (r3.2.2 59 33).toNatClampNeg x1) 78 ((z_up r3.2.2 77 (r3.2.2 59 33).toNatClampNeg x1) 59 33).toNatClampNeg x2) 59 33).toNatClampNeg x3) 59 33) + 1)))))))))))) := rfl
set_option maxRecDepth 100000 in
theorem e_X10_back_0 (L : Nat) (xs : Nat → Int32) (C : Nat → List Value → z_M → Option z_R) (F : Nat) (x1 : Int32) (m : z_M) : z_lp z_SH L xs C me_X10_back (F + 1) 0 [some (.ref 59), some (.int x1)] [] m = Option.bind (C 108 [.int x1, .int 0, .int (m 59 33)] m) (fun r1 => if r1.1 = 0 then (some ((-2), 0, r1.2.2)) else (some ((z_up r1.2.2 59 33 ((r1.2.2 59 33) - x1)) 59 33, 0, z_up r1.2.2 59 33 ((r1.2.2 59 33) - x1)))) := rfl
set_option maxRecDepth 100000 in
theorem e_X10_areSo_0 (L : Nat) (xs : Nat → Int32) (C : Nat → List Value → z_M → Option z_R) (F : Nat) (m : z_M) : z_lp z_SH L xs C me_X10_areSo (F + 1) 0 [some (.ref 59), none, none] [] m = z_lp z_SH L xs C me_X10_areSo F 2 [some (.ref 59), some (.int 0), none] [] m := rfl
set_option maxRecDepth 100000 in
theorem e_X10_areSo_2 (L : Nat) (xs : Nat → Int32) (C : Nat → List Value → z_M → Option z_R) (F : Nat) (y1 : Int32) (m : z_M) : z_lp z_SH L xs C me_X10_areSo (F + 1) 2 [some (.ref 59), some (.int y1), none] [] m = if (m 59 33) ≤ y1 then (some (1, 0, m)) else (z_g (z_in 8 y1) (z_g (z_in 8 y1) (Option.bind (C 124 [.ref 59, .int (m 77 y1.toNatClampNeg), .int (m 78 y1.toNatClampNeg)] m) (fun r1 => z_g (z_in 8 y1) (z_g (z_in 6 (r1.2.2 78 y1.toNatClampNeg)) (if r1.1 ≤ (r1.2.2 65 (r1.2.2 78 y1.toNatClampNeg).toNatClampNeg) then (z_g (z_in 8 y1) (if (0 : Int32) = (r1.2.2 79 y1.toNatClampNeg) then (z_lp z_SH L xs C me_X10_areSo F 2 [some (.ref 59), some (.int (y1 + 1)), none] [] r1.2.2) else (some (0, 0, r1.2.2)))) else (z_g (z_in 8 y1) (if (1 : Int32) = (r1.2.2 79 y1.toNatClampNeg) then (z_lp z_SH L xs C me_X10_areSo F 2 [some (.ref 59), some (.int (y1 + 1)), none] [] r1.2.2) else (some (0, 0, r1.2.2)))))))))) := rfl
set_option maxRecDepth 100000 in
theorem e_X10_bearings_0 (L : Nat) (xs : Nat → Int32) (C : Nat → List Value → z_M → Option z_R) (F : Nat) (x1 : Int32) (m : z_M) : z_lp z_SH L xs C me_X10_bearings (F + 1) 0 [some (.ref 59), some (.int x1), none, none, none] [] m = Option.bind (C 113 [.ref 59, .int x1] m) (fun r1 => if r1.1 = 0 then (some ((-1), 0, r1.2.2)) else (z_g (z_in 6 x1) (z_lp z_SH L xs C me_X10_bearings F 22 [some (.ref 59), some (.int x1), some (.int (r1.2.2 65 x1.toNatClampNeg)), some (.int 0), some (.int 1)] [] r1.2.2))) := rfl
set_option maxRecDepth 100000 in
theorem e_X10_bearings_22 (L : Nat) (xs : Nat → Int32) (C : Nat → List Value → z_M → Option z_R) (F : Nat) (y1 : Int32) (y2 : Int32) (y3 : Int32) (y4 : Int32) (m : z_M) : z_lp z_SH L xs C me_X10_bearings (F + 1) 22 [some (.ref 59), some (.int y1), some (.int y2), some (.int y3), some (.int y4)] [] m = if 9 < y4 then (z_g (z_in 6 y1) (some (y3, 0, z_up m 65 y1.toNatClampNeg y2))) else (z_g (z_in 6 y1) (Option.bind (C 158 [.ref 59] (z_up m 65 y1.toNatClampNeg y4)) (fun r1 => if r1.1 = 0 then (z_lp z_SH L xs C me_X10_bearings F 22 [some (.ref 59), some (.int y1), some (.int y2), some (.int (y3 ||| 0)), some (.int (y4 + 1))] [] r1.2.2) else (z_lp z_SH L xs C me_X10_bearings F 22 [some (.ref 59), some (.int y1), some (.int y2), some (.int (y3 ||| ((1 : Int32) <<< (y4 &&& 31)))), some (.int (y4 + 1))] [] r1.2.2)))) := rfl
set_option maxRecDepth 100000 in
theorem e_X10_kinds_0 (L : Nat) (xs : Nat → Int32) (C : Nat → List Value → z_M → Option z_R) (F : Nat) (x1 : Int32) (m : z_M) : z_lp z_SH L xs C me_X10_kinds (F + 1) 0 [some (.ref 59), some (.int x1), none, none, none] [] m = Option.bind (C 113 [.ref 59, .int x1] m) (fun r1 => if r1.1 = 0 then (some ((-1), 0, r1.2.2)) else (z_g (z_in 6 x1) (z_lp z_SH L xs C me_X10_kinds F 22 [some (.ref 59), some (.int x1), some (.int (r1.2.2 64 x1.toNatClampNeg)), some (.int 0), some (.int 0)] [] r1.2.2))) := rfl
set_option maxRecDepth 100000 in
theorem e_X10_kinds_22 (L : Nat) (xs : Nat → Int32) (C : Nat → List Value → z_M → Option z_R) (F : Nat) (y1 : Int32) (y2 : Int32) (y3 : Int32) (y4 : Int32) (m : z_M) : z_lp z_SH L xs C me_X10_kinds (F + 1) 22 [some (.ref 59), some (.int y1), some (.int y2), some (.int y3), some (.int y4)] [] m = if 3 ≤ y4 then (z_g (z_in 6 y1) (some (y3, 0, z_up m 64 y1.toNatClampNeg y2))) else (z_g (z_in 6 y1) (Option.bind (C 158 [.ref 59] (z_up m 64 y1.toNatClampNeg y4)) (fun r1 => if r1.1 = 0 then (z_lp z_SH L xs C me_X10_kinds F 22 [some (.ref 59), some (.int y1), some (.int y2), some (.int (y3 ||| 0)), some (.int (y4 + 1))] [] r1.2.2) else (z_lp z_SH L xs C me_X10_kinds F 22 [some (.ref 59), some (.int y1), some (.int y2), some (.int (y3 ||| ((1 : Int32) <<< (y4 &&& 31)))), some (.int (y4 + 1))] [] r1.2.2)))) := rfl
set_option maxRecDepth 100000 in
theorem e_X10_hintings_0 (L : Nat) (xs : Nat → Int32) (C : Nat → List Value → z_M → Option z_R) (F : Nat) (x1 : Int32) (m : z_M) : z_lp z_SH L xs C me_X10_hintings (F + 1) 0 [some (.ref 59), some (.int x1), none, none, none] [] m = Option.bind (C 112 [.ref 59, .int x1] m) (fun r1 => if r1.1 = 0 then (some ((-1), 0, r1.2.2)) else (z_g (z_in 5 x1) (z_lp z_SH L xs C me_X10_hintings F 22 [some (.ref 59), some (.int x1), some (.int (r1.2.2 63 x1.toNatClampNeg)), some (.int 0), some (.int 1)] [] r1.2.2))) := rfl
set_option maxRecDepth 100000 in
theorem e_X10_hintings_22 (L : Nat) (xs : Nat → Int32) (C : Nat → List Value → z_M → Option z_R) (F : Nat) (y1 : Int32) (y2 : Int32) (y3 : Int32) (y4 : Int32) (m : z_M) : z_lp z_SH L xs C me_X10_hintings (F + 1) 22 [some (.ref 59), some (.int y1), some (.int y2), some (.int y3), some (.int y4)] [] m = if 9 < y4 then (z_g (z_in 5 y1) (some (y3, 0, z_up m 63 y1.toNatClampNeg y2))) else (z_g (z_in 5 y1) (Option.bind (C 158 [.ref 59] (z_up m 63 y1.toNatClampNeg y4)) (fun r1 => if r1.1 = 0 then (z_lp z_SH L xs C me_X10_hintings F 22 [some (.ref 59), some (.int y1), some (.int y2), some (.int (y3 ||| 0)), some (.int (y4 + 1))] [] r1.2.2) else (z_lp z_SH L xs C me_X10_hintings F 22 [some (.ref 59), some (.int y1), some (.int y2), some (.int (y3 ||| ((1 : Int32) <<< (y4 &&& 31)))), some (.int (y4 + 1))] [] r1.2.2)))) := rfl
set_option maxRecDepth 100000 in
theorem e_X10_inLeastTerms_0 (L : Nat) (xs : Nat → Int32) (C : Nat → List Value → z_M → Option z_R) (F : Nat) (x1 : Int64) (x2 : Int64) (x3 : Int32) (m : z_M) : z_lp z_SH L xs C me_X10_inLeastTerms (F + 1) 0 [some (.long x1), none, some (.long x2), none, some (.int x3), none, none, none, none, none, none] [] m = z_lp z_SH L xs C me_X10_inLeastTerms F 6 [some (.long x1), none, some (.long x2), none, some (.int x3), some (.long x1), none, some (.long x2), none, none, none] [] m := rfl
set_option maxRecDepth 100000 in
theorem e_X10_inLeastTerms_6 (L : Nat) (xs : Nat → Int32) (C : Nat → List Value → z_M → Option z_R) (F : Nat) (y0 : Int64) (y2 : Int64) (y4 : Int32) (y5 : Int64) (y7 : Int64) (m : z_M) : z_lp z_SH L xs C me_X10_inLeastTerms (F + 1) 6 [some (.long y0), none, some (.long y2), none, some (.int y4), some (.long y5), none, some (.long y7), none, none, none] [] m = if (lg_cmp y7 0) = 0 then (if y4 = 0 then (z_g (decide (¬ y5 = 0)) (some (0, y0 / y5, m))) else (z_g (decide (¬ y5 = 0)) (some (0, y2 / y5, m)))) else (z_g (decide (¬ y7 = 0)) (z_lp z_SH L xs C me_X10_inLeastTerms F 6 [some (.long y0), none, some (.long y2), none, some (.int y4), some (.long y7), none, some (.long (y5 - y5 / y7 * y7)), none, none, none] [] m)) := rfl
set_option maxRecDepth 100000 in
theorem e_X10_odds_0 (L : Nat) (xs : Nat → Int32) (C : Nat → List Value → z_M → Option z_R) (F : Nat) (x1 : Int32) (x2 : Int32) (m : z_M) : z_lp z_SH L xs C me_X10_odds (F + 1) 0 [some (.ref 59), some (.int x1), some (.int x2), none, none] [] m = Option.bind (C 113 [.ref 59, .int x1] m) (fun r1 => if r1.1 = 0 then (some (0, z_lost, r1.2.2)) else (Option.bind (C 108 [.int x2, .int 0, .int 1] r1.2.2) (fun r2 => if r2.1 = 0 then (some (0, z_lost, r2.2.2)) else (z_lp z_SH L xs C me_X10_odds F 26 [some (.ref 59), some (.int x1), some (.int x2), some (.int 0), some (.int 0)] [] r2.2.2)))) := rfl
set_option maxRecDepth 100000 in
theorem e_X10_odds_26 (L : Nat) (xs : Nat → Int32) (C : Nat → List Value → z_M → Option z_R) (F : Nat) (y1 : Int32) (y2 : Int32) (y3 : Int32) (y4 : Int32) (m : z_M) : z_lp z_SH L xs C me_X10_odds (F + 1) 26 [some (.ref 59), some (.int y1), some (.int y2), some (.int y3), some (.int y4)] [] m = if (m 59 5) ≤ y4 then (Option.bind (C 162 [.long y3.toInt64, .long ((m 59 5).toInt64), .int y2] m) (fun r1 => some (0, r1.2.1, r1.2.2))) else (Option.bind (C 124 [.ref 59, .int y4, .int y1] m) (fun r2 => z_g (z_in 6 y1) (if r2.1 ≤ (r2.2.2 65 y1.toNatClampNeg) then (z_lp z_SH L xs C me_X10_odds F 26 [some (.ref 59), some (.int y1), some (.int y2), some (.int (y3 + 1)), some (.int (y4 + 1))] [] r2.2.2) else (z_lp z_SH L xs C me_X10_odds F 26 [some (.ref 59), some (.int y1), some (.int y2), some (.int (y3 + 0)), some (.int (y4 + 1))] [] r2.2.2)))) := rfl
set_option maxRecDepth 100000 in
theorem e_X10_sheet_0 (L : Nat) (xs : Nat → Int32) (C : Nat → List Value → z_M → Option z_R) (F : Nat) (x1 : Int32) (x2 : Int32) (x3 : Int32) (m : z_M) : z_lp z_SH L xs C me_X10_sheet (F + 1) 0 [some (.ref 59), some (.int x1), some (.int x2), some (.int x3), none] [] m = Option.bind (C 109 [.int x1] (z_up m 59 0 0)) (fun r1 => if r1.1 = 0 then (some ((-1), 0, r1.2.2)) else (Option.bind (C 110 [.int x2] r1.2.2) (fun r2 => if r2.1 = 0 then (some ((-2), 0, r2.2.2)) else (if x3 ≤ 60 then (if 0 ≤ x3 then (z_g (z_in 4 x1) (z_g (z_in 4 x1) (z_lp z_SH L xs C me_X10_sheet F 57 [some (.ref 59), some (.int x1), none, none, some (.int 0)] [] (z_up (z_up r2.2.2 60 x1.toNatClampNeg x2) 61 x1.toNatClampNeg x3)))) else (Option.bind (C 106 [.ref 59, .int 4] r2.2.2) (fun r3 => some (r3.1, 0, r3.2.2)))) else (some ((-2), 0, r2.2.2)))))) := rfl
set_option maxRecDepth 100000 in
theorem e_X10_sheet_57 (L : Nat) (xs : Nat → Int32) (C : Nat → List Value → z_M → Option z_R) (F : Nat) (y1 : Int32) (y4 : Int32) (m : z_M) : z_lp z_SH L xs C me_X10_sheet (F + 1) 57 [some (.ref 59), some (.int y1), none, none, some (.int y4)] [] m = if 60 ≤ y4 then (some (1, 0, m)) else (z_g (z_in 240 ((60 * y1) + y4)) (z_lp z_SH L xs C me_X10_sheet F 57 [some (.ref 59), some (.int y1), none, none, some (.int (y4 + 1))] [] (z_up m 62 ((60 * y1) + y4).toNatClampNeg 0))) := rfl
set_option maxRecDepth 100000 in
theorem e_X10_lose_0 (L : Nat) (xs : Nat → Int32) (C : Nat → List Value → z_M → Option z_R) (F : Nat) (x1 : Int32) (m : z_M) : z_lp z_SH L xs C me_X10_lose (F + 1) 0 [some (.ref 59), some (.int x1), none] [] m = Option.bind (C 109 [.int x1] m) (fun r1 => if r1.1 = 0 then (some ((-1), 0, r1.2.2)) else (z_g (z_in 4 x1) (if (r1.2.2 60 x1.toNatClampNeg) = (-9) then (z_g (z_in 4 x1) (some (0, 0, z_up r1.2.2 60 x1.toNatClampNeg (-9)))) else (z_g (z_in 4 x1) (some (1, 0, z_up r1.2.2 60 x1.toNatClampNeg (-9))))))) := rfl
set_option maxRecDepth 100000 in
theorem e_X10_put_0 (L : Nat) (xs : Nat → Int32) (C : Nat → List Value → z_M → Option z_R) (F : Nat) (x1 : Int32) (x2 : Int32) (x3 : Int32) (m : z_M) : z_lp z_SH L xs C me_X10_put (F + 1) 0 [some (.ref 59), some (.int x1), some (.int x2), some (.int x3)] [] m = Option.bind (C 109 [.int x1] (z_up m 59 0 0)) (fun r1 => if r1.1 = 0 then (some ((-1), 0, r1.2.2)) else (z_g (z_in 4 x1) (if (r1.2.2 60 x1.toNatClampNeg) = (-9) then (Option.bind (C 106 [.ref 59, .int 1] r1.2.2) (fun r2 => some (r2.1, 0, r2.2.2))) else (z_g (z_in 4 x1) (Option.bind (C 108 [.int x2, .int 0, .int ((r1.2.2 61 x1.toNatClampNeg) - 1)] r1.2.2) (fun r3 => if r3.1 = 0 then (Option.bind (C 106 [.ref 59, .int 3] r3.2.2) (fun r4 => some (r4.1, 0, r4.2.2))) else (z_g (z_in 4 x1) (if (r3.2.2 60 x1.toNatClampNeg) = 0 then (z_g (z_in 240 ((60 * x1) + x2)) (some (1, 0, z_up r3.2.2 62 ((60 * x1) + x2).toNatClampNeg x3.toInt8.toInt32))) else (z_g (z_in 4 x1) (if (r3.2.2 60 x1.toNatClampNeg) = 1 then (z_g (z_in 240 ((60 * x1) + x2)) (some (1, 0, z_up r3.2.2 62 ((60 * x1) + x2).toNatClampNeg x3.toInt16.toInt32))) else (z_g (z_in 240 ((60 * x1) + x2)) (some (1, 0, z_up r3.2.2 62 ((60 * x1) + x2).toNatClampNeg x3))))))))))))) := rfl
set_option maxRecDepth 100000 in
theorem e_X10_cell_0 (L : Nat) (xs : Nat → Int32) (C : Nat → List Value → z_M → Option z_R) (F : Nat) (x1 : Int32) (x2 : Int32) (x3 : Int32) (m : z_M) : z_lp z_SH L xs C me_X10_cell (F + 1) 0 [some (.ref 59), some (.int x1), some (.int x2), some (.int x3)] [] m = Option.bind (C 109 [.int x1] (z_up m 59 0 0)) (fun r1 => if r1.1 = 0 then (some (0, z_lost, r1.2.2)) else (Option.bind (C 110 [.int x3] r1.2.2) (fun r2 => if r2.1 = 0 then (some (0, z_lost, r2.2.2)) else (z_g (z_in 4 x1) (if (r2.2.2 60 x1.toNatClampNeg) = (-9) then (z_g (z_in 4 x1) (if (r2.2.2 60 x1.toNatClampNeg) = (-9) then (Option.bind (C 107 [.ref 59, .int 1] r2.2.2) (fun r3 => some (0, r3.2.1, r3.2.2))) else (z_g (z_in 4 x1) (Option.bind (C 108 [.int x2, .int 0, .int ((r2.2.2 61 x1.toNatClampNeg) - 1)] r2.2.2) (fun r4 => if r4.1 = 0 then (Option.bind (C 107 [.ref 59, .int 3] r4.2.2) (fun r5 => some (0, r5.2.1, r5.2.2))) else (z_g (z_in 240 ((60 * x1) + x2)) (some (0, (r4.2.2 62 ((60 * x1) + x2).toNatClampNeg).toInt64, r4.2.2)))))))) else (z_g (z_in 4 x1) (if (r2.2.2 60 x1.toNatClampNeg) = x3 then (z_g (z_in 4 x1) (if (r2.2.2 60 x1.toNatClampNeg) = (-9) then (Option.bind (C 107 [.ref 59, .int 1] r2.2.2) (fun r6 => some (0, r6.2.1, r6.2.2))) else (z_g (z_in 4 x1) (Option.bind (C 108 [.int x2, .int 0, .int ((r2.2.2 61 x1.toNatClampNeg) - 1)] r2.2.2) (fun r7 => if r7.1 = 0 then (Option.bind (C 107 [.ref 59, .int 3] r7.2.2) (fun r8 => some (0, r8.2.1, r8.2.2))) else (z_g (z_in 240 ((60 * x1) + x2)) (some (0, (r7.2.2 62 ((60 * x1) + x2).toNatClampNeg).toInt64, r7.2.2)))))))) else (Option.bind (C 107 [.ref 59, .int 2] r2.2.2) (fun r9 => some (0, r9.2.1, r9.2.2)))))))))) := rfl
set_option maxRecDepth 100000 in
theorem e_X10_copy_0 (L : Nat) (xs : Nat → Int32) (C : Nat → List Value → z_M → Option z_R) (F : Nat) (x1 : Int32) (x2 : Int32) (x3 : Int32) (x4 : Int32) (x5 : Int32) (m : z_M) : z_lp z_SH L xs C me_X10_copy (F + 1) 0 [some (.ref 59), some (.int x1), some (.int x2), some (.int x3), some (.int x4), some (.int x5), none, none, none, none] [] m = Option.bind (C 109 [.int x1] (z_up m 59 0 0)) (fun r1 => if r1.1 = 0 then (some ((-1), 0, r1.2.2)) else (Option.bind (C 109 [.int x3] r1.2.2) (fun r2 => if r2.1 = 0 then (some ((-1), 0, r2.2.2)) else (z_g (z_in 4 x1) (if (r2.2.2 60 x1.toNatClampNeg) = (-9) then (Option.bind (C 106 [.ref 59, .int 1] r2.2.2) (fun r3 => some (r3.1, 0, r3.2.2))) else (z_g (z_in 4 x3) (if (r2.2.2 60 x3.toNatClampNeg) = (-9) then (Option.bind (C 106 [.ref 59, .int 1] r2.2.2) (fun r4 => some (r4.1, 0, r4.2.2))) else (z_g (z_in 4 x1) (z_g (z_in 4 x3) (if (r2.2.2 60 x1.toNatClampNeg) = (r2.2.2 60 x3.toNatClampNeg) then (if x2 < 0 then (z_lp z_SH L xs C me_X10_copy F 110 [some (.ref 59), some (.int x1), some (.int x2), some (.int x3), some (.int x4), some (.int x5), none, none, none, none] [.int 0] r2.2.2) else (if x4 < 0 then (z_lp z_SH L xs C me_X10_copy F 110 [some (.ref 59), some (.int x1), some (.int x2), some (.int x3), some (.int x4), some (.int x5), none, none, none, none] [.int 0] r2.2.2) else (if x5 < 0 then (z_lp z_SH L xs C me_X10_copy F 110 [some (.ref 59), some (.int x1), some (.int x2), some (.int x3), some (.int x4), some (.int x5), none, none, none, none] [.int 0] r2.2.2) else (z_g (z_in 4 x1) (if (r2.2.2 61 x1.toNatClampNeg) < x2 then (z_lp z_SH L xs C me_X10_copy F 110 [some (.ref 59), some (.int x1), some (.int x2), some (.int x3), some (.int x4), some (.int x5), none, none, none, none] [.int 0] r2.2.2) else (z_g (z_in 4 x3) (if (r2.2.2 61 x3.toNatClampNeg) < x4 then (z_lp z_SH L xs C me_X10_copy F 110 [some (.ref 59), some (.int x1), some (.int x2), some (.int x3), some (.int x4), some (.int x5), none, none, none, none] [.int 0] r2.2.2) else (z_lp z_SH L xs C me_X10_copy F 110 [some (.ref 59), some (.int x1), some (.int x2), some (.int x3), some (.int x4), some (.int x5), none, none, none, none] [.int 1] r2.2.2)))))))) else (Option.bind (C 106 [.ref 59, .int 2] r2.2.2) (fun r5 => some (r5.1, 0, r5.2.2))))))))))))) := rfl
set_option maxRecDepth 100000 in
theorem e_X10_copy_110 (L : Nat) (xs : Nat → Int32) (C : Nat → List Value → z_M → Option z_R) (F : Nat) (y1 : Int32) (y2 : Int32) (y3 : Int32) (y4 : Int32) (y5 : Int32) (t0 : Int32) (m : z_M) : z_lp z_SH L xs C me_X10_copy (F + 1) 110 [some (.ref 59), some (.int y1), some (.int y2), some (.int y3), some (.int y4), some (.int y5), none, none, none, none] [.int t0] m = if t0 = 0 then (Option.bind (C 106 [.ref 59, .int 3] m) (fun r1 => some (r1.1, 0, r1.2.2))) else (z_g (z_in 4 y1) (if ((m 61 y1.toNatClampNeg) - y2) < y5 then (Option.bind (C 106 [.ref 59, .int 3] m) (fun r2 => some (r2.1, 0, r2.2.2))) else (z_g (z_in 4 y3) (if y5 ≤ ((m 61 y3.toNatClampNeg) - y4) then (if y4 ≤ y2 then (z_lp z_SH L xs C me_X10_copy F 166 [some (.ref 59), some (.int y1), some (.int y2), some (.int y3), some (.int y4), some (.int y5), none, some (.int 0), some (.int 0), none] [] m) else (z_lp z_SH L xs C me_X10_copy F 166 [some (.ref 59), some (.int y1), some (.int y2), some (.int y3), some (.int y4), some (.int y5), none, some (.int 1), some (.int 0), none] [] m)) else (Option.bind (C 106 [.ref 59, .int 3] m) (fun r3 => some (r3.1, 0, r3.2.2))))))) := rfl
set_option maxRecDepth 100000 in
theorem e_X10_copy_166 (L : Nat) (xs : Nat → Int32) (C : Nat → List Value → z_M → Option z_R) (F : Nat) (y1 : Int32) (y2 : Int32) (y3 : Int32) (y4 : Int32) (y5 : Int32) (y7 : Int32) (y8 : Int32) (m : z_M) : z_lp z_SH L xs C me_X10_copy (F + 1) 166 [some (.ref 59), some (.int y1), some (.int y2), some (.int y3), some (.int y4), some (.int y5), none, some (.int y7), some (.int y8), none] [] m = if y5 ≤ y8 then (some (y5, 0, m)) else (if y7 = 0 then (z_g (z_in 240 (((60 * y1) + y2) + y8)) (z_g (z_in 240 (((60 * y3) + y4) + y8)) (z_lp z_SH L xs C me_X10_copy F 166 [some (.ref 59), some (.int y1), some (.int y2), some (.int y3), some (.int y4), some (.int y5), none, some (.int y7), some (.int (y8 + 1)), none] [] (z_up m 62 (((60 * y3) + y4) + y8).toNatClampNeg (m 62 (((60 * y1) + y2) + y8).toNatClampNeg))))) else (z_g (z_in 240 (((60 * y1) + y2) + ((y5 - 1) - y8))) (z_g (z_in 240 (((60 * y3) + y4) + ((y5 - 1) - y8))) (z_lp z_SH L xs C me_X10_copy F 166 [some (.ref 59), some (.int y1), some (.int y2), some (.int y3), some (.int y4), some (.int y5), none, some (.int y7), some (.int (y8 + 1)), none] [] (z_up m 62 (((60 * y3) + y4) + ((y5 - 1) - y8)).toNatClampNeg (m 62 (((60 * y1) + y2) + ((y5 - 1) - y8)).toNatClampNeg)))))) := rfl
set_option maxRecDepth 100000 in
theorem e_X10_begins_0 (L : Nat) (xs : Nat → Int32) (C : Nat → List Value → z_M → Option z_R) (F : Nat) (x1 : Int32) (m : z_M) : z_lp z_SH L xs C me_X10_begins (F + 1) 0 [some (.ref 59), some (.int x1)] [] m = some (0, 0, z_up m 59 1 ((31 * (m 59 1)) + x1)) := rfl
set_option maxRecDepth 100000 in
theorem e_X10_tell_0 (L : Nat) (xs : Nat → Int32) (C : Nat → List Value → z_M → Option z_R) (F : Nat) (x1 : Int32) (m : z_M) : z_lp z_SH L xs C me_X10_tell (F + 1) 0 [some (.ref 59), some (.int x1), none] [] m = Option.bind (C 113 [.ref 59, .int x1] m) (fun r1 => if r1.1 = 0 then (some ((-1), 0, r1.2.2)) else (z_g (z_in 6 x1) (z_g (z_in 6 x1) (if (r1.2.2 64 x1.toNatClampNeg) = nI 1 then (Option.bind (C 169 [.ref 59, .int 2] r1.2.2) (fun r2 => Option.bind (C 169 [.ref 59, .int 1] r2.2.2) (fun r3 => some ((r1.2.2 65 x1.toNatClampNeg) + 100, 0, r3.2.2)))) else if (r1.2.2 64 x1.toNatClampNeg) = nI 2 then (Option.bind (C 169 [.ref 59, .int 3] r1.2.2) (fun r4 => Option.bind (C 169 [.ref 59, .int 2] r4.2.2) (fun r5 => Option.bind (C 169 [.ref 59, .int 1] r5.2.2) (fun r6 => Option.bind (C 169 [.ref 59, .int 1] r6.2.2) (fun r7 => some ((2 * (r1.2.2 65 x1.toNatClampNeg)) + 100, 0, r7.2.2)))))) else (Option.bind (C 169 [.ref 59, .int 1] r1.2.2) (fun r8 => some (r1.2.2 65 x1.toNatClampNeg, 0, r8.2.2))))))) := rfl
set_option maxRecDepth 100000 in
theorem e_X10_bow_0 (L : Nat) (xs : Nat → Int32) (C : Nat → List Value → z_M → Option z_R) (F : Nat) (x1 : Int32) (m : z_M) : z_lp z_SH L xs C me_X10_bow (F + 1) 0 [some (.ref 59), some (.int x1)] [] m = Option.bind (C 113 [.ref 59, .int x1] m) (fun r1 => if r1.1 = 0 then (some ((-1), 0, r1.2.2)) else (z_g (z_in 6 x1) (if (r1.2.2 64 x1.toNatClampNeg) = 2 then (Option.bind (C 169 [.ref 59, .int 5] r1.2.2) (fun r2 => z_g (z_in 6 x1) (if (r2.2.2 64 x1.toNatClampNeg) = 2 then (some (70, 0, r2.2.2)) else (z_g (z_in 6 x1) (some (r2.2.2 67 x1.toNatClampNeg, 0, r2.2.2)))))) else (Option.bind (C 169 [.ref 59, .int 4] r1.2.2) (fun r3 => z_g (z_in 6 x1) (if (r3.2.2 64 x1.toNatClampNeg) = 2 then (some (70, 0, r3.2.2)) else (z_g (z_in 6 x1) (some (r3.2.2 67 x1.toNatClampNeg, 0, r3.2.2))))))))) := rfl
set_option maxRecDepth 100000 in
theorem e_X10_as_0 (L : Nat) (xs : Nat → Int32) (C : Nat → List Value → z_M → Option z_R) (F : Nat) (x1 : Int32) (x2 : Int32) (m : z_M) : z_lp z_SH L xs C me_X10_as (F + 1) 0 [some (.ref 59), some (.int x1), some (.int x2)] [] m = Option.bind (C 113 [.ref 59, .int x1] (z_up m 59 0 0)) (fun r1 => if r1.1 = 0 then (some ((-1), 0, r1.2.2)) else (Option.bind (C 108 [.int x2, .int 0, .int 2] r1.2.2) (fun r2 => if r2.1 = 0 then (some ((-2), 0, r2.2.2)) else (z_g (z_in 6 x1) (if (r2.2.2 64 x1.toNatClampNeg) < x2 then (Option.bind (C 106 [.ref 59, .int 2] r2.2.2) (fun r3 => some (r3.1, 0, r3.2.2))) else (some (1, 0, r2.2.2))))))) := rfl
set_option maxRecDepth 100000 in
theorem e_X10_trace_0 (L : Nat) (xs : Nat → Int32) (C : Nat → List Value → z_M → Option z_R) (F : Nat) (m : z_M) : z_lp z_SH L xs C me_X10_trace (F + 1) 0 [some (.ref 59)] [] m = some (m 59 1, 0, m) := rfl
set_option maxRecDepth 100000 in
theorem e_X10_fault_0 (L : Nat) (xs : Nat → Int32) (C : Nat → List Value → z_M → Option z_R) (F : Nat) (m : z_M) : z_lp z_SH L xs C me_X10_fault (F + 1) 0 [some (.ref 59)] [] m = some (m 59 0, 0, m) := rfl
set_option maxRecDepth 100000 in
theorem e_X10_many_0 (L : Nat) (xs : Nat → Int32) (C : Nat → List Value → z_M → Option z_R) (F : Nat) (x1 : Int32) (m : z_M) : z_lp z_SH L xs C me_X10_many (F + 1) 0 [some (.ref 59), some (.int x1)] [] m = if x1 = nI 0 then (some (m 59 6, 0, m)) else if x1 = nI 1 then (some (m 59 5, 0, m)) else if x1 = nI 2 then (some (m 59 7, 0, m)) else if x1 = nI 3 then (Option.bind (C 116 [.int (m 59 8)] m) (fun r1 => some (r1.1, 0, r1.2.2))) else if x1 = nI 4 then (some (m 59 33, 0, m)) else (some ((-2), 0, m)) := rfl
set_option maxRecDepth 100000 in
theorem e_Integer_bitCount_0 (L : Nat) (xs : Nat → Int32) (C : Nat → List Value → z_M → Option z_R) (F : Nat) (x1 : Int32) (m : z_M) : z_lp z_SH L xs C me_Integer_bitCount (F + 1) 0 [some (.int x1)] [] m = some ((((((((x1 - (((x1.toUInt32 >>> ((1 : Int32).toUInt32 &&& Int32.toUInt32 31)).toInt32) &&& (1431655765 : Int32))) &&& (858993459 : Int32)) + ((((x1 - (((x1.toUInt32 >>> ((1 : Int32).toUInt32 &&& Int32.toUInt32 31)).toInt32) &&& (1431655765 : Int32))).toUInt32 >>> ((2 : Int32).toUInt32 &&& Int32.toUInt32 31)).toInt32) &&& (858993459 : Int32))) + (((((x1 - (((x1.toUInt32 >>> ((1 : Int32).toUInt32 &&& Int32.toUInt32 31)).toInt32) &&& (1431655765 : Int32))) &&& (858993459 : Int32)) + ((((x1 - (((x1.toUInt32 >>> ((1 : Int32).toUInt32 &&& Int32.toUInt32 31)).toInt32) &&& (1431655765 : Int32))).toUInt32 >>> ((2 : Int32).toUInt32 &&& Int32.toUInt32 31)).toInt32) &&& (858993459 : Int32))).toUInt32 >>> ((4 : Int32).toUInt32 &&& Int32.toUInt32 31)).toInt32)) &&& (252645135 : Int32)) + (((((((x1 - (((x1.toUInt32 >>> ((1 : Int32).toUInt32 &&& Int32.toUInt32 31)).toInt32) &&& (1431655765 : Int32))) &&& (858993459 : Int32)) + ((((x1 - (((x1.toUInt32 >>> ((1 : Int32).toUInt32 &&& Int32.toUInt32 31)).toInt32) &&& (1431655765 : Int32))).toUInt32 >>> ((2 : Int32).toUInt32 &&& Int32.toUInt32 31)).toInt32) &&& (858993459 : Int32))) + (((((x1 - (((x1.toUInt32 >>> ((1 : Int32).toUInt32 &&& Int32.toUInt32 31)).toInt32) &&& (1431655765 : Int32))) &&& (858993459 : Int32)) + ((((x1 - (((x1.toUInt32 >>> ((1 : Int32).toUInt32 &&& Int32.toUInt32 31)).toInt32) &&& (1431655765 : Int32))).toUInt32 >>> ((2 : Int32).toUInt32 &&& Int32.toUInt32 31)).toInt32) &&& (858993459 : Int32))).toUInt32 >>> ((4 : Int32).toUInt32 &&& Int32.toUInt32 31)).toInt32)) &&& (252645135 : Int32)).toUInt32 >>> ((8 : Int32).toUInt32 &&& Int32.toUInt32 31)).toInt32)) + ((((((((x1 - (((x1.toUInt32 >>> ((1 : Int32).toUInt32 &&& Int32.toUInt32 31)).toInt32) &&& (1431655765 : Int32))) &&& (858993459 : Int32)) + ((((x1 - (((x1.toUInt32 >>> ((1 : Int32).toUInt32 &&& Int32.toUInt32 31)).toInt32) &&& (1431655765 : Int32))).toUInt32 >>> ((2 : Int32).toUInt32 &&& Int32.toUInt32 31)).toInt32) &&& (858993459 : Int32))) + (((((x1 - (((x1.toUInt32 >>> ((1 : Int32).toUInt32 &&& Int32.toUInt32 31)).toInt32) &&& (1431655765 : Int32))) &&& (858993459 : Int32)) + ((((x1 - (((x1.toUInt32 >>> ((1 : Int32).toUInt32 &&& Int32.toUInt32 31)).toInt32) &&& (1431655765 : Int32))).toUInt32 >>> ((2 : Int32).toUInt32 &&& Int32.toUInt32 31)).toInt32) &&& (858993459 : Int32))).toUInt32 >>> ((4 : Int32).toUInt32 &&& Int32.toUInt32 31)).toInt32)) &&& (252645135 : Int32)) + (((((((x1 - (((x1.toUInt32 >>> ((1 : Int32).toUInt32 &&& Int32.toUInt32 31)).toInt32) &&& (1431655765 : Int32))) &&& (858993459 : Int32)) + ((((x1 - (((x1.toUInt32 >>> ((1 : Int32).toUInt32 &&& Int32.toUInt32 31)).toInt32) &&& (1431655765 : Int32))).toUInt32 >>> ((2 : Int32).toUInt32 &&& Int32.toUInt32 31)).toInt32) &&& (858993459 : Int32))) + (((((x1 - (((x1.toUInt32 >>> ((1 : Int32).toUInt32 &&& Int32.toUInt32 31)).toInt32) &&& (1431655765 : Int32))) &&& (858993459 : Int32)) + ((((x1 - (((x1.toUInt32 >>> ((1 : Int32).toUInt32 &&& Int32.toUInt32 31)).toInt32) &&& (1431655765 : Int32))).toUInt32 >>> ((2 : Int32).toUInt32 &&& Int32.toUInt32 31)).toInt32) &&& (858993459 : Int32))).toUInt32 >>> ((4 : Int32).toUInt32 &&& Int32.toUInt32 31)).toInt32)) &&& (252645135 : Int32)).toUInt32 >>> ((8 : Int32).toUInt32 &&& Int32.toUInt32 31)).toInt32)).toUInt32 >>> ((16 : Int32).toUInt32 &&& Int32.toUInt32 31)).toInt32)) &&& (63 : Int32), 0, m) := rfl
set_option maxRecDepth 100000 in
theorem e_L_law_18 (L : Nat) (xs : Nat → Int32) (C : Nat → List Value → z_M → Option z_R) (F : Nat) (y3 : Int32) (m : z_M) : z_lp z_SH L xs C me_L_law (F + 1) 18 [some (.ref 1000), some (.ref 0), some (.ref 59), some (.int y3)] [] m = if ((nI L) - 6) < y3 then (some (1, 0, m)) else (z_g (z_in L y3) (if ((xs y3.toNatClampNeg) &&& 31) = nI 0 then (z_g (z_in L (y3 + 1)) (z_g (z_in L (y3 + 2)) (z_g (z_in L (y3 + 3)) (z_g (z_in L (y3 + 4)) (Option.bind (C 62 [.ref 0, .int (xs (y3 + 1).toNatClampNeg), .int (xs (y3 + 2).toNatClampNeg), .int (xs (y3 + 3).toNatClampNeg), .int (xs (y3 + 4).toNatClampNeg)] m) (fun r1 => z_g (z_in L (y3 + 1)) (z_g (z_in L (y3 + 2)) (z_g (z_in L (y3 + 3)) (z_g (z_in L (y3 + 4)) (Option.bind (C 119 [.ref 59, .int (xs (y3 + 1).toNatClampNeg), .int (xs (y3 + 2).toNatClampNeg), .int (xs (y3 + 3).toNatClampNeg), .int (xs (y3 + 4).toNatClampNeg)] r1.2.2) (fun r2 => if r1.1 = r2.1 then (z_lp z_SH L xs C me_L_law F 18 [some (.ref 1000), some (.ref 0), some (.ref 59), some (.int (y3 + 6))] [] r2.2.2) else (some (0, 0, r2.2.2))))))))))))) else if ((xs y3.toNatClampNeg) &&& 31) = nI 1 then (z_g (z_in L (y3 + 1)) (z_g (z_in L (y3 + 2)) (Option.bind (C 63 [.ref 0, .int (xs (y3 + 1).toNatClampNeg), .int (xs (y3 + 2).toNatClampNeg)] m) (fun r3 => z_g (z_in L (y3 + 1)) (z_g (z_in L (y3 + 2)) (Option.bind (C 125 [.ref 59, .int (xs (y3 + 1).toNatClampNeg), .int (xs (y3 + 2).toNatClampNeg)] r3.2.2) (fun r4 => if r3.1 = r4.1 then (z_lp z_SH L xs C me_L_law F 18 [some (.ref 1000), some (.ref 0), some (.ref 59), some (.int (y3 + 6))] [] r4.2.2) else (some (0, 0, r4.2.2))))))))) else if ((xs y3.toNatClampNeg) &&& 31) = nI 2 then (z_g (z_in L (y3 + 1)) (Option.bind (C 64 [.ref 0, .int (xs (y3 + 1).toNatClampNeg)] m) (fun r5 => z_g (z_in L (y3 + 1)) (Option.bind (C 126 [.ref 59, .int (xs (y3 + 1).toNatClampNeg)] r5.2.2) (fun r6 => if r5.1 = r6.1 then (z_lp z_SH L xs C me_L_law F 18 [some (.ref 1000), some (.ref 0), some (.ref 59), some (.int (y3 + 6))] [] r6.2.2) else (some (0, 0, r6.2.2))))))) else if ((xs y3.toNatClampNeg) &&& 31) = nI 3 then (z_g (z_in L (y3 + 1)) (z_g (z_in L (y3 + 2)) (Option.bind (C 65 [.ref 0, .int (xs (y3 + 1).toNatClampNeg), .int (xs (y3 + 2).toNatClampNeg)] m) (fun r7 => z_g (z_in L (y3 + 1)) (z_g (z_in L (y3 + 2)) (Option.bind (C 127 [.ref 59, .int (xs (y3 + 1).toNatClampNeg), .int (xs (y3 + 2).toNatClampNeg)] r7.2.2) (fun r8 => if r7.1 = r8.1 then (z_lp z_SH L xs C me_L_law F 18 [some (.ref 1000), some (.ref 0), some (.ref 59), some (.int (y3 + 6))] [] r8.2.2) else (some (0, 0, r8.2.2))))))))) else if ((xs y3.toNatClampNeg) &&& 31) = nI 4 then (z_g (z_in L (y3 + 1)) (z_g (z_in L (y3 + 2)) (Option.bind (C 66 [.ref 0, .int (xs (y3 + 1).toNatClampNeg), .int (xs (y3 + 2).toNatClampNeg)] m) (fun r9 => z_g (z_in L (y3 + 1)) (z_g (z_in L (y3 + 2)) (Option.bind (C 128 [.ref 59, .int (xs (y3 + 1).toNatClampNeg), .int (xs (y3 + 2).toNatClampNeg)] r9.2.2) (fun r10 => if r9.1 = r10.1 then (z_lp z_SH L xs C me_L_law F 18 [some (.ref 1000), some (.ref 0), some (.ref 59), some (.int (y3 + 6))] [] r10.2.2) else (some (0, 0, r10.2.2))))))))) else if ((xs y3.toNatClampNeg) &&& 31) = nI 5 then (z_g (z_in L (y3 + 1)) (z_g (z_in L (y3 + 2)) (Option.bind (C 67 [.ref 0, .int (xs (y3 + 1).toNatClampNeg), .int (xs (y3 + 2).toNatClampNeg)] m) (fun r11 => z_g (z_in L (y3 + 1)) (z_g (z_in L (y3 + 2)) (Option.bind (C 129 [.ref 59, .int (xs (y3 + 1).toNatClampNeg), .int (xs (y3 + 2).toNatClampNeg)] r11.2.2) (fun r12 => if r11.1 = r12.1 then (z_lp z_SH L xs C me_L_law F 18 [some (.ref 1000), some (.ref 0), some (.ref 59), some (.int (y3 + 6))] [] r12.2.2) else (some (0, 0, r12.2.2))))))))) else if ((xs y3.toNatClampNeg) &&& 31) = nI 6 then (z_g (z_in L (y3 + 1)) (z_g (z_in L (y3 + 2)) (Option.bind (C 68 [.ref 0, .int (xs (y3 + 1).toNatClampNeg), .int (xs (y3 + 2).toNatClampNeg)] m) (fun r13 => z_g (z_in L (y3 + 1)) (z_g (z_in L (y3 + 2)) (Option.bind (C 133 [.ref 59, .int (xs (y3 + 1).toNatClampNeg), .int (xs (y3 + 2).toNatClampNeg)] r13.2.2) (fun r14 => if r13.1 = r14.1 then (z_lp z_SH L xs C me_L_law F 18 [some (.ref 1000), some (.ref 0), some (.ref 59), some (.int (y3 + 6))] [] r14.2.2) else (some (0, 0, r14.2.2))))))))) else if ((xs y3.toNatClampNeg) &&& 31) = nI 7 then (z_g (z_in L (y3 + 1)) (Option.bind (C 69 [.ref 0, .int (xs (y3 + 1).toNatClampNeg)] m) (fun r15 => z_g (z_in L (y3 + 1)) (Option.bind (C 135 [.ref 59, .int (xs (y3 + 1).toNatClampNeg)] r15.2.2) (fun r16 => if r15.1 = r16.1 then (z_lp z_SH L xs C me_L_law F 18 [some (.ref 1000), some (.ref 0), some (.ref 59), some (.int (y3 + 6))] [] r16.2.2) else (some (0, 0, r16.2.2))))))) else if ((xs y3.toNatClampNeg) &&& 31) = nI 8 then (z_g (z_in L (y3 + 1)) (z_g (z_in L (y3 + 2)) (z_g (z_in L (y3 + 3)) (z_g (z_in L (y3 + 4)) (Option.bind (C 70 [.ref 0, .int (xs (y3 + 1).toNatClampNeg), .int (xs (y3 + 2).toNatClampNeg), .int (xs (y3 + 3).toNatClampNeg), .int (xs (y3 + 4).toNatClampNeg)] m) (fun r17 => z_g (z_in L (y3 + 1)) (z_g (z_in L (y3 + 2)) (z_g (z_in L (y3 + 3)) (z_g (z_in L (y3 + 4)) (Option.bind (C 136 [.ref 59, .int (xs (y3 + 1).toNatClampNeg), .int (xs (y3 + 2).toNatClampNeg), .int (xs (y3 + 3).toNatClampNeg), .int (xs (y3 + 4).toNatClampNeg)] r17.2.2) (fun r18 => if r17.1 = r18.1 then (z_lp z_SH L xs C me_L_law F 18 [some (.ref 1000), some (.ref 0), some (.ref 59), some (.int (y3 + 6))] [] r18.2.2) else (some (0, 0, r18.2.2))))))))))))) else if ((xs y3.toNatClampNeg) &&& 31) = nI 9 then (z_g (z_in L (y3 + 1)) (Option.bind (C 71 [.ref 0, .int (xs (y3 + 1).toNatClampNeg)] m) (fun r19 => z_g (z_in L (y3 + 1)) (Option.bind (C 138 [.ref 59, .int (xs (y3 + 1).toNatClampNeg)] r19.2.2) (fun r20 => if r19.1 = r20.1 then (z_lp z_SH L xs C me_L_law F 18 [some (.ref 1000), some (.ref 0), some (.ref 59), some (.int (y3 + 6))] [] r20.2.2) else (some (0, 0, r20.2.2))))))) else if ((xs y3.toNatClampNeg) &&& 31) = nI 10 then (z_g (z_in L (y3 + 1)) (z_g (z_in L (y3 + 2)) (z_g (z_in L (y3 + 3)) (z_g (z_in L (y3 + 4)) (z_g (z_in L (y3 + 5)) (Option.bind (C 72 [.ref 0, .int (xs (y3 + 1).toNatClampNeg), .int (xs (y3 + 2).toNatClampNeg), .int (xs (y3 + 3).toNatClampNeg), .int (xs (y3 + 4).toNatClampNeg), .int (xs (y3 + 5).toNatClampNeg)] m) (fun r21 => z_g (z_in L (y3 + 1)) (z_g (z_in L (y3 + 2)) (z_g (z_in L (y3 + 3)) (z_g (z_in L (y3 + 4)) (z_g (z_in L (y3 + 5)) (Option.bind (C 144 [.ref 59, .int (xs (y3 + 1).toNatClampNeg), .int (xs (y3 + 2).toNatClampNeg), .int (xs (y3 + 3).toNatClampNeg), .int (xs (y3 + 4).toNatClampNeg), .int (xs (y3 + 5).toNatClampNeg)] r21.2.2) (fun r22 => if r21.1 = r22.1 then (z_lp z_SH L xs C me_L_law F 18 [some (.ref 1000), some (.ref 0), some (.ref 59), some (.int (y3 + 6))] [] r22.2.2) else (some (0, 0, r22.2.2))))))))))))))) else if ((xs y3.toNatClampNeg) &&& 31) = nI 11 then (z_g (z_in L (y3 + 1)) (z_g (z_in L (y3 + 2)) (Option.bind (C 73 [.ref 0, .int (xs (y3 + 1).toNatClampNeg), .int (xs (y3 + 2).toNatClampNeg)] m) (fun r23 => z_g (z_in L (y3 + 1)) (z_g (z_in L (y3 + 2)) (Option.bind (C 148 [.ref 59, .int (xs (y3 + 1).toNatClampNeg), .int (xs (y3 + 2).toNatClampNeg)] r23.2.2) (fun r24 => if r23.1 = r24.1 then (z_lp z_SH L xs C me_L_law F 18 [some (.ref 1000), some (.ref 0), some (.ref 59), some (.int (y3 + 6))] [] r24.2.2) else (some (0, 0, r24.2.2))))))))) else if ((xs y3.toNatClampNeg) &&& 31) = nI 12 then (z_g (z_in L (y3 + 1)) (z_g (z_in L (y3 + 2)) (z_g (z_in L (y3 + 3)) (Option.bind (C 74 [.ref 0, .int (xs (y3 + 1).toNatClampNeg), .int (xs (y3 + 2).toNatClampNeg), .int (xs (y3 + 3).toNatClampNeg)] m) (fun r25 => z_g (z_in L (y3 + 1)) (z_g (z_in L (y3 + 2)) (z_g (z_in L (y3 + 3)) (Option.bind (C 149 [.ref 59, .int (xs (y3 + 1).toNatClampNeg), .int (xs (y3 + 2).toNatClampNeg), .int (xs (y3 + 3).toNatClampNeg)] r25.2.2) (fun r26 => if r25.1 = r26.1 then (z_lp z_SH L xs C me_L_law F 18 [some (.ref 1000), some (.ref 0), some (.ref 59), some (.int (y3 + 6))] [] r26.2.2) else (some (0, 0, r26.2.2))))))))))) else if ((xs y3.toNatClampNeg) &&& 31) = nI 13 then (z_g (z_in L (y3 + 1)) (Option.bind (C 75 [.ref 0, .int (xs (y3 + 1).toNatClampNeg)] m) (fun r27 => z_g (z_in L (y3 + 1)) (Option.bind (C 152 [.ref 59, .int (xs (y3 + 1).toNatClampNeg)] r27.2.2) (fun r28 => if r27.1 = r28.1 then (z_lp z_SH L xs C me_L_law F 18 [some (.ref 1000), some (.ref 0), some (.ref 59), some (.int (y3 + 6))] [] r28.2.2) else (some (0, 0, r28.2.2))))))) else if ((xs y3.toNatClampNeg) &&& 31) = nI 14 then (z_g (z_in L (y3 + 1)) (Option.bind (C 76 [.ref 0, .int (xs (y3 + 1).toNatClampNeg)] m) (fun r29 => z_g (z_in L (y3 + 1)) (Option.bind (C 155 [.ref 59, .int (xs (y3 + 1).toNatClampNeg)] r29.2.2) (fun r30 => if r29.1 = r30.1 then (z_lp z_SH L xs C me_L_law F 18 [some (.ref 1000), some (.ref 0), some (.ref 59), some (.int (y3 + 6))] [] r30.2.2) else (some (0, 0, r30.2.2))))))) else if ((xs y3.toNatClampNeg) &&& 31) = nI 15 then (z_g (z_in L (y3 + 1)) (z_g (z_in L (y3 + 2)) (z_g (z_in L (y3 + 3)) (Option.bind (C 77 [.ref 0, .int (xs (y3 + 1).toNatClampNeg), .int (xs (y3 + 2).toNatClampNeg), .int (xs (y3 + 3).toNatClampNeg)] m) (fun r31 => z_g (z_in L (y3 + 1)) (z_g (z_in L (y3 + 2)) (z_g (z_in L (y3 + 3)) (Option.bind (C 156 [.ref 59, .int (xs (y3 + 1).toNatClampNeg), .int (xs (y3 + 2).toNatClampNeg), .int (xs (y3 + 3).toNatClampNeg)] r31.2.2) (fun r32 => if r31.1 = r32.1 then (z_lp z_SH L xs C me_L_law F 18 [some (.ref 1000), some (.ref 0), some (.ref 59), some (.int (y3 + 6))] [] r32.2.2) else (some (0, 0, r32.2.2))))))))))) else if ((xs y3.toNatClampNeg) &&& 31) = nI 16 then (z_g (z_in L (y3 + 1)) (Option.bind (C 78 [.ref 0, .int (xs (y3 + 1).toNatClampNeg)] m) (fun r33 => z_g (z_in L (y3 + 1)) (Option.bind (C 157 [.ref 59, .int (xs (y3 + 1).toNatClampNeg)] r33.2.2) (fun r34 => if r33.1 = r34.1 then (z_lp z_SH L xs C me_L_law F 18 [some (.ref 1000), some (.ref 0), some (.ref 59), some (.int (y3 + 6))] [] r34.2.2) else (some (0, 0, r34.2.2))))))) else if ((xs y3.toNatClampNeg) &&& 31) = nI 17 then (z_g (z_in L (y3 + 1)) (Option.bind (C 79 [.ref 0, .int (xs (y3 + 1).toNatClampNeg)] m) (fun r35 => z_g (z_in L (y3 + 1)) (Option.bind (C 159 [.ref 59, .int (xs (y3 + 1).toNatClampNeg)] r35.2.2) (fun r36 => if r35.1 = r36.1 then (z_lp z_SH L xs C me_L_law F 18 [some (.ref 1000), some (.ref 0), some (.ref 59), some (.int (y3 + 6))] [] r36.2.2) else (some (0, 0, r36.2.2))))))) else if ((xs y3.toNatClampNeg) &&& 31) = nI 18 then (z_g (z_in L (y3 + 1)) (Option.bind (C 80 [.ref 0, .int (xs (y3 + 1).toNatClampNeg)] m) (fun r37 => z_g (z_in L (y3 + 1)) (Option.bind (C 160 [.ref 59, .int (xs (y3 + 1).toNatClampNeg)] r37.2.2) (fun r38 => if r37.1 = r38.1 then (z_lp z_SH L xs C me_L_law F 18 [some (.ref 1000), some (.ref 0), some (.ref 59), some (.int (y3 + 6))] [] r38.2.2) else (some (0, 0, r38.2.2))))))) else if ((xs y3.toNatClampNeg) &&& 31) = nI 19 then (z_g (z_in L (y3 + 1)) (Option.bind (C 81 [.ref 0, .int (xs (y3 + 1).toNatClampNeg)] m) (fun r39 => z_g (z_in L (y3 + 1)) (Option.bind (C 161 [.ref 59, .int (xs (y3 + 1).toNatClampNeg)] r39.2.2) (fun r40 => if r39.1 = r40.1 then (z_lp z_SH L xs C me_L_law F 18 [some (.ref 1000), some (.ref 0), some (.ref 59), some (.int (y3 + 6))] [] r40.2.2) else (some (0, 0, r40.2.2))))))) else if ((xs y3.toNatClampNeg) &&& 31) = nI 20 then (z_g (z_in L (y3 + 1)) (z_g (z_in L (y3 + 2)) (Option.bind (C 82 [.ref 0, .int (xs (y3 + 1).toNatClampNeg), .int (xs (y3 + 2).toNatClampNeg)] m) (fun r41 => z_g (z_in L (y3 + 1)) (z_g (z_in L (y3 + 2)) (Option.bind (C 163 [.ref 59, .int (xs (y3 + 1).toNatClampNeg), .int (xs (y3 + 2).toNatClampNeg)] r41.2.2) (fun r42 => if (lg_cmp r41.2.1 r42.2.1) = 0 then (z_lp z_SH L xs C me_L_law F 18 [some (.ref 1000), some (.ref 0), some (.ref 59), some (.int (y3 + 6))] [] r42.2.2) else (some (0, 0, r42.2.2))))))))) else if ((xs y3.toNatClampNeg) &&& 31) = nI 21 then (z_g (z_in L (y3 + 1)) (z_g (z_in L (y3 + 2)) (z_g (z_in L (y3 + 3)) (Option.bind (C 83 [.ref 0, .int (xs (y3 + 1).toNatClampNeg), .int (xs (y3 + 2).toNatClampNeg), .int (xs (y3 + 3).toNatClampNeg)] m) (fun r43 => z_g (z_in L (y3 + 1)) (z_g (z_in L (y3 + 2)) (z_g (z_in L (y3 + 3)) (Option.bind (C 164 [.ref 59, .int (xs (y3 + 1).toNatClampNeg), .int (xs (y3 + 2).toNatClampNeg), .int (xs (y3 + 3).toNatClampNeg)] r43.2.2) (fun r44 => if r43.1 = r44.1 then (z_lp z_SH L xs C me_L_law F 18 [some (.ref 1000), some (.ref 0), some (.ref 59), some (.int (y3 + 6))] [] r44.2.2) else (some (0, 0, r44.2.2))))))))))) else if ((xs y3.toNatClampNeg) &&& 31) = nI 22 then (z_g (z_in L (y3 + 1)) (Option.bind (C 84 [.ref 0, .int (xs (y3 + 1).toNatClampNeg)] m) (fun r45 => z_g (z_in L (y3 + 1)) (Option.bind (C 165 [.ref 59, .int (xs (y3 + 1).toNatClampNeg)] r45.2.2) (fun r46 => if r45.1 = r46.1 then (z_lp z_SH L xs C me_L_law F 18 [some (.ref 1000), some (.ref 0), some (.ref 59), some (.int (y3 + 6))] [] r46.2.2) else (some (0, 0, r46.2.2))))))) else if ((xs y3.toNatClampNeg) &&& 31) = nI 23 then (z_g (z_in L (y3 + 1)) (z_g (z_in L (y3 + 2)) (z_g (z_in L (y3 + 3)) (Option.bind (C 85 [.ref 0, .int (xs (y3 + 1).toNatClampNeg), .int (xs (y3 + 2).toNatClampNeg), .int (xs (y3 + 3).toNatClampNeg)] m) (fun r47 => z_g (z_in L (y3 + 1)) (z_g (z_in L (y3 + 2)) (z_g (z_in L (y3 + 3)) (Option.bind (C 166 [.ref 59, .int (xs (y3 + 1).toNatClampNeg), .int (xs (y3 + 2).toNatClampNeg), .int (xs (y3 + 3).toNatClampNeg)] r47.2.2) (fun r48 => if r47.1 = r48.1 then (z_lp z_SH L xs C me_L_law F 18 [some (.ref 1000), some (.ref 0), some (.ref 59), some (.int (y3 + 6))] [] r48.2.2) else (some (0, 0, r48.2.2))))))))))) else if ((xs y3.toNatClampNeg) &&& 31) = nI 24 then (z_g (z_in L (y3 + 1)) (z_g (z_in L (y3 + 2)) (z_g (z_in L (y3 + 3)) (Option.bind (C 86 [.ref 0, .int (xs (y3 + 1).toNatClampNeg), .int (xs (y3 + 2).toNatClampNeg), .int (xs (y3 + 3).toNatClampNeg)] m) (fun r49 => z_g (z_in L (y3 + 1)) (z_g (z_in L (y3 + 2)) (z_g (z_in L (y3 + 3)) (Option.bind (C 167 [.ref 59, .int (xs (y3 + 1).toNatClampNeg), .int (xs (y3 + 2).toNatClampNeg), .int (xs (y3 + 3).toNatClampNeg)] r49.2.2) (fun r50 => if (lg_cmp r49.2.1 r50.2.1) = 0 then (z_lp z_SH L xs C me_L_law F 18 [some (.ref 1000), some (.ref 0), some (.ref 59), some (.int (y3 + 6))] [] r50.2.2) else (some (0, 0, r50.2.2))))))))))) else if ((xs y3.toNatClampNeg) &&& 31) = nI 25 then (z_g (z_in L (y3 + 1)) (z_g (z_in L (y3 + 2)) (z_g (z_in L (y3 + 3)) (z_g (z_in L (y3 + 4)) (z_g (z_in L (y3 + 5)) (Option.bind (C 87 [.ref 0, .int (xs (y3 + 1).toNatClampNeg), .int (xs (y3 + 2).toNatClampNeg), .int (xs (y3 + 3).toNatClampNeg), .int (xs (y3 + 4).toNatClampNeg), .int (xs (y3 + 5).toNatClampNeg)] m) (fun r51 => z_g (z_in L (y3 + 1)) (z_g (z_in L (y3 + 2)) (z_g (z_in L (y3 + 3)) (z_g (z_in L (y3 + 4)) (z_g (z_in L (y3 + 5)) (Option.bind (C 168 [.ref 59, .int (xs (y3 + 1).toNatClampNeg), .int (xs (y3 + 2).toNatClampNeg), .int (xs (y3 + 3).toNatClampNeg), .int (xs (y3 + 4).toNatClampNeg), .int (xs (y3 + 5).toNatClampNeg)] r51.2.2) (fun r52 => if r51.1 = r52.1 then (z_lp z_SH L xs C me_L_law F 18 [some (.ref 1000), some (.ref 0), some (.ref 59), some (.int (y3 + 6))] [] r52.2.2) else (some (0, 0, r52.2.2))))))))))))))) else if ((xs y3.toNatClampNeg) &&& 31) = nI 26 then (z_g (z_in L (y3 + 1)) (Option.bind (C 88 [.ref 0, .int (xs (y3 + 1).toNatClampNeg)] m) (fun r53 => z_g (z_in L (y3 + 1)) (Option.bind (C 170 [.ref 59, .int (xs (y3 + 1).toNatClampNeg)] r53.2.2) (fun r54 => if r53.1 = r54.1 then (z_lp z_SH L xs C me_L_law F 18 [some (.ref 1000), some (.ref 0), some (.ref 59), some (.int (y3 + 6))] [] r54.2.2) else (some (0, 0, r54.2.2))))))) else if ((xs y3.toNatClampNeg) &&& 31) = nI 27 then (z_g (z_in L (y3 + 1)) (Option.bind (C 89 [.ref 0, .int (xs (y3 + 1).toNatClampNeg)] m) (fun r55 => z_g (z_in L (y3 + 1)) (Option.bind (C 171 [.ref 59, .int (xs (y3 + 1).toNatClampNeg)] r55.2.2) (fun r56 => if r55.1 = r56.1 then (z_lp z_SH L xs C me_L_law F 18 [some (.ref 1000), some (.ref 0), some (.ref 59), some (.int (y3 + 6))] [] r56.2.2) else (some (0, 0, r56.2.2))))))) else if ((xs y3.toNatClampNeg) &&& 31) = nI 28 then (z_g (z_in L (y3 + 1)) (z_g (z_in L (y3 + 2)) (Option.bind (C 90 [.ref 0, .int (xs (y3 + 1).toNatClampNeg), .int (xs (y3 + 2).toNatClampNeg)] m) (fun r57 => z_g (z_in L (y3 + 1)) (z_g (z_in L (y3 + 2)) (Option.bind (C 172 [.ref 59, .int (xs (y3 + 1).toNatClampNeg), .int (xs (y3 + 2).toNatClampNeg)] r57.2.2) (fun r58 => if r57.1 = r58.1 then (z_lp z_SH L xs C me_L_law F 18 [some (.ref 1000), some (.ref 0), some (.ref 59), some (.int (y3 + 6))] [] r58.2.2) else (some (0, 0, r58.2.2))))))))) else if ((xs y3.toNatClampNeg) &&& 31) = nI 29 then (Option.bind (C 91 [.ref 0] m) (fun r59 => Option.bind (C 173 [.ref 59] r59.2.2) (fun r60 => if r59.1 = r60.1 then (z_lp z_SH L xs C me_L_law F 18 [some (.ref 1000), some (.ref 0), some (.ref 59), some (.int (y3 + 6))] [] r60.2.2) else (some (0, 0, r60.2.2))))) else if ((xs y3.toNatClampNeg) &&& 31) = nI 30 then (Option.bind (C 92 [.ref 0] m) (fun r61 => Option.bind (C 174 [.ref 59] r61.2.2) (fun r62 => if r61.1 = r62.1 then (z_lp z_SH L xs C me_L_law F 18 [some (.ref 1000), some (.ref 0), some (.ref 59), some (.int (y3 + 6))] [] r62.2.2) else (some (0, 0, r62.2.2))))) else if ((xs y3.toNatClampNeg) &&& 31) = nI 31 then (z_g (z_in L (y3 + 1)) (Option.bind (C 93 [.ref 0, .int (xs (y3 + 1).toNatClampNeg)] m) (fun r63 => z_g (z_in L (y3 + 1)) (Option.bind (C 175 [.ref 59, .int (xs (y3 + 1).toNatClampNeg)] r63.2.2) (fun r64 => if r63.1 = r64.1 then (z_lp z_SH L xs C me_L_law F 18 [some (.ref 1000), some (.ref 0), some (.ref 59), some (.int (y3 + 6))] [] r64.2.2) else (some (0, 0, r64.2.2))))))) else (z_lp z_SH L xs C me_L_law F 18 [some (.ref 1000), some (.ref 0), some (.ref 59), some (.int (y3 + 6))] [] m))) := rfl
end
section
/-! Each method as a call: printed by wip/whole/gen/mk.py -/
theorem z_F_eq : z_F = 199999 + 1 := rfl
theorem z_go_c {d j : Nat} {args : List Value} {m : z_M} {me : z_Me} (h : z_P[j]? = some me) (hb : Nat.ble (z_cat args) me.2.2.1 = true) : z_go z_SH z_P (d + 1) j args m = z_lp z_SH 0 (fun _ => 0) (z_go z_SH z_P d) me (199999 + 1) 0 (z_loc me.2.2.1 args) [] m := by
  unfold z_go
  rw [h]
  dsimp only
  rw [hb, z_F_eq]
  rfl
set_option maxRecDepth 100000 in
theorem c_X0_refusal (d : Nat) (x1 : Int32) (x2 : Nat) (x3 : Int32) (x4 : Int32) (m : z_M) : z_go z_SH z_P (d + 1) 1 [.ref 30, .int x1, .ref x2, .int x3, .int x4] m = z_lp z_SH 0 (fun _ => 0) (z_go z_SH z_P d) me_X0_refusal 199999 3 [none, some (.int x1), some (.ref x2), some (.int x3), some (.int x4), some (.int 0), none, none] [] m := (z_go_c (me := me_X0_refusal) rfl rfl).trans (e_X0_refusal_0 0 (fun _ => 0) (z_go z_SH z_P d) 199999 x1 x2 x3 x4 m)
set_option maxRecDepth 100000 in
theorem c_X0_play (d : Nat) (x2 : Nat) (x3 : Int32) (x4 : Int32) (m : z_M) : z_go z_SH z_P (d + 1) 2 [.ref 30, .ref 2, .ref x2, .int x3, .int x4] m = Option.bind (z_go z_SH z_P d 14 [.ref 31, .ref 2] m) (fun r1 => z_lp z_SH 0 (fun _ => 0) (z_go z_SH z_P d) me_X0_play 199999 27 [some (.ref 30), none, some (.ref x2), some (.int x3), some (.int x4), some (.int 0), none, none] [] (z_up (z_up (z_up r1.2.2 30 1 (-9)) 30 2 0) 30 3 0)) := (z_go_c (me := me_X0_play) rfl rfl).trans (e_X0_play_0 0 (fun _ => 0) (z_go z_SH z_P d) 199999 x2 x3 x4 m)
set_option maxRecDepth 100000 in
theorem c_X0_serve (d : Nat) (x1 : Int32) (x2 : Int32) (m : z_M) : z_go z_SH z_P (d + 1) 3 [.ref 30, .int x1, .int x2] m = Option.bind (z_go z_SH z_P d 19 [.ref 31, .int x1, .int x2] m) (fun r1 => if r1.1 ≤ 0 then (some (0, 0, r1.2.2)) else (some (0, 0, z_up (z_up r1.2.2 30 2 ((r1.2.2 30 2) + r1.1)) 30 3 (((z_up r1.2.2 30 2 ((r1.2.2 30 2) + r1.1)) 30 3) + (r1.1 - 1))))) := (z_go_c (me := me_X0_serve) rfl rfl).trans (e_X0_serve_0 0 (fun _ => 0) (z_go z_SH z_P d) 199999 x1 x2 m)
set_option maxRecDepth 100000 in
theorem c_X0_answer (d : Nat) (x1 : Int32) (m : z_M) : z_go z_SH z_P (d + 1) 4 [.ref 30, .int x1] m = if x1 = 1 then (some (m 30 1, 0, m)) else (if (m 30 1) = (-9) then (if x1 = nI 0 then (Option.bind (z_go z_SH z_P d 26 [.ref 31] m) (fun r1 => some (r1.1, 0, r1.2.2))) else if x1 = nI 1 then (Option.bind (z_go z_SH z_P d 5 [.ref 30, .int (x1 - 10)] m) (fun r2 => some (r2.1, 0, r2.2.2))) else if x1 = nI 2 then (Option.bind (z_go z_SH z_P d 27 [.ref 31] m) (fun r3 => some (r3.1, 0, r3.2.2))) else if x1 = nI 3 then (some (m 30 2, 0, m)) else if x1 = nI 4 then (some (m 30 3, 0, m)) else (Option.bind (z_go z_SH z_P d 5 [.ref 30, .int (x1 - 10)] m) (fun r4 => some (r4.1, 0, r4.2.2)))) else (some ((-100) - (m 30 1), 0, m))) := (z_go_c (me := me_X0_answer) rfl rfl).trans (e_X0_answer_0 0 (fun _ => 0) (z_go z_SH z_P d) 199999 x1 m)
set_option maxRecDepth 100000 in
theorem c_X0_gatheredOf (d : Nat) (x1 : Int32) (m : z_M) : z_go z_SH z_P (d + 1) 5 [.ref 30, .int x1] m = if x1 < 0 then (some ((-9), 0, m)) else (if (m 31 3) ≤ x1 then (some ((-9), 0, m)) else (z_g (z_in 6 x1) (z_g (z_okp z_SH (34 + x1.toNatClampNeg) 1 4 0) (some (m (34 + x1.toNatClampNeg) 4, 0, m))))) := (z_go_c (me := me_X0_gatheredOf) rfl rfl).trans (e_X0_gatheredOf_0 0 (fun _ => 0) (z_go z_SH z_P d) 199999 x1 m)
set_option maxRecDepth 100000 in
theorem c_X0_isSignAct (d : Nat) (x1 : Int32) (m : z_M) : z_go z_SH z_P (d + 1) 6 [.int x1] m = Option.bind (z_go z_SH z_P d 94 [.int x1, .int 0, .int 4] m) (fun r1 => z_g (z_isb r1.1) (some (r1.1, 0, r1.2.2))) := (z_go_c (me := me_X0_isSignAct) rfl rfl).trans (e_X0_isSignAct_0 0 (fun _ => 0) (z_go z_SH z_P d) 199999 x1 m)
set_option maxRecDepth 100000 in
theorem c_X0_isSeatAct (d : Nat) (x1 : Int32) (m : z_M) : z_go z_SH z_P (d + 1) 7 [.int x1] m = Option.bind (z_go z_SH z_P d 94 [.int x1, .int 20, .int 25] m) (fun r1 => z_g (z_isb r1.1) (some (r1.1, 0, r1.2.2))) := (z_go_c (me := me_X0_isSeatAct) rfl rfl).trans (e_X0_isSeatAct_0 0 (fun _ => 0) (z_go z_SH z_P d) 199999 x1 m)
set_option maxRecDepth 100000 in
theorem c_X1_checkIn (d : Nat) (g : Nat) (x1 : Int32) (m : z_M) : z_go z_SH z_P (d + 1) 9 [.ref g, .int x1] m = z_g (z_okp z_SH g 1 0 0) (z_g (z_okp z_SH g 1 4 0) (z_g (z_okp z_SH g 1 5 1 && z_isb 0) (z_g (z_okp z_SH g 1 6 1 && z_isb 0) (some (0, 0, z_up (z_up (z_up (z_up m g 0 x1) g 4 0) g 5 0) g 6 0))))) := (z_go_c (me := me_X1_checkIn) rfl rfl).trans (e_X1_checkIn_0 0 (fun _ => 0) (z_go z_SH z_P d) 199999 g x1 m)
set_option maxRecDepth 100000 in
theorem c_X1_become (d : Nat) (g : Nat) (x1 : Nat) (m : z_M) : z_go z_SH z_P (d + 1) 10 [.ref g, .ref x1] m = z_g (z_okp z_SH x1 1 0 0) (z_g (z_okp z_SH g 1 0 0) (z_g (z_okp z_SH x1 1 1 0) (z_g (z_okp z_SH g 1 1 0) (z_g (z_okp z_SH x1 1 2 0) (z_g (z_okp z_SH g 1 2 0) (z_g (z_okp z_SH x1 1 3 0) (z_g (z_okp z_SH g 1 3 0) (z_g (z_okp z_SH x1 1 4 0) (z_g (z_okp z_SH g 1 4 0) (z_g (z_okp z_SH x1 1 5 1) (z_g (z_okp z_SH g 1 5 1 && z_isb (z_b ((z_up (z_up (z_up (z_up (z_up m g 0 (m x1 0)) g 1 ((z_up m g 0 (m x1 0)) x1 1)) g 2 ((z_up (z_up m g 0 (m x1 0)) g 1 ((z_up m g 0 (m x1 0)) x1 1)) x1 2)) g 3 ((z_up (z_up (z_up m g 0 (m x1 0)) g 1 ((z_up m g 0 (m x1 0)) x1 1)) g 2 ((z_up (z_up m g 0 (m x1 0)) g 1 ((z_up m g 0 (m x1 0)) x1 1)) x1 2)) x1 3)) g 4 ((z_up (z_up (z_up (z_up m g 0 (m x1 0)) g 1 ((z_up m g 0 (m x1 0)) x1 1)) g 2 ((z_up (z_up m g 0 (m x1 0)) g 1 ((z_up m g 0 (m x1 0)) x1 1)) x1 2)) g 3 ((z_up (z_up (z_up m g 0 (m x1 0)) g 1 ((z_up m g 0 (m x1 0)) x1 1)) g 2 ((z_up (z_up m g 0 (m x1 0)) g 1 ((z_up m g 0 (m x1 0)) x1 1)) x1 2)) x1 3)) x1 4)) x1 5))) (z_g (z_okp z_SH x1 1 6 1) (z_g (z_okp z_SH g 1 6 1 && z_isb (z_b ((z_up (z_up (z_up (z_up (z_up (z_up m g 0 (m x1 0)) g 1 ((z_up m g 0 (m x1 0)) x1 1)) g 2 ((z_up (z_up m g 0 (m x1 0)) g 1 ((z_up m g 0 (m x1 0)) x1 1)) x1 2)) g 3 ((z_up (z_up (z_up m g 0 (m x1 0)) g 1 ((z_up m g 0 (m x1 0)) x1 1)) g 2 ((z_up (z_up m g 0 (m x1 0)) g 1 ((z_up m g 0 (m x1 0)) x1 1)) x1 2)) x1 3)) g 4 ((z_up (z_up (z_up (z_up m g 0 (m x1 0)) g 1 ((z_up m g 0 (m x1 0)) x1 1)) g 2 ((z_up (z_up m g 0 (m x1 0)) g 1 ((z_up m g 0 (m x1 0)) x1 1)) x1 2)) g 3 ((z_up (z_up (z_up m g 0 (m x1 0)) g 1 ((z_up m g 0 (m x1 0)) x1 1)) g 2 ((z_up (z_up m g 0 (m x1 0)) g 1 ((z_up m g 0 (m x1 0)) x1 1)) x1 2)) x1 3)) x1 4)) g 5 (z_b ((z_up (z_up (z_up (z_up (z_up m g 0 (m x1 0)) g 1 ((z_up m g 0 (m x1 0)) x1 1)) g 2 ((z_up (z_up m g 0 (m x1 0)) g 1 ((z_up m g 0 (m x1 0)) x1 1)) x1 2)) g 3 ((z_up (z_up (z_up m g 0 (m x1 0)) g 1 ((z_up m g 0 (m x1 0)) x1 1)) g 2 ((z_up (z_up m g 0 (m x1 0)) g 1 ((z_up m g 0 (m x1 0)) x1 1)) x1 2)) x1 3)) g 4 ((z_up (z_up (z_up (z_up m g 0 (m x1 0)) g 1 ((z_up m g 0 (m x1 0)) x1 1)) g 2 ((z_up (z_up m g 0 (m x1 0)) g 1 ((z_up m g 0 (m x1 0)) x1 1)) x1 2)) g 3 ((z_up (z_up (z_up m g 0 (m x1 0)) g 1 ((z_up m g 0 (m x1 0)) x1 1)) g 2 ((z_up (z_up m g 0 (m x1 0)) g 1 ((z_up m g 0 (m x1 0)) x1 1)) x1 2)) x1 3)) x1 4)) x1 5))) x1 6))) (some (0, 0, z_up (z_up (z_up (z_up (z_up (z_up (z_up m g 0 (m x1 0)) g 1 ((z_up m g 0 (m x1 0)) x1 1)) g 2 ((z_up (z_up m g 0 (m x1 0)) g 1 ((z_up m g 0 (m x1 0)) x1 1)) x1 2)) g 3 ((z_up (z_up (z_up m g 0 (m x1 0)) g 1 ((z_up m g 0 (m x1 0)) x1 1)) g 2 ((z_up (z_up m g 0 (m x1 0)) g 1 ((z_up m g 0 (m x1 0)) x1 1)) x1 2)) x1 3)) g 4 ((z_up (z_up (z_up (z_up m g 0 (m x1 0)) g 1 ((z_up m g 0 (m x1 0)) x1 1)) g 2 ((z_up (z_up m g 0 (m x1 0)) g 1 ((z_up m g 0 (m x1 0)) x1 1)) x1 2)) g 3 ((z_up (z_up (z_up m g 0 (m x1 0)) g 1 ((z_up m g 0 (m x1 0)) x1 1)) g 2 ((z_up (z_up m g 0 (m x1 0)) g 1 ((z_up m g 0 (m x1 0)) x1 1)) x1 2)) x1 3)) x1 4)) g 5 (z_b ((z_up (z_up (z_up (z_up (z_up m g 0 (m x1 0)) g 1 ((z_up m g 0 (m x1 0)) x1 1)) g 2 ((z_up (z_up m g 0 (m x1 0)) g 1 ((z_up m g 0 (m x1 0)) x1 1)) x1 2)) g 3 ((z_up (z_up (z_up m g 0 (m x1 0)) g 1 ((z_up m g 0 (m x1 0)) x1 1)) g 2 ((z_up (z_up m g 0 (m x1 0)) g 1 ((z_up m g 0 (m x1 0)) x1 1)) x1 2)) x1 3)) g 4 ((z_up (z_up (z_up (z_up m g 0 (m x1 0)) g 1 ((z_up m g 0 (m x1 0)) x1 1)) g 2 ((z_up (z_up m g 0 (m x1 0)) g 1 ((z_up m g 0 (m x1 0)) x1 1)) x1 2)) g 3 ((z_up (z_up (z_up m g 0 (m x1 0)) g 1 ((z_up m g 0 (m x1 0)) x1 1)) g 2 ((z_up (z_up m g 0 (m x1 0)) g 1 ((z_up m g 0 (m x1 0)) x1 1)) x1 2)) x1 3)) x1 4)) x1 5))) g 6 (z_b ((z_up (z_up (z_up (z_up (z_up (z_up m g 0 (m x1 0)) g 1 ((z_up m g 0 (m x1 0)) x1 1)) g 2 ((z_up (z_up m g 0 (m x1 0)) g 1 ((z_up m g 0 (m x1 0)) x1 1)) x1 2)) g 3 ((z_up (z_up (z_up m g 0 (m x1 0)) g 1 ((z_up m g 0 (m x1 0)) x1 1)) g 2 ((z_up (z_up m g 0 (m x1 0)) g 1 ((z_up m g 0 (m x1 0)) x1 1)) x1 2)) x1 3)) g 4 ((z_up (z_up (z_up (z_up m g 0 (m x1 0)) g 1 ((z_up m g 0 (m x1 0)) x1 1)) g 2 ((z_up (z_up m g 0 (m x1 0)) g 1 ((z_up m g 0 (m x1 0)) x1 1)) x1 2)) g 3 ((z_up (z_up (z_up m g 0 (m x1 0)) g 1 ((z_up m g 0 (m x1 0)) x1 1)) g 2 ((z_up (z_up m g 0 (m x1 0)) g 1 ((z_up m g 0 (m x1 0)) x1 1)) x1 2)) x1 3)) x1 4)) g 5 (z_b ((z_up (z_up (z_up (z_up (z_up m g 0 (m x1 0)) g 1 ((z_up m g 0 (m x1 0)) x1 1)) g 2 ((z_up (z_up m g 0 (m x1 0)) g 1 ((z_up m g 0 (m x1 0)) x1 1)) x1 2)) g 3 ((z_up (z_up (z_up m g 0 (m x1 0)) g 1 ((z_up m g 0 (m x1 0)) x1 1)) g 2 ((z_up (z_up m g 0 (m x1 0)) g 1 ((z_up m g 0 (m x1 0)) x1 1)) x1 2)) x1 3)) g 4 ((z_up (z_up (z_up (z_up m g 0 (m x1 0)) g 1 ((z_up m g 0 (m x1 0)) x1 1)) g 2 ((z_up (z_up m g 0 (m x1 0)) g 1 ((z_up m g 0 (m x1 0)) x1 1)) x1 2)) g 3 ((z_up (z_up (z_up m g 0 (m x1 0)) g 1 ((z_up m g 0 (m x1 0)) x1 1)) g 2 ((z_up (z_up m g 0 (m x1 0)) g 1 ((z_up m g 0 (m x1 0)) x1 1)) x1 2)) x1 3)) x1 4)) x1 5))) x1 6))))))))))))))))) := (z_go_c (me := me_X1_become) rfl rfl).trans (e_X1_become_0 0 (fun _ => 0) (z_go z_SH z_P d) 199999 g x1 m)
set_option maxRecDepth 100000 in
theorem c_X2_stands (d : Nat) {h : Nat} (hh : z_isH h) (m : z_M) : z_go z_SH z_P (d + 1) 12 [.ref h] m = if (m h 3) ≤ 0 then (some (0, 0, m)) else (some (1, 0, m)) := (z_go_c (me := me_X2_stands) rfl rfl).trans (e_X2_stands_0 0 (fun _ => 0) (z_go z_SH z_P d) 199999 hh m)
set_option maxRecDepth 100000 in
theorem c_X2_clear (d : Nat) {h : Nat} (hh : z_isH h) (m : z_M) : z_go z_SH z_P (d + 1) 13 [.ref h] m = some (0, 0, z_up (z_up (z_up m h 2 0) h 3 0) h 4 0) := (z_go_c (me := me_X2_clear) rfl rfl).trans (e_X2_clear_0 0 (fun _ => 0) (z_go z_SH z_P d) 199999 hh m)
set_option maxRecDepth 100000 in
theorem c_X2_become (d : Nat) {h : Nat} (hh : z_isH h) {o : Nat} (ho : z_isH o) (m : z_M) : z_go z_SH z_P (d + 1) 14 [.ref h, .ref o] m = z_lp z_SH 0 (fun _ => 0) (z_go z_SH z_P d) me_X2_become 199999 26 [some (.ref h), some (.ref o), some (.int 0)] [] (z_up (z_up (z_up m h 2 (m o 2)) h 3 ((z_up m h 2 (m o 2)) o 3)) h 4 ((z_up (z_up m h 2 (m o 2)) h 3 ((z_up m h 2 (m o 2)) o 3)) o 4)) := (z_go_c (me := me_X2_become) rfl rfl).trans (e_X2_become_0 0 (fun _ => 0) (z_go z_SH z_P d) 199999 hh ho m)
set_option maxRecDepth 100000 in
theorem c_X2_weight (d : Nat) {h : Nat} (hh : z_isH h) (x1 : Int32) (x2 : Int32) (m : z_M) : z_go z_SH z_P (d + 1) 15 [.ref h, .int x1, .int x2] m = z_g (z_in 6 x2) (z_g (z_okp z_SH (h + 3 + x2.toNatClampNeg) 1 0 0) (if (m (h + 3 + x2.toNatClampNeg) 0) = nI 0 then (z_g (z_in 5 x1) (some (m (h + 1) x1.toNatClampNeg, 0, m))) else if (m (h + 3 + x2.toNatClampNeg) 0) = nI 1 then (z_g (z_in 5 x1) (some ((m (h + 1) x1.toNatClampNeg) - 1, 0, m))) else (z_g (z_in 5 x1) (z_g (decide (¬ (2 : Int32) = 0)) (some ((m (h + 1) x1.toNatClampNeg) / 2, 0, m)))))) := (z_go_c (me := me_X2_weight) rfl rfl).trans (e_X2_weight_0 0 (fun _ => 0) (z_go z_SH z_P d) 199999 hh x1 x2 m)
set_option maxRecDepth 100000 in
theorem c_X2_shocks (d : Nat) {h : Nat} (hh : z_isH h) (x1 : Int32) (x2 : Int32) (m : z_M) : z_go z_SH z_P (d + 1) 16 [.ref h, .int x1, .int x2] m = Option.bind (z_go z_SH z_P d 15 [.ref h, .int x1, .int x2] m) (fun r1 => z_g (z_in 6 x2) (z_g (z_okp z_SH (h + 3 + x2.toNatClampNeg) 1 1 0) (if r1.1 ≤ (r1.2.2 (h + 3 + x2.toNatClampNeg) 1) then (some (0, 0, r1.2.2)) else (some (1, 0, r1.2.2))))) := (z_go_c (me := me_X2_shocks) rfl rfl).trans (e_X2_shocks_0 0 (fun _ => 0) (z_go z_SH z_P d) 199999 hh x1 x2 m)
set_option maxRecDepth 100000 in
theorem c_X2_isSoft (d : Nat) {h : Nat} (hh : z_isH h) (x1 : Int32) (x2 : Int32) (m : z_M) : z_go z_SH z_P (d + 1) 17 [.ref h, .int x1, .int x2] m = Option.bind (z_go z_SH z_P d 15 [.ref h, .int x1, .int x2] m) (fun r1 => if r1.1 ≤ 0 then (some (0, 0, r1.2.2)) else (Option.bind (z_go z_SH z_P d 16 [.ref h, .int x1, .int x2] r1.2.2) (fun r2 => if r2.1 = 0 then (some (1, 0, r2.2.2)) else (some (0, 0, r2.2.2))))) := (z_go_c (me := me_X2_isSoft) rfl rfl).trans (e_X2_isSoft_0 0 (fun _ => 0) (z_go z_SH z_P d) 199999 hh x1 x2 m)
set_option maxRecDepth 100000 in
theorem c_X2_lack (d : Nat) {h : Nat} (hh : z_isH h) (x1 : Int32) (m : z_M) : z_go z_SH z_P (d + 1) 18 [.ref h, .int x1] m = z_g (z_in 6 x1) (z_g (z_okp z_SH (h + 3 + x1.toNatClampNeg) 1 2 0) (z_g (z_in 6 x1) (z_g (z_okp z_SH (h + 3 + x1.toNatClampNeg) 1 4 0) (some ((m (h + 3 + x1.toNatClampNeg) 2) - (m (h + 3 + x1.toNatClampNeg) 4), 0, m))))) := (z_go_c (me := me_X2_lack) rfl rfl).trans (e_X2_lack_0 0 (fun _ => 0) (z_go z_SH z_P d) 199999 hh x1 m)
set_option maxRecDepth 100000 in
theorem c_X2_offer (d : Nat) {h : Nat} (hh : z_isH h) (x1 : Int32) (x2 : Int32) (m : z_M) : z_go z_SH z_P (d + 1) 19 [.ref h, .int x1, .int x2] m = Option.bind (z_go z_SH z_P d 16 [.ref h, .int x1, .int x2] m) (fun r1 => if r1.1 = 0 then (z_g (z_in 6 x2) (z_g (z_okp z_SH (h + 3 + x2.toNatClampNeg) 1 4 0) (Option.bind (z_go z_SH z_P d 15 [.ref h, .int x1, .int x2] r1.2.2) (fun r2 => z_g (z_okp z_SH (h + 3 + x2.toNatClampNeg) 1 4 0) (Option.bind (z_go z_SH z_P d 20 [.ref h] (z_up r2.2.2 (h + 3 + x2.toNatClampNeg) 4 ((r1.2.2 (h + 3 + x2.toNatClampNeg) 4) + r2.1))) (fun r3 => some (r3.1, 0, r3.2.2))))))) else (z_g (z_in 6 x2) (z_g (z_okp z_SH (h + 3 + x2.toNatClampNeg) 1 6 1 && z_isb 1) (some ((-9), 0, z_up r1.2.2 (h + 3 + x2.toNatClampNeg) 6 1))))) := (z_go_c (me := me_X2_offer) rfl rfl).trans (e_X2_offer_0 0 (fun _ => 0) (z_go z_SH z_P d) 199999 hh x1 x2 m)
set_option maxRecDepth 100000 in
theorem c_X2_dawn (d : Nat) {h : Nat} (hh : z_isH h) (m : z_M) : z_go z_SH z_P (d + 1) 20 [.ref h] m = Option.bind (z_go z_SH z_P d 21 [.ref h] m) (fun r1 => z_lp z_SH 0 (fun _ => 0) (z_go z_SH z_P d) me_X2_dawn 199999 7 [some (.ref h), some (.int 0), some (.int r1.1)] [] r1.2.2) := (z_go_c (me := me_X2_dawn) rfl rfl).trans (e_X2_dawn_0 0 (fun _ => 0) (z_go z_SH z_P d) 199999 hh m)
set_option maxRecDepth 100000 in
theorem c_X2_firstReady (d : Nat) {h : Nat} (hh : z_isH h) (m : z_M) : z_go z_SH z_P (d + 1) 21 [.ref h] m = z_lp z_SH 0 (fun _ => 0) (z_go z_SH z_P d) me_X2_firstReady 199999 2 [some (.ref h), some (.int 0)] [] m := (z_go_c (me := me_X2_firstReady) rfl rfl).trans (e_X2_firstReady_0 0 (fun _ => 0) (z_go z_SH z_P d) 199999 hh m)
set_option maxRecDepth 100000 in
theorem c_X2_stir (d : Nat) {h : Nat} (hh : z_isH h) (x1 : Int32) (m : z_M) : z_go z_SH z_P (d + 1) 22 [.ref h, .int x1] m = z_lp z_SH 0 (fun _ => 0) (z_go z_SH z_P d) me_X2_stir 199999 2 [some (.ref h), some (.int x1), some (.int 0)] [] m := (z_go_c (me := me_X2_stir) rfl rfl).trans (e_X2_stir_0 0 (fun _ => 0) (z_go z_SH z_P d) 199999 hh x1 m)
set_option maxRecDepth 100000 in
theorem c_X2_sleep (d : Nat) {h : Nat} (hh : z_isH h) (x1 : Int32) (m : z_M) : z_go z_SH z_P (d + 1) 23 [.ref h, .int x1] m = z_lp z_SH 0 (fun _ => 0) (z_go z_SH z_P d) me_X2_sleep 199999 12 [some (.ref h), some (.int x1), some (.int 0)] [] (z_up m h 4 ((m h 4) + x1)) := (z_go_c (me := me_X2_sleep) rfl rfl).trans (e_X2_sleep_0 0 (fun _ => 0) (z_go z_SH z_P d) 199999 hh x1 m)
set_option maxRecDepth 100000 in
theorem c_X2_gatheredByUnknowing (d : Nat) {h : Nat} (hh : z_isH h) (m : z_M) : z_go z_SH z_P (d + 1) 24 [.ref h] m = z_lp z_SH 0 (fun _ => 0) (z_go z_SH z_P d) me_X2_gatheredByUnknowing 199999 4 [some (.ref h), some (.int 0), some (.int 0)] [] m := (z_go_c (me := me_X2_gatheredByUnknowing) rfl rfl).trans (e_X2_gatheredByUnknowing_0 0 (fun _ => 0) (z_go z_SH z_P d) 199999 hh m)
set_option maxRecDepth 100000 in
theorem c_X2_checkOut (d : Nat) {h : Nat} (hh : z_isH h) (x1 : Int32) (m : z_M) : z_go z_SH z_P (d + 1) 25 [.ref h, .int x1] m = z_lp z_SH 0 (fun _ => 0) (z_go z_SH z_P d) me_X2_checkOut 199999 2 [some (.ref h), none, some (.int x1)] [] m := (z_go_c (me := me_X2_checkOut) rfl rfl).trans (e_X2_checkOut_0 0 (fun _ => 0) (z_go z_SH z_P d) 199999 hh x1 m)
set_option maxRecDepth 100000 in
theorem c_X2_knowing (d : Nat) {h : Nat} (hh : z_isH h) (m : z_M) : z_go z_SH z_P (d + 1) 26 [.ref h] m = z_lp z_SH 0 (fun _ => 0) (z_go z_SH z_P d) me_X2_knowing 199999 4 [some (.ref h), some (.int 0), some (.int 0)] [] m := (z_go_c (me := me_X2_knowing) rfl rfl).trans (e_X2_knowing_0 0 (fun _ => 0) (z_go z_SH z_P d) 199999 hh m)
set_option maxRecDepth 100000 in
theorem c_X2_shockedOnes (d : Nat) {h : Nat} (hh : z_isH h) (m : z_M) : z_go z_SH z_P (d + 1) 27 [.ref h] m = z_lp z_SH 0 (fun _ => 0) (z_go z_SH z_P d) me_X2_shockedOnes 199999 4 [some (.ref h), some (.int 0), some (.int 0)] [] m := (z_go_c (me := me_X2_shockedOnes) rfl rfl).trans (e_X2_shockedOnes_0 0 (fun _ => 0) (z_go z_SH z_P d) 199999 hh m)
set_option maxRecDepth 100000 in
theorem c_X3_note (d : Nat) (x1 : Int32) (x2 : Int32) (x3 : Int32) (m : z_M) : z_go z_SH z_P (d + 1) 29 [.ref 40, .int x1, .int x2, .int x3] m = z_g (z_in 8 (m 40 3)) (z_g (z_in 8 ((z_up m 41 (m 40 3).toNatClampNeg x1) 40 3)) (z_g (z_in 8 ((z_up (z_up m 41 (m 40 3).toNatClampNeg x1) 42 ((z_up m 41 (m 40 3).toNatClampNeg x1) 40 3).toNatClampNeg x2) 40 3) && z_isb x3) (some (((z_up (z_up (z_up (z_up m 41 (m 40 3).toNatClampNeg x1) 42 ((z_up m 41 (m 40 3).toNatClampNeg x1) 40 3).toNatClampNeg x2) 43 ((z_up (z_up m 41 (m 40 3).toNatClampNeg x1) 42 ((z_up m 41 (m 40 3).toNatClampNeg x1) 40 3).toNatClampNeg x2) 40 3).toNatClampNeg x3) 40 3 (((z_up (z_up (z_up m 41 (m 40 3).toNatClampNeg x1) 42 ((z_up m 41 (m 40 3).toNatClampNeg x1) 40 3).toNatClampNeg x2) 43 ((z_up (z_up m 41 (m 40 3).toNatClampNeg x1) 42 ((z_up m 41 (m 40 3).toNatClampNeg x1) 40 3).toNatClampNeg x2) 40 3).toNatClampNeg x3) 40 3) + 1)) 40 3) - 1, 0, z_up (z_up (z_up (z_up m 41 (m 40 3).toNatClampNeg x1) 42 ((z_up m 41 (m 40 3).toNatClampNeg x1) 40 3).toNatClampNeg x2) 43 ((z_up (z_up m 41 (m 40 3).toNatClampNeg x1) 42 ((z_up m 41 (m 40 3).toNatClampNeg x1) 40 3).toNatClampNeg x2) 40 3).toNatClampNeg x3) 40 3 (((z_up (z_up (z_up m 41 (m 40 3).toNatClampNeg x1) 42 ((z_up m 41 (m 40 3).toNatClampNeg x1) 40 3).toNatClampNeg x2) 43 ((z_up (z_up m 41 (m 40 3).toNatClampNeg x1) 42 ((z_up m 41 (m 40 3).toNatClampNeg x1) 40 3).toNatClampNeg x2) 40 3).toNatClampNeg x3) 40 3) + 1))))) := (z_go_c (me := me_X3_note) rfl rfl).trans (e_X3_note_0 0 (fun _ => 0) (z_go z_SH z_P d) 199999 x1 x2 x3 m)
set_option maxRecDepth 100000 in
theorem c_X3_allSo (d : Nat) (m : z_M) : z_go z_SH z_P (d + 1) 30 [.ref 40, .ref 11] m = z_lp z_SH 0 (fun _ => 0) (z_go z_SH z_P d) me_X3_allSo 199999 2 [some (.ref 40), some (.ref 11), some (.int 0)] [] m := (z_go_c (me := me_X3_allSo) rfl rfl).trans (e_X3_allSo_0 0 (fun _ => 0) (z_go z_SH z_P d) 199999 m)
set_option maxRecDepth 100000 in
theorem c_X4_renew (d : Nat) {s : Nat} (hs : z_isS s) (x1 : Int32) (x2 : Int32) (m : z_M) : z_go z_SH z_P (d + 1) 32 [.ref s, .int x1, .int x2] m = z_lp z_SH 0 (fun _ => 0) (z_go z_SH z_P d) me_X4_renew 199999 17 [some (.ref s), none, none, some (.int 0)] [] (z_up (z_up (z_up m s 1 1) s 2 x1) s 3 x2) := (z_go_c (me := me_X4_renew) rfl rfl).trans (e_X4_renew_0 0 (fun _ => 0) (z_go z_SH z_P d) 199999 hs x1 x2 m)
set_option maxRecDepth 100000 in
theorem c_X4_write (d : Nat) {s : Nat} (hs : z_isS s) (x1 : Int32) (x2 : Int32) (m : z_M) : z_go z_SH z_P (d + 1) 33 [.ref s, .int x1, .int x2] m = if (m s 2) = 0 then (z_g (z_in 60 x1) (some (0, 0, z_up m (s + 1) x1.toNatClampNeg x2.toInt8.toInt32))) else (if (m s 2) = 1 then (z_g (z_in 60 x1) (some (0, 0, z_up m (s + 1) x1.toNatClampNeg x2.toInt16.toInt32))) else (z_g (z_in 60 x1) (some (0, 0, z_up m (s + 1) x1.toNatClampNeg x2)))) := (z_go_c (me := me_X4_write) rfl rfl).trans (e_X4_write_0 0 (fun _ => 0) (z_go z_SH z_P d) 199999 hs x1 x2 m)
set_option maxRecDepth 100000 in
theorem c_X4_faultAs (d : Nat) {s : Nat} (hs : z_isS s) (x1 : Int32) (m : z_M) : z_go z_SH z_P (d + 1) 34 [.ref s, .int x1] m = if (z_b (m s 1)) = 0 then (some (1, 0, m)) else (if (m s 2) = x1 then (some (0, 0, m)) else (some (2, 0, m))) := (z_go_c (me := me_X4_faultAs) rfl rfl).trans (e_X4_faultAs_0 0 (fun _ => 0) (z_go z_SH z_P d) 199999 hs x1 m)
set_option maxRecDepth 100000 in
theorem c_X4_faultAt (d : Nat) {s : Nat} (hs : z_isS s) (x1 : Int32) (m : z_M) : z_go z_SH z_P (d + 1) 35 [.ref s, .int x1] m = if (z_b (m s 1)) = 0 then (some (1, 0, m)) else (if x1 < 0 then (some (3, 0, m)) else (if (m s 3) ≤ x1 then (some (3, 0, m)) else (some (0, 0, m)))) := (z_go_c (me := me_X4_faultAt) rfl rfl).trans (e_X4_faultAt_0 0 (fun _ => 0) (z_go z_SH z_P d) 199999 hs x1 m)
set_option maxRecDepth 100000 in
theorem c_X4_faultOfCells (d : Nat) {s : Nat} (hs : z_isS s) (x1 : Int32) (x2 : Int32) (m : z_M) : z_go z_SH z_P (d + 1) 36 [.ref s, .int x1, .int x2] m = if x1 < 0 then (some (3, 0, m)) else (if (m s 3) < x1 then (some (3, 0, m)) else (if x2 < 0 then (some (3, 0, m)) else (if ((m s 3) - x1) < x2 then (some (3, 0, m)) else (some (0, 0, m))))) := (z_go_c (me := me_X4_faultOfCells) rfl rfl).trans (e_X4_faultOfCells_0 0 (fun _ => 0) (z_go z_SH z_P d) 199999 hs x1 x2 m)
set_option maxRecDepth 100000 in
theorem c_X5_fewest (d : Nat) (x2 : Int32) (m : z_M) : z_go z_SH z_P (d + 1) 38 [.ref 44, .ref 2, .int x2] m = Option.bind (z_go z_SH z_P d 40 [.ref 2, .int x2] m) (fun r1 => if r1.1 = 0 then (some ((-9), 0, r1.2.2)) else (Option.bind (z_go z_SH z_P d 18 [.ref 2, .int x2] r1.2.2) (fun r2 => z_g (decide (¬ (r1.1 : Int32) = 0)) (some (((r2.1 + r1.1) - 1) / r1.1, 0, r2.2.2))))) := (z_go_c (me := me_X5_fewest) rfl rfl).trans (e_X5_fewest_0 0 (fun _ => 0) (z_go z_SH z_P d) 199999 x2 m)
set_option maxRecDepth 100000 in
theorem c_X5_signOfRow (d : Nat) (x2 : Int32) (x3 : Int32) (m : z_M) : z_go z_SH z_P (d + 1) 39 [.ref 44, .ref 2, .int x2, .int x3] m = Option.bind (z_go z_SH z_P d 40 [.ref 2, .int x2] m) (fun r1 => Option.bind (z_go z_SH z_P d 38 [.ref 44, .ref 2, .int x2] r1.2.2) (fun r2 => if x3 < r2.1 then (Option.bind (z_go z_SH z_P d 18 [.ref 2, .int x2] r2.2.2) (fun r3 => z_lp z_SH 0 (fun _ => 0) (z_go z_SH z_P d) me_X5_signOfRow 199999 38 [none, some (.ref 2), some (.int x2), some (.int x3), some (.int r1.1), some (.int r2.1), some (.int r3.1), some (.int (-9)), some (.int 0)] [] r3.2.2)) else (some ((-9), 0, r2.2.2)))) := (z_go_c (me := me_X5_signOfRow) rfl rfl).trans (e_X5_signOfRow_0 0 (fun _ => 0) (z_go z_SH z_P d) 199999 x2 x3 m)
set_option maxRecDepth 100000 in
theorem c_X5_heaviest (d : Nat) (x2 : Int32) (m : z_M) : z_go z_SH z_P (d + 1) 40 [.ref 2, .int x2] m = z_lp z_SH 0 (fun _ => 0) (z_go z_SH z_P d) me_X5_heaviest 199999 4 [some (.ref 2), some (.int x2), some (.int 0), some (.int 0)] [] m := (z_go_c (me := me_X5_heaviest) rfl rfl).trans (e_X5_heaviest_0 0 (fun _ => 0) (z_go z_SH z_P d) 199999 x2 m)
set_option maxRecDepth 100000 in
theorem c_X5_firstOfAtLeast (d : Nat) (x2 : Int32) (x3 : Int32) (m : z_M) : z_go z_SH z_P (d + 1) 41 [.ref 2, .int x2, .int x3] m = z_lp z_SH 0 (fun _ => 0) (z_go z_SH z_P d) me_X5_firstOfAtLeast 199999 2 [some (.ref 2), some (.int x2), some (.int x3), some (.int 0)] [] m := (z_go_c (me := me_X5_firstOfAtLeast) rfl rfl).trans (e_X5_firstOfAtLeast_0 0 (fun _ => 0) (z_go z_SH z_P d) 199999 x2 x3 m)
set_option maxRecDepth 100000 in
theorem c_X5_thatWeigh (d : Nat) (x2 : Int32) (x3 : Int32) (x4 : Int32) (m : z_M) : z_go z_SH z_P (d + 1) 42 [.ref 44, .ref 2, .int x2, .int x3, .int x4] m = z_lp z_SH 0 (fun _ => 0) (z_go z_SH z_P d) me_X5_thatWeigh 199999 3 [some (.ref 44), some (.ref 2), some (.int x2), some (.int x3), some (.int x4), some (.int 0), none] [] m := (z_go_c (me := me_X5_thatWeigh) rfl rfl).trans (e_X5_thatWeigh_0 0 (fun _ => 0) (z_go z_SH z_P d) 199999 x2 x3 x4 m)
set_option maxRecDepth 100000 in
theorem c_X5_waysByOneMore (d : Nat) (x2 : Int32) (x3 : Int32) (m : z_M) : z_go z_SH z_P (d + 1) 43 [.ref 44, .ref 2, .int x2, .int x3] m = z_lp z_SH 0 (fun _ => 0) (z_go z_SH z_P d) me_X5_waysByOneMore 199999 6 [some (.ref 44), some (.ref 2), some (.int x2), some (.int x3), some (.int 0), some (.int 0), none] [] m := (z_go_c (me := me_X5_waysByOneMore) rfl rfl).trans (e_X5_waysByOneMore_0 0 (fun _ => 0) (z_go z_SH z_P d) 199999 x2 x3 m)
set_option maxRecDepth 100000 in
theorem c_X6_choose (d : Nat) (m : z_M) : z_go z_SH z_P (d + 1) 45 [.ref 48, .ref 2] m = Option.bind (z_go z_SH z_P d 47 [.ref 48, .ref 2, .int 0, .int 0, .int 0, .int 0] (z_up (z_up m 48 2 (-1)) 48 3 0)) (fun r1 => some (0, 0, r1.2.2)) := (z_go_c (me := me_X6_choose) rfl rfl).trans (e_X6_choose_0 0 (fun _ => 0) (z_go z_SH z_P d) 199999 m)
set_option maxRecDepth 100000 in
theorem c_X6_signFor (d : Nat) (x1 : Int32) (m : z_M) : z_go z_SH z_P (d + 1) 46 [.ref 48, .int x1] m = z_g (z_in 6 x1) (if (m 50 x1.toNatClampNeg) = 9 then (some ((-9), 0, m)) else (z_g (z_in 6 x1) (some (m 50 x1.toNatClampNeg, 0, m)))) := (z_go_c (me := me_X6_signFor) rfl rfl).trans (e_X6_signFor_0 0 (fun _ => 0) (z_go z_SH z_P d) 199999 x1 m)
set_option maxRecDepth 100000 in
theorem c_X6_tryFrom (d : Nat) (x2 : Int32) (x3 : Int32) (x4 : Int32) (x5 : Int32) (m : z_M) : z_go z_SH z_P (d + 1) 47 [.ref 48, .ref 2, .int x2, .int x3, .int x4, .int x5] m = if x2 < 6 then (if (m 2 3) ≤ x2 then (z_g (z_in 6 x2) (Option.bind (z_go z_SH z_P d 47 [.ref 48, .ref 2, .int (x2 + 1), .int x3, .int x4, .int x5] (z_up m 49 x2.toNatClampNeg 9)) (fun r1 => some (0, 0, r1.2.2)))) else (z_g (z_in 6 x2) (z_g (z_okp z_SH (5 + x2.toNatClampNeg) 1 5 1) (if (z_b (m (5 + x2.toNatClampNeg) 5)) = 0 then (z_lp z_SH 0 (fun _ => 0) (z_go z_SH z_P d) me_X6_tryFrom 199999 38 [some (.ref 48), some (.ref 2), some (.int x2), some (.int x3), some (.int x4), some (.int x5), some (.int 0), none] [] m) else (z_g (z_in 6 x2) (Option.bind (z_go z_SH z_P d 47 [.ref 48, .ref 2, .int (x2 + 1), .int x3, .int x4, .int x5] (z_up m 49 x2.toNatClampNeg 9)) (fun r2 => some (0, 0, r2.2.2)))))))) else (Option.bind (z_go z_SH z_P d 48 [.ref 48, .int x4, .int x5] m) (fun r3 => some (0, 0, r3.2.2))) := (z_go_c (me := me_X6_tryFrom) rfl rfl).trans (e_X6_tryFrom_0 0 (fun _ => 0) (z_go z_SH z_P d) 199999 x2 x3 x4 x5 m)
set_option maxRecDepth 100000 in
theorem c_X6_keepIfBetter (d : Nat) (x1 : Int32) (x2 : Int32) (m : z_M) : z_go z_SH z_P (d + 1) 48 [.ref 48, .int x1, .int x2] m = if x1 < (m 48 2) then (some (0, 0, m)) else (if x1 = (m 48 2) then (if x2 < (m 48 3) then (z_lp z_SH 0 (fun _ => 0) (z_go z_SH z_P d) me_X6_keepIfBetter 199999 37 [some (.ref 48), none, none, some (.int 0)] [] (z_up (z_up m 48 2 x1) 48 3 x2)) else (some (0, 0, m))) else (z_lp z_SH 0 (fun _ => 0) (z_go z_SH z_P d) me_X6_keepIfBetter 199999 37 [some (.ref 48), none, none, some (.int 0)] [] (z_up (z_up m 48 2 x1) 48 3 x2))) := (z_go_c (me := me_X6_keepIfBetter) rfl rfl).trans (e_X6_keepIfBetter_0 0 (fun _ => 0) (z_go z_SH z_P d) 199999 x1 x2 m)
set_option maxRecDepth 100000 in
theorem c_X7_lay (d : Nat) (m : z_M) : z_go z_SH z_P (d + 1) 50 [.ref 46, .ref 2] m = z_lp z_SH 0 (fun _ => 0) (z_go z_SH z_P d) me_X7_lay 199999 2 [some (.ref 46), some (.ref 2), some (.int 0)] [] m := (z_go_c (me := me_X7_lay) rfl rfl).trans (e_X7_lay_0 0 (fun _ => 0) (z_go z_SH z_P d) 199999 m)
set_option maxRecDepth 100000 in
theorem c_X7_sitsFrom (d : Nat) (x2 : Int32) (x3 : Int32) (m : z_M) : z_go z_SH z_P (d + 1) 51 [.ref 46, .ref 2, .int x2, .int x3] m = if x2 < 6 then (if (m 2 3) ≤ x2 then (z_g (z_in 6 x2) (Option.bind (z_go z_SH z_P d 51 [.ref 46, .ref 2, .int (x2 + 1), .int x3] (z_up m 47 x2.toNatClampNeg (-9))) (fun r1 => z_g (z_isb r1.1) (some (r1.1, 0, r1.2.2))))) else (z_g (z_in 6 x2) (z_g (z_okp z_SH (5 + x2.toNatClampNeg) 1 5 1) (if (z_b (m (5 + x2.toNatClampNeg) 5)) = 0 then (z_lp z_SH 0 (fun _ => 0) (z_go z_SH z_P d) me_X7_sitsFrom 199999 49 [some (.ref 46), some (.ref 2), some (.int x2), some (.int x3), some (.int 0)] [] m) else (z_g (z_in 6 x2) (Option.bind (z_go z_SH z_P d 51 [.ref 46, .ref 2, .int (x2 + 1), .int x3] (z_up m 47 x2.toNatClampNeg (-9))) (fun r2 => z_g (z_isb r2.1) (some (r2.1, 0, r2.2.2))))))))) else (some (1, 0, m)) := (z_go_c (me := me_X7_sitsFrom) rfl rfl).trans (e_X7_sitsFrom_0 0 (fun _ => 0) (z_go z_SH z_P d) 199999 x2 x3 m)
set_option maxRecDepth 100000 in
theorem c_X7_isFree (d : Nat) (x2 : Int32) (x3 : Int32) (m : z_M) : z_go z_SH z_P (d + 1) 52 [.ref 46, .ref 2, .int x2, .int x3] m = z_lp z_SH 0 (fun _ => 0) (z_go z_SH z_P d) me_X7_isFree 199999 3 [some (.ref 46), some (.ref 2), some (.int x2), some (.int x3), some (.int 0)] [] m := (z_go_c (me := me_X7_isFree) rfl rfl).trans (e_X7_isFree_0 0 (fun _ => 0) (z_go z_SH z_P d) 199999 x2 x3 m)
set_option maxRecDepth 100000 in
theorem c_X7_clash (d : Nat) (x1 : Nat) (x2 : Nat) (m : z_M) : z_go z_SH z_P (d + 1) 53 [.ref x1, .ref x2] m = z_g (z_okp z_SH x1 1 0 0) (z_g (z_okp z_SH x2 1 0 0) (if (m x1 0) = (m x2 0) then (some (1, 0, m)) else (z_g (z_okp z_SH x1 1 6 1) (if (z_b (m x1 6)) = 0 then (some (0, 0, m)) else (z_g (z_okp z_SH x2 1 6 1) (if (z_b (m x2 6)) = 0 then (some (0, 0, m)) else (some (1, 0, m)))))))) := (z_go_c (me := me_X7_clash) rfl rfl).trans (e_X7_clash_0 0 (fun _ => 0) (z_go z_SH z_P d) 199999 x1 x2 m)
set_option maxRecDepth 100000 in
theorem c_X8_firstFault (d : Nat) (x1 : Nat) (x2 : Int32) (x3 : Int32) (m : z_M) : z_go z_SH z_P (d + 1) 55 [.ref 20, .ref x1, .int x2, .int x3] m = Option.bind (z_go z_SH z_P d 13 [.ref 21] m) (fun r1 => z_lp z_SH 0 (fun _ => 0) (z_go z_SH z_P d) me_X8_firstFault 199999 15 [some (.ref 20), some (.ref x1), some (.int x2), some (.int x3), some (.int 0)] [] (z_up r1.2.2 20 1 0)) := (z_go_c (me := me_X8_firstFault) rfl rfl).trans (e_X8_firstFault_0 0 (fun _ => 0) (z_go z_SH z_P d) 199999 x1 x2 x3 m)
set_option maxRecDepth 100000 in
theorem c_X8_goesOn (d : Nat) (x1 : Int32) (m : z_M) : z_go z_SH z_P (d + 1) 56 [.ref 20, .int x1] m = if (m 20 1) = nI 0 then (if x1 = 104 then (some (1, 0, z_up m 20 1 1)) else (some (0, 0, z_up m 20 1 1))) else if (m 20 1) = nI 1 then (if x1 = 59 then (if (m 21 2) ≤ 0 then (some (0, 0, m)) else (Option.bind (z_go z_SH z_P d 58 [.ref 20] m) (fun r1 => if r1.1 = 0 then (some (0, 0, r1.2.2)) else (some (1, 0, r1.2.2))))) else (Option.bind (z_go z_SH z_P d 57 [.ref 20, .int x1] m) (fun r2 => z_g (z_isb r2.1) (some (r2.1, 0, r2.2.2))))) else if (m 20 1) = nI 2 then (Option.bind (z_go z_SH z_P d 59 [.ref 20, .int x1] m) (fun r3 => z_g (z_isb r3.1) (some (r3.1, 0, r3.2.2)))) else if (m 20 1) = nI 3 then (Option.bind (z_go z_SH z_P d 60 [.ref 20, .int x1] m) (fun r4 => z_g (z_isb r4.1) (some (r4.1, 0, r4.2.2)))) else if (m 20 1) = nI 4 then (Option.bind (z_go z_SH z_P d 60 [.ref 20, .int x1] m) (fun r5 => z_g (z_isb r5.1) (some (r5.1, 0, r5.2.2)))) else if (m 20 1) = nI 5 then (Option.bind (z_go z_SH z_P d 60 [.ref 20, .int x1] m) (fun r6 => z_g (z_isb r6.1) (some (r6.1, 0, r6.2.2)))) else if (m 20 1) = nI 6 then (if x1 = 59 then (Option.bind (z_go z_SH z_P d 58 [.ref 20] m) (fun r7 => if r7.1 = 0 then (some (0, 0, r7.2.2)) else (some (1, 0, r7.2.2)))) else (some (0, 0, m))) else (Option.bind (z_go z_SH z_P d 60 [.ref 20, .int x1] m) (fun r8 => z_g (z_isb r8.1) (some (r8.1, 0, r8.2.2)))) := (z_go_c (me := me_X8_goesOn) rfl rfl).trans (e_X8_goesOn_0 0 (fun _ => 0) (z_go z_SH z_P d) 199999 x1 m)
set_option maxRecDepth 100000 in
theorem c_X8_nextSign (d : Nat) (x1 : Int32) (m : z_M) : z_go z_SH z_P (d + 1) 57 [.ref 20, .int x1] m = if 5 ≤ (m 21 2) then (some (0, 0, m)) else (Option.bind (z_go z_SH z_P d 94 [.int x1, .int 49, .int 57] m) (fun r1 => if r1.1 = 0 then (some (0, 0, r1.2.2)) else (z_g (z_in 5 (r1.2.2 21 2)) (some (1, 0, z_up (z_up r1.2.2 22 (r1.2.2 21 2).toNatClampNeg (x1 - 48)) 21 2 (((z_up r1.2.2 22 (r1.2.2 21 2).toNatClampNeg (x1 - 48)) 21 2) + 1)))))) := (z_go_c (me := me_X8_nextSign) rfl rfl).trans (e_X8_nextSign_0 0 (fun _ => 0) (z_go z_SH z_P d) 199999 x1 m)
set_option maxRecDepth 100000 in
theorem c_X8_nextGuest (d : Nat) (m : z_M) : z_go z_SH z_P (d + 1) 58 [.ref 20] m = if 6 ≤ ((z_up m 20 1 2) 21 3) then (some (0, 0, z_up m 20 1 2)) else (some (1, 0, z_up m 20 1 2)) := (z_go_c (me := me_X8_nextGuest) rfl rfl).trans (e_X8_nextGuest_0 0 (fun _ => 0) (z_go z_SH z_P d) 199999 m)
set_option maxRecDepth 100000 in
theorem c_X8_letter (d : Nat) (x1 : Int32) (m : z_M) : z_go z_SH z_P (d + 1) 59 [.ref 20, .int x1] m = if x1 = 109 then (if (0 : Int32) = (-9) then (some (0, 0, m)) else (z_g (z_in 6 (m 21 3)) (z_g (z_okc z_SH (24 + (m 21 3).toNatClampNeg) 1) (Option.bind (z_go z_SH z_P d 9 [.ref (24 + (m 21 3).toNatClampNeg), .int 0] m) (fun r1 => some (1, 0, z_up r1.2.2 20 1 3)))))) else (if x1 = 99 then (if (1 : Int32) = (-9) then (some (0, 0, m)) else (z_g (z_in 6 (m 21 3)) (z_g (z_okc z_SH (24 + (m 21 3).toNatClampNeg) 1) (Option.bind (z_go z_SH z_P d 9 [.ref (24 + (m 21 3).toNatClampNeg), .int 1] m) (fun r2 => some (1, 0, z_up r2.2.2 20 1 3)))))) else (if x1 = 98 then (if (2 : Int32) = (-9) then (some (0, 0, m)) else (z_g (z_in 6 (m 21 3)) (z_g (z_okc z_SH (24 + (m 21 3).toNatClampNeg) 1) (Option.bind (z_go z_SH z_P d 9 [.ref (24 + (m 21 3).toNatClampNeg), .int 2] m) (fun r3 => some (1, 0, z_up r3.2.2 20 1 3)))))) else (if ((-9) : Int32) = (-9) then (some (0, 0, m)) else (z_g (z_in 6 (m 21 3)) (z_g (z_okc z_SH (24 + (m 21 3).toNatClampNeg) 1) (Option.bind (z_go z_SH z_P d 9 [.ref (24 + (m 21 3).toNatClampNeg), .int (-9)] m) (fun r4 => some (1, 0, z_up r4.2.2 20 1 3)))))))) := (z_go_c (me := me_X8_letter) rfl rfl).trans (e_X8_letter_0 0 (fun _ => 0) (z_go z_SH z_P d) 199999 x1 m)
set_option maxRecDepth 100000 in
theorem c_X8_digitOfGuest (d : Nat) (x1 : Int32) (m : z_M) : z_go z_SH z_P (d + 1) 60 [.ref 20, .int x1] m = z_g (z_in 6 (m 21 3)) (if (m 20 1) = 5 then (z_g (z_okp z_SH (24 + (m 21 3).toNatClampNeg) 1 3 0) (Option.bind (z_go z_SH z_P d 94 [.int x1, .int 48, .int 53] (z_up (z_up (z_up m (24 + (m 21 3).toNatClampNeg) 3 (x1 - 48)) 21 3 (((z_up m (24 + (m 21 3).toNatClampNeg) 3 (x1 - 48)) 21 3) + 1)) 20 1 6)) (fun r1 => z_g (z_isb r1.1) (some (r1.1, 0, r1.2.2))))) else (if (m 20 1) = 3 then (z_g (z_okp z_SH (24 + (m 21 3).toNatClampNeg) 1 1 0) (Option.bind (z_go z_SH z_P d 94 [.int x1, .int 49, .int 57] (z_up (z_up m (24 + (m 21 3).toNatClampNeg) 1 (x1 - 48)) 20 1 4)) (fun r2 => z_g (z_isb r2.1) (some (r2.1, 0, r2.2.2))))) else (z_g (z_okp z_SH (24 + (m 21 3).toNatClampNeg) 1 2 0) (Option.bind (z_go z_SH z_P d 94 [.int x1, .int 49, .int 57] (z_up (z_up m (24 + (m 21 3).toNatClampNeg) 2 (x1 - 48)) 20 1 5)) (fun r3 => z_g (z_isb r3.1) (some (r3.1, 0, r3.2.2))))))) := (z_go_c (me := me_X8_digitOfGuest) rfl rfl).trans (e_X8_digitOfGuest_0 0 (fun _ => 0) (z_go z_SH z_P d) 199999 x1 m)
set_option maxRecDepth 100000 in
theorem c_X9_hotel (d : Nat) (x1 : Int32) (x2 : Int32) (x3 : Int32) (x4 : Int32) (m : z_M) : z_go z_SH z_P (d + 1) 62 [.ref 0, .int x1, .int x2, .int x3, .int x4] m = Option.bind (z_go z_SH z_P d 95 [.int x1] (z_up m 0 10 0)) (fun r1 => if r1.1 = 0 then (some ((-1), 0, r1.2.2)) else (Option.bind (z_go z_SH z_P d 94 [.int x2, .int 0, .int 2] r1.2.2) (fun r2 => if r2.1 = 0 then (some ((-2), 0, r2.2.2)) else (z_g (z_in 4 x1) (z_g (z_okc z_SH (51 + 2 * x1.toNatClampNeg) 4) (Option.bind (z_go z_SH z_P d 34 [.ref (51 + 2 * x1.toNatClampNeg), .int x2] r2.2.2) (fun r3 => if r3.1 = 0 then (if 0 ≤ x4 then (z_g (z_okc z_SH (51 + 2 * x1.toNatClampNeg) 4) (Option.bind (z_go z_SH z_P d 36 [.ref (51 + 2 * x1.toNatClampNeg), .int x3, .int x4] r3.2.2) (fun r4 => if r4.1 = 0 then (Option.bind (z_go z_SH z_P d 55 [.ref 20, .ref (51 + 2 * x1.toNatClampNeg), .int x3, .int x4] r4.2.2) (fun r5 => if r5.1 = (-9) then (Option.bind (z_go z_SH z_P d 14 [.ref 2, .ref 21] r5.2.2) (fun r6 => some ((z_up r6.2.2 40 3 0) 2 3, 0, z_up r6.2.2 40 3 0))) else (some ((-100) - r5.1, 0, r5.2.2)))) else (Option.bind (z_go z_SH z_P d 99 [.ref 0, .int r4.1] r4.2.2) (fun r7 => some (r7.1, 0, r7.2.2)))))) else (if (4 : Int32) = 0 then (Option.bind (z_go z_SH z_P d 55 [.ref 20, .ref (51 + 2 * x1.toNatClampNeg), .int x3, .int x4] r3.2.2) (fun r8 => if r8.1 = (-9) then (Option.bind (z_go z_SH z_P d 14 [.ref 2, .ref 21] r8.2.2) (fun r9 => some ((z_up r9.2.2 40 3 0) 2 3, 0, z_up r9.2.2 40 3 0))) else (some ((-100) - r8.1, 0, r8.2.2)))) else (Option.bind (z_go z_SH z_P d 99 [.ref 0, .int 4] r3.2.2) (fun r10 => some (r10.1, 0, r10.2.2))))) else (if r3.1 = 0 then (Option.bind (z_go z_SH z_P d 55 [.ref 20, .ref (51 + 2 * x1.toNatClampNeg), .int x3, .int x4] r3.2.2) (fun r11 => if r11.1 = (-9) then (Option.bind (z_go z_SH z_P d 14 [.ref 2, .ref 21] r11.2.2) (fun r12 => some ((z_up r12.2.2 40 3 0) 2 3, 0, z_up r12.2.2 40 3 0))) else (some ((-100) - r11.1, 0, r11.2.2)))) else (Option.bind (z_go z_SH z_P d 99 [.ref 0, .int r3.1] r3.2.2) (fun r13 => some (r13.1, 0, r13.2.2))))))))))) := (z_go_c (me := me_X9_hotel) rfl rfl).trans (e_X9_hotel_0 0 (fun _ => 0) (z_go z_SH z_P d) 199999 x1 x2 x3 x4 m)
set_option maxRecDepth 100000 in
theorem c_X9_ofGuest (d : Nat) (x1 : Int32) (x2 : Int32) (m : z_M) : z_go z_SH z_P (d + 1) 63 [.ref 0, .int x1, .int x2] m = Option.bind (z_go z_SH z_P d 97 [.ref 0, .int x1] m) (fun r1 => if r1.1 = 0 then (some ((-1), 0, r1.2.2)) else (z_g (z_in 6 x1) (if x2 = nI 0 then (z_g (z_okp z_SH (5 + x1.toNatClampNeg) 1 0 0) (some (r1.2.2 (5 + x1.toNatClampNeg) 0, 0, r1.2.2))) else if x2 = nI 1 then (z_g (z_okp z_SH (5 + x1.toNatClampNeg) 1 1 0) (some (r1.2.2 (5 + x1.toNatClampNeg) 1, 0, r1.2.2))) else if x2 = nI 2 then (z_g (z_okp z_SH (5 + x1.toNatClampNeg) 1 2 0) (some (r1.2.2 (5 + x1.toNatClampNeg) 2, 0, r1.2.2))) else if x2 = nI 3 then (z_g (z_okp z_SH (5 + x1.toNatClampNeg) 1 3 0) (some (r1.2.2 (5 + x1.toNatClampNeg) 3, 0, r1.2.2))) else if x2 = nI 4 then (z_g (z_okp z_SH (5 + x1.toNatClampNeg) 1 4 0) (some (r1.2.2 (5 + x1.toNatClampNeg) 4, 0, r1.2.2))) else if x2 = nI 5 then (z_g (z_okp z_SH (5 + x1.toNatClampNeg) 1 5 1) (if (z_b (r1.2.2 (5 + x1.toNatClampNeg) 5)) = 0 then (some (0, 0, r1.2.2)) else (some (1, 0, r1.2.2)))) else if x2 = nI 6 then (z_g (z_okp z_SH (5 + x1.toNatClampNeg) 1 6 1) (if (z_b (r1.2.2 (5 + x1.toNatClampNeg) 6)) = 0 then (some (0, 0, r1.2.2)) else (some (1, 0, r1.2.2)))) else (some ((-2), 0, r1.2.2))))) := (z_go_c (me := me_X9_ofGuest) rfl rfl).trans (e_X9_ofGuest_0 0 (fun _ => 0) (z_go z_SH z_P d) 199999 x1 x2 m)
set_option maxRecDepth 100000 in
theorem c_X9_hint (d : Nat) (x1 : Int32) (m : z_M) : z_go z_SH z_P (d + 1) 64 [.ref 0, .int x1] m = Option.bind (z_go z_SH z_P d 96 [.ref 0, .int x1] m) (fun r1 => if r1.1 = 0 then (some ((-1), 0, r1.2.2)) else (z_g (z_in 5 x1) (some (r1.2.2 3 x1.toNatClampNeg, 0, r1.2.2)))) := (z_go_c (me := me_X9_hint) rfl rfl).trans (e_X9_hint_0 0 (fun _ => 0) (z_go z_SH z_P d) 199999 x1 m)
set_option maxRecDepth 100000 in
theorem c_X9_word (d : Nat) (x1 : Int32) (x2 : Int32) (m : z_M) : z_go z_SH z_P (d + 1) 65 [.ref 0, .int x1, .int x2] m = Option.bind (z_go z_SH z_P d 96 [.ref 0, .int x1] m) (fun r1 => if r1.1 = 0 then (some ((-1), 0, r1.2.2)) else (Option.bind (z_go z_SH z_P d 94 [.int x2, .int 1, .int 9] r1.2.2) (fun r2 => if r2.1 = 0 then (some ((-2), 0, r2.2.2)) else (z_g (z_in 5 x1) (z_g (z_in 5 x1) (some (r2.2.2 3 x1.toNatClampNeg, 0, z_up r2.2.2 3 x1.toNatClampNeg x2))))))) := (z_go_c (me := me_X9_word) rfl rfl).trans (e_X9_word_0 0 (fun _ => 0) (z_go z_SH z_P d) 199999 x1 x2 m)
set_option maxRecDepth 100000 in
theorem c_X9_weighs (d : Nat) (x1 : Int32) (x2 : Int32) (m : z_M) : z_go z_SH z_P (d + 1) 66 [.ref 0, .int x1, .int x2] m = Option.bind (z_go z_SH z_P d 96 [.ref 0, .int x1] m) (fun r1 => if r1.1 = 0 then (some ((-1), 0, r1.2.2)) else (Option.bind (z_go z_SH z_P d 97 [.ref 0, .int x2] r1.2.2) (fun r2 => if r2.1 = 0 then (some ((-1), 0, r2.2.2)) else (Option.bind (z_go z_SH z_P d 15 [.ref 2, .int x1, .int x2] r2.2.2) (fun r3 => some (r3.1, 0, r3.2.2)))))) := (z_go_c (me := me_X9_weighs) rfl rfl).trans (e_X9_weighs_0 0 (fun _ => 0) (z_go z_SH z_P d) 199999 x1 x2 m)
set_option maxRecDepth 100000 in
theorem c_X9_seat (d : Nat) (x1 : Int32) (x2 : Int32) (m : z_M) : z_go z_SH z_P (d + 1) 67 [.ref 0, .int x1, .int x2] m = Option.bind (z_go z_SH z_P d 97 [.ref 0, .int x1] m) (fun r1 => if r1.1 = 0 then (some ((-1), 0, r1.2.2)) else (Option.bind (z_go z_SH z_P d 94 [.int x2, .int 0, .int 5] r1.2.2) (fun r2 => if r2.1 = 0 then (some ((-2), 0, r2.2.2)) else (z_g (z_in 6 x1) (z_g (z_okp z_SH (5 + x1.toNatClampNeg) 1 3 0) (z_g (z_in 6 x1) (z_g (z_okp z_SH (5 + x1.toNatClampNeg) 1 3 0) (some (r2.2.2 (5 + x1.toNatClampNeg) 3, 0, z_up r2.2.2 (5 + x1.toNatClampNeg) 3 x2))))))))) := (z_go_c (me := me_X9_seat) rfl rfl).trans (e_X9_seat_0 0 (fun _ => 0) (z_go z_SH z_P d) 199999 x1 x2 m)
set_option maxRecDepth 100000 in
theorem c_X9_give (d : Nat) (x1 : Int32) (x2 : Int32) (m : z_M) : z_go z_SH z_P (d + 1) 68 [.ref 0, .int x1, .int x2] m = Option.bind (z_go z_SH z_P d 96 [.ref 0, .int x1] m) (fun r1 => if r1.1 = 0 then (some ((-1), 0, r1.2.2)) else (Option.bind (z_go z_SH z_P d 97 [.ref 0, .int x2] r1.2.2) (fun r2 => if r2.1 = 0 then (some ((-1), 0, r2.2.2)) else (z_g (z_in 6 x2) (z_g (z_okp z_SH (5 + x2.toNatClampNeg) 1 5 1) (if (z_b (r2.2.2 (5 + x2.toNatClampNeg) 5)) = 0 then (Option.bind (z_go z_SH z_P d 19 [.ref 2, .int x1, .int x2] r2.2.2) (fun r3 => some (r3.1, 0, r3.2.2))) else (some ((-3), 0, r2.2.2)))))))) := (z_go_c (me := me_X9_give) rfl rfl).trans (e_X9_give_0 0 (fun _ => 0) (z_go z_SH z_P d) 199999 x1 x2 m)
set_option maxRecDepth 100000 in
theorem c_X9_nights (d : Nat) (x1 : Int32) (m : z_M) : z_go z_SH z_P (d + 1) 69 [.ref 0, .int x1] m = Option.bind (z_go z_SH z_P d 94 [.int x1, .int 1, .int 30] m) (fun r1 => if r1.1 = 0 then (some ((-2), 0, r1.2.2)) else (Option.bind (z_go z_SH z_P d 12 [.ref 2] r1.2.2) (fun r2 => if r2.1 = 0 then (some ((-3), 0, r2.2.2)) else (Option.bind (z_go z_SH z_P d 23 [.ref 2, .int x1] r2.2.2) (fun r3 => Option.bind (z_go z_SH z_P d 24 [.ref 2] r3.2.2) (fun r4 => some (r4.1, 0, r4.2.2))))))) := (z_go_c (me := me_X9_nights) rfl rfl).trans (e_X9_nights_0 0 (fun _ => 0) (z_go z_SH z_P d) 199999 x1 m)
set_option maxRecDepth 100000 in
theorem c_X9_arrive (d : Nat) (x1 : Int32) (x2 : Int32) (x3 : Int32) (x4 : Int32) (m : z_M) : z_go z_SH z_P (d + 1) 70 [.ref 0, .int x1, .int x2, .int x3, .int x4] m = Option.bind (z_go z_SH z_P d 94 [.int x1, .int 0, .int 2] m) (fun r1 => if r1.1 = 0 then (some ((-2), 0, r1.2.2)) else (Option.bind (z_go z_SH z_P d 94 [.int x2, .int 1, .int 9] r1.2.2) (fun r2 => if r2.1 = 0 then (some ((-2), 0, r2.2.2)) else (Option.bind (z_go z_SH z_P d 94 [.int x3, .int 1, .int 9] r2.2.2) (fun r3 => if r3.1 = 0 then (some ((-2), 0, r3.2.2)) else (Option.bind (z_go z_SH z_P d 94 [.int x4, .int 0, .int 5] r3.2.2) (fun r4 => if r4.1 = 0 then (some ((-2), 0, r4.2.2)) else (Option.bind (z_go z_SH z_P d 12 [.ref 2] r4.2.2) (fun r5 => if r5.1 = 0 then (some ((-3), 0, r5.2.2)) else (if (r5.2.2 2 3) < 6 then (z_g (z_in 6 (r5.2.2 2 3)) (z_g (z_okc z_SH (5 + (r5.2.2 2 3).toNatClampNeg) 1) (Option.bind (z_go z_SH z_P d 9 [.ref (5 + (r5.2.2 2 3).toNatClampNeg), .int x1] r5.2.2) (fun r6 => z_g (z_okp z_SH (5 + (r5.2.2 2 3).toNatClampNeg) 1 1 0) (z_g (z_okp z_SH (5 + (r5.2.2 2 3).toNatClampNeg) 1 2 0) (z_g (z_okp z_SH (5 + (r5.2.2 2 3).toNatClampNeg) 1 3 0) (some (((z_up (z_up (z_up (z_up r6.2.2 (5 + (r5.2.2 2 3).toNatClampNeg) 1 x2) (5 + (r5.2.2 2 3).toNatClampNeg) 2 x3) (5 + (r5.2.2 2 3).toNatClampNeg) 3 x4) 2 3 (((z_up (z_up (z_up r6.2.2 (5 + (r5.2.2 2 3).toNatClampNeg) 1 x2) (5 + (r5.2.2 2 3).toNatClampNeg) 2 x3) (5 + (r5.2.2 2 3).toNatClampNeg) 3 x4) 2 3) + 1)) 2 3) - 1, 0, z_up (z_up (z_up (z_up r6.2.2 (5 + (r5.2.2 2 3).toNatClampNeg) 1 x2) (5 + (r5.2.2 2 3).toNatClampNeg) 2 x3) (5 + (r5.2.2 2 3).toNatClampNeg) 3 x4) 2 3 (((z_up (z_up (z_up r6.2.2 (5 + (r5.2.2 2 3).toNatClampNeg) 1 x2) (5 + (r5.2.2 2 3).toNatClampNeg) 2 x3) (5 + (r5.2.2 2 3).toNatClampNeg) 3 x4) 2 3) + 1))))))))) else (some ((-4), 0, r5.2.2)))))))))))) := (z_go_c (me := me_X9_arrive) rfl rfl).trans (e_X9_arrive_0 0 (fun _ => 0) (z_go z_SH z_P d) 199999 x1 x2 x3 x4 m)
set_option maxRecDepth 100000 in
theorem c_X9_leave (d : Nat) (x1 : Int32) (m : z_M) : z_go z_SH z_P (d + 1) 71 [.ref 0, .int x1] m = Option.bind (z_go z_SH z_P d 97 [.ref 0, .int x1] m) (fun r1 => if r1.1 = 0 then (some ((-1), 0, r1.2.2)) else (if (r1.2.2 2 3) = 1 then (some ((-3), 0, r1.2.2)) else (Option.bind (z_go z_SH z_P d 25 [.ref 2, .int x1] r1.2.2) (fun r2 => some ((z_up r2.2.2 40 3 0) 2 3, 0, z_up r2.2.2 40 3 0))))) := (z_go_c (me := me_X9_leave) rfl rfl).trans (e_X9_leave_0 0 (fun _ => 0) (z_go z_SH z_P d) 199999 x1 m)
set_option maxRecDepth 100000 in
theorem c_X9_dinner (d : Nat) (x1 : Int32) (x2 : Int32) (x3 : Int32) (x4 : Int32) (x5 : Int32) (m : z_M) : z_go z_SH z_P (d + 1) 72 [.ref 0, .int x1, .int x2, .int x3, .int x4, .int x5] m = Option.bind (z_go z_SH z_P d 95 [.int x1] (z_up m 0 10 0)) (fun r1 => if r1.1 = 0 then (some ((-1), 0, r1.2.2)) else (Option.bind (z_go z_SH z_P d 94 [.int x2, .int 0, .int 2] r1.2.2) (fun r2 => if r2.1 = 0 then (some ((-2), 0, r2.2.2)) else (Option.bind (z_go z_SH z_P d 94 [.int x4, .int 0, .int 20] r2.2.2) (fun r3 => if r3.1 = 0 then (some ((-2), 0, r3.2.2)) else (Option.bind (z_go z_SH z_P d 98 [.int x5] r3.2.2) (fun r4 => if r4.1 = 0 then (some ((-2), 0, r4.2.2)) else (z_g (z_in 4 x1) (z_g (z_okc z_SH (51 + 2 * x1.toNatClampNeg) 4) (Option.bind (z_go z_SH z_P d 34 [.ref (51 + 2 * x1.toNatClampNeg), .int x2] r4.2.2) (fun r5 => if r5.1 = 0 then (z_g (z_okc z_SH (51 + 2 * x1.toNatClampNeg) 4) (Option.bind (z_go z_SH z_P d 36 [.ref (51 + 2 * x1.toNatClampNeg), .int x3, .int (2 * x4)] r5.2.2) (fun r6 => if r6.1 = 0 then (Option.bind (z_go z_SH z_P d 12 [.ref 2] r6.2.2) (fun r7 => if r7.1 = 0 then (some ((-3), 0, r7.2.2)) else (Option.bind (z_go z_SH z_P d 1 [.ref 30, .int (r7.2.2 2 3), .ref (51 + 2 * x1.toNatClampNeg), .int x3, .int x4] r7.2.2) (fun r8 => if r8.1 = 0 then (Option.bind (z_go z_SH z_P d 2 [.ref 30, .ref 2, .ref (51 + 2 * x1.toNatClampNeg), .int x3, .int x4] r8.2.2) (fun r9 => Option.bind (z_go z_SH z_P d 4 [.ref 30, .int x5] r9.2.2) (fun r10 => some (r10.1, 0, r10.2.2)))) else (some (r8.1, 0, r8.2.2)))))) else (Option.bind (z_go z_SH z_P d 99 [.ref 0, .int r6.1] r6.2.2) (fun r11 => some (r11.1, 0, r11.2.2)))))) else (if r5.1 = 0 then (Option.bind (z_go z_SH z_P d 12 [.ref 2] r5.2.2) (fun r12 => if r12.1 = 0 then (some ((-3), 0, r12.2.2)) else (Option.bind (z_go z_SH z_P d 1 [.ref 30, .int (r12.2.2 2 3), .ref (51 + 2 * x1.toNatClampNeg), .int x3, .int x4] r12.2.2) (fun r13 => if r13.1 = 0 then (Option.bind (z_go z_SH z_P d 2 [.ref 30, .ref 2, .ref (51 + 2 * x1.toNatClampNeg), .int x3, .int x4] r13.2.2) (fun r14 => Option.bind (z_go z_SH z_P d 4 [.ref 30, .int x5] r14.2.2) (fun r15 => some (r15.1, 0, r15.2.2)))) else (some (r13.1, 0, r13.2.2)))))) else (Option.bind (z_go z_SH z_P d 99 [.ref 0, .int r5.1] r5.2.2) (fun r16 => some (r16.1, 0, r16.2.2))))))))))))))) := (z_go_c (me := me_X9_dinner) rfl rfl).trans (e_X9_dinner_0 0 (fun _ => 0) (z_go z_SH z_P d) 199999 x1 x2 x3 x4 x5 m)
set_option maxRecDepth 100000 in
theorem c_X9_softly (d : Nat) (x1 : Int32) (x2 : Int32) (m : z_M) : z_go z_SH z_P (d + 1) 73 [.ref 0, .int x1, .int x2] m = Option.bind (z_go z_SH z_P d 97 [.ref 0, .int x1] m) (fun r1 => if r1.1 = 0 then (some ((-1), 0, r1.2.2)) else (Option.bind (z_go z_SH z_P d 94 [.int x2, .int (-1), .int 8] r1.2.2) (fun r2 => if r2.1 = 0 then (some ((-2), 0, r2.2.2)) else (z_g (z_in 6 x1) (z_g (z_okp z_SH (5 + x1.toNatClampNeg) 1 5 1) (if (z_b (r2.2.2 (5 + x1.toNatClampNeg) 5)) = 0 then (if 0 ≤ x2 then (Option.bind (z_go z_SH z_P d 39 [.ref 44, .ref 2, .int x1, .int x2] r2.2.2) (fun r3 => some (r3.1, 0, r3.2.2))) else (Option.bind (z_go z_SH z_P d 38 [.ref 44, .ref 2, .int x1] r2.2.2) (fun r4 => some (r4.1, 0, r4.2.2)))) else (some ((-3), 0, r2.2.2)))))))) := (z_go_c (me := me_X9_softly) rfl rfl).trans (e_X9_softly_0 0 (fun _ => 0) (z_go z_SH z_P d) 199999 x1 x2 m)
set_option maxRecDepth 100000 in
theorem c_X9_just (d : Nat) (x1 : Int32) (x2 : Int32) (x3 : Int32) (m : z_M) : z_go z_SH z_P (d + 1) 74 [.ref 0, .int x1, .int x2, .int x3] m = Option.bind (z_go z_SH z_P d 97 [.ref 0, .int x1] m) (fun r1 => if r1.1 = 0 then (some ((-1), 0, r1.2.2)) else (Option.bind (z_go z_SH z_P d 94 [.int x2, .int 0, .int 6] r1.2.2) (fun r2 => if r2.1 = 0 then (some ((-2), 0, r2.2.2)) else (Option.bind (z_go z_SH z_P d 94 [.int x3, .int 0, .int 54] r2.2.2) (fun r3 => if r3.1 = 0 then (some ((-2), 0, r3.2.2)) else (Option.bind (z_go z_SH z_P d 42 [.ref 44, .ref 2, .int x1, .int x2, .int x3] r3.2.2) (fun r4 => some (r4.1, 0, r4.2.2)))))))) := (z_go_c (me := me_X9_just) rfl rfl).trans (e_X9_just_0 0 (fun _ => 0) (z_go z_SH z_P d) 199999 x1 x2 x3 m)
set_option maxRecDepth 100000 in
theorem c_X9_apart (d : Nat) (x1 : Int32) (m : z_M) : z_go z_SH z_P (d + 1) 75 [.ref 0, .int x1] m = Option.bind (z_go z_SH z_P d 94 [.int x1, .int (-1), .int 5] m) (fun r1 => if r1.1 = 0 then (some ((-2), 0, r1.2.2)) else (Option.bind (z_go z_SH z_P d 12 [.ref 2] r1.2.2) (fun r2 => if r2.1 = 0 then (some ((-3), 0, r2.2.2)) else (Option.bind (z_go z_SH z_P d 50 [.ref 46, .ref 2] r2.2.2) (fun r3 => if 0 ≤ x1 then (z_g (z_in 6 x1) (some (r3.2.2 47 x1.toNatClampNeg, 0, r3.2.2))) else (some (r3.1, 0, r3.2.2))))))) := (z_go_c (me := me_X9_apart) rfl rfl).trans (e_X9_apart_0 0 (fun _ => 0) (z_go z_SH z_P d) 199999 x1 m)
set_option maxRecDepth 100000 in
theorem c_X9_best (d : Nat) (x1 : Int32) (m : z_M) : z_go z_SH z_P (d + 1) 76 [.ref 0, .int x1] m = Option.bind (z_go z_SH z_P d 94 [.int x1, .int (-2), .int 5] m) (fun r1 => if r1.1 = 0 then (some ((-2), 0, r1.2.2)) else (Option.bind (z_go z_SH z_P d 12 [.ref 2] r1.2.2) (fun r2 => if r2.1 = 0 then (some ((-3), 0, r2.2.2)) else (Option.bind (z_go z_SH z_P d 45 [.ref 48, .ref 2] r2.2.2) (fun r3 => if x1 = (-2) then (some (r3.2.2 48 2, 0, r3.2.2)) else (if x1 = (-1) then (some (r3.2.2 48 3, 0, r3.2.2)) else (Option.bind (z_go z_SH z_P d 46 [.ref 48, .int x1] r3.2.2) (fun r4 => some (r4.1, 0, r4.2.2))))))))) := (z_go_c (me := me_X9_best) rfl rfl).trans (e_X9_best_0 0 (fun _ => 0) (z_go z_SH z_P d) 199999 x1 m)
set_option maxRecDepth 100000 in
theorem c_X9_reading (d : Nat) (x1 : Int32) (x2 : Int32) (x3 : Int32) (m : z_M) : z_go z_SH z_P (d + 1) 77 [.ref 0, .int x1, .int x2, .int x3] m = Option.bind (z_go z_SH z_P d 96 [.ref 0, .int x1] m) (fun r1 => if r1.1 = 0 then (some ((-1), 0, r1.2.2)) else (Option.bind (z_go z_SH z_P d 97 [.ref 0, .int x2] r1.2.2) (fun r2 => if r2.1 = 0 then (some ((-1), 0, r2.2.2)) else (Option.bind (z_go z_SH z_P d 94 [.int x3, .int 0, .int 1] r2.2.2) (fun r3 => if r3.1 = 0 then (some ((-2), 0, r3.2.2)) else (if (r3.2.2 40 3) < 8 then (if x3 = 1 then (Option.bind (z_go z_SH z_P d 29 [.ref 40, .int x1, .int x2, .int 1] r3.2.2) (fun r4 => some (r4.1, 0, r4.2.2))) else (Option.bind (z_go z_SH z_P d 29 [.ref 40, .int x1, .int x2, .int 0] r3.2.2) (fun r5 => some (r5.1, 0, r5.2.2)))) else (some ((-4), 0, r3.2.2)))))))) := (z_go_c (me := me_X9_reading) rfl rfl).trans (e_X9_reading_0 0 (fun _ => 0) (z_go z_SH z_P d) 199999 x1 x2 x3 m)
set_option maxRecDepth 100000 in
theorem c_X9_back (d : Nat) (x1 : Int32) (m : z_M) : z_go z_SH z_P (d + 1) 78 [.ref 0, .int x1] m = Option.bind (z_go z_SH z_P d 94 [.int x1, .int 0, .int (m 40 3)] m) (fun r1 => if r1.1 = 0 then (some ((-2), 0, r1.2.2)) else (some ((z_up r1.2.2 40 3 ((r1.2.2 40 3) - x1)) 40 3, 0, z_up r1.2.2 40 3 ((r1.2.2 40 3) - x1)))) := (z_go_c (me := me_X9_back) rfl rfl).trans (e_X9_back_0 0 (fun _ => 0) (z_go z_SH z_P d) 199999 x1 m)
set_option maxRecDepth 100000 in
theorem c_X9_bearings (d : Nat) (x1 : Int32) (m : z_M) : z_go z_SH z_P (d + 1) 79 [.ref 0, .int x1] m = Option.bind (z_go z_SH z_P d 97 [.ref 0, .int x1] m) (fun r1 => if r1.1 = 0 then (some ((-1), 0, r1.2.2)) else (Option.bind (z_go z_SH z_P d 14 [.ref 11, .ref 2] r1.2.2) (fun r2 => z_lp z_SH 0 (fun _ => 0) (z_go z_SH z_P d) me_X9_bearings 199999 25 [some (.ref 0), some (.int x1), some (.int 0), some (.int 1)] [] r2.2.2))) := (z_go_c (me := me_X9_bearings) rfl rfl).trans (e_X9_bearings_0 0 (fun _ => 0) (z_go z_SH z_P d) 199999 x1 m)
set_option maxRecDepth 100000 in
theorem c_X9_kinds (d : Nat) (x1 : Int32) (m : z_M) : z_go z_SH z_P (d + 1) 80 [.ref 0, .int x1] m = Option.bind (z_go z_SH z_P d 97 [.ref 0, .int x1] m) (fun r1 => if r1.1 = 0 then (some ((-1), 0, r1.2.2)) else (Option.bind (z_go z_SH z_P d 14 [.ref 11, .ref 2] r1.2.2) (fun r2 => z_lp z_SH 0 (fun _ => 0) (z_go z_SH z_P d) me_X9_kinds 199999 25 [some (.ref 0), some (.int x1), some (.int 0), some (.int 0)] [] r2.2.2))) := (z_go_c (me := me_X9_kinds) rfl rfl).trans (e_X9_kinds_0 0 (fun _ => 0) (z_go z_SH z_P d) 199999 x1 m)
set_option maxRecDepth 100000 in
theorem c_X9_hintings (d : Nat) (x1 : Int32) (m : z_M) : z_go z_SH z_P (d + 1) 81 [.ref 0, .int x1] m = Option.bind (z_go z_SH z_P d 96 [.ref 0, .int x1] m) (fun r1 => if r1.1 = 0 then (some ((-1), 0, r1.2.2)) else (Option.bind (z_go z_SH z_P d 14 [.ref 11, .ref 2] r1.2.2) (fun r2 => z_lp z_SH 0 (fun _ => 0) (z_go z_SH z_P d) me_X9_hintings 199999 25 [some (.ref 0), some (.int x1), some (.int 0), some (.int 1)] [] r2.2.2))) := (z_go_c (me := me_X9_hintings) rfl rfl).trans (e_X9_hintings_0 0 (fun _ => 0) (z_go z_SH z_P d) 199999 x1 m)
set_option maxRecDepth 100000 in
theorem c_X9_odds (d : Nat) (x1 : Int32) (x2 : Int32) (m : z_M) : z_go z_SH z_P (d + 1) 82 [.ref 0, .int x1, .int x2] m = Option.bind (z_go z_SH z_P d 97 [.ref 0, .int x1] m) (fun r1 => if r1.1 = 0 then (some (0, z_lost, r1.2.2)) else (Option.bind (z_go z_SH z_P d 94 [.int x2, .int 0, .int 1] r1.2.2) (fun r2 => if r2.1 = 0 then (some (0, z_lost, r2.2.2)) else (z_lp z_SH 0 (fun _ => 0) (z_go z_SH z_P d) me_X9_odds 199999 26 [some (.ref 0), some (.int x1), some (.int x2), some (.int 0), some (.int 0)] [] r2.2.2)))) := (z_go_c (me := me_X9_odds) rfl rfl).trans (e_X9_odds_0 0 (fun _ => 0) (z_go z_SH z_P d) 199999 x1 x2 m)
set_option maxRecDepth 100000 in
theorem c_X9_sheet (d : Nat) (x1 : Int32) (x2 : Int32) (x3 : Int32) (m : z_M) : z_go z_SH z_P (d + 1) 83 [.ref 0, .int x1, .int x2, .int x3] m = Option.bind (z_go z_SH z_P d 95 [.int x1] (z_up m 0 10 0)) (fun r1 => if r1.1 = 0 then (some ((-1), 0, r1.2.2)) else (Option.bind (z_go z_SH z_P d 94 [.int x2, .int 0, .int 2] r1.2.2) (fun r2 => if r2.1 = 0 then (some ((-2), 0, r2.2.2)) else (if x3 ≤ 60 then (if 0 ≤ x3 then (z_g (z_in 4 x1) (z_g (z_okc z_SH (51 + 2 * x1.toNatClampNeg) 4) (Option.bind (z_go z_SH z_P d 32 [.ref (51 + 2 * x1.toNatClampNeg), .int x2, .int x3] r2.2.2) (fun r3 => some (1, 0, r3.2.2))))) else (Option.bind (z_go z_SH z_P d 99 [.ref 0, .int 4] r2.2.2) (fun r4 => some (r4.1, 0, r4.2.2)))) else (some ((-2), 0, r2.2.2)))))) := (z_go_c (me := me_X9_sheet) rfl rfl).trans (e_X9_sheet_0 0 (fun _ => 0) (z_go z_SH z_P d) 199999 x1 x2 x3 m)
set_option maxRecDepth 100000 in
theorem c_X9_lose (d : Nat) (x1 : Int32) (m : z_M) : z_go z_SH z_P (d + 1) 84 [.ref 0, .int x1] m = Option.bind (z_go z_SH z_P d 95 [.int x1] m) (fun r1 => if r1.1 = 0 then (some ((-1), 0, r1.2.2)) else (z_g (z_in 4 x1) (z_g (z_okp z_SH (51 + 2 * x1.toNatClampNeg) 4 1 1) (z_g (z_in 4 x1) (z_g (z_okp z_SH (51 + 2 * x1.toNatClampNeg) 4 1 1 && z_isb 0) (if (z_b (r1.2.2 (51 + 2 * x1.toNatClampNeg) 1)) = 0 then (some (0, 0, z_up r1.2.2 (51 + 2 * x1.toNatClampNeg) 1 0)) else (some (1, 0, z_up r1.2.2 (51 + 2 * x1.toNatClampNeg) 1 0)))))))) := (z_go_c (me := me_X9_lose) rfl rfl).trans (e_X9_lose_0 0 (fun _ => 0) (z_go z_SH z_P d) 199999 x1 m)
set_option maxRecDepth 100000 in
theorem c_X9_put (d : Nat) (x1 : Int32) (x2 : Int32) (x3 : Int32) (m : z_M) : z_go z_SH z_P (d + 1) 85 [.ref 0, .int x1, .int x2, .int x3] m = Option.bind (z_go z_SH z_P d 95 [.int x1] (z_up m 0 10 0)) (fun r1 => if r1.1 = 0 then (some ((-1), 0, r1.2.2)) else (z_g (z_in 4 x1) (z_g (z_okc z_SH (51 + 2 * x1.toNatClampNeg) 4) (Option.bind (z_go z_SH z_P d 35 [.ref (51 + 2 * x1.toNatClampNeg), .int x2] r1.2.2) (fun r2 => if r2.1 = 0 then (z_g (z_in 4 x1) (z_g (z_okc z_SH (51 + 2 * x1.toNatClampNeg) 4) (Option.bind (z_go z_SH z_P d 33 [.ref (51 + 2 * x1.toNatClampNeg), .int x2, .int x3] r2.2.2) (fun r3 => some (1, 0, r3.2.2))))) else (Option.bind (z_go z_SH z_P d 99 [.ref 0, .int r2.1] r2.2.2) (fun r4 => some (r4.1, 0, r4.2.2)))))))) := (z_go_c (me := me_X9_put) rfl rfl).trans (e_X9_put_0 0 (fun _ => 0) (z_go z_SH z_P d) 199999 x1 x2 x3 m)
set_option maxRecDepth 100000 in
theorem c_X9_cell (d : Nat) (x1 : Int32) (x2 : Int32) (x3 : Int32) (m : z_M) : z_go z_SH z_P (d + 1) 86 [.ref 0, .int x1, .int x2, .int x3] m = Option.bind (z_go z_SH z_P d 95 [.int x1] (z_up m 0 10 0)) (fun r1 => if r1.1 = 0 then (some (0, z_lost, r1.2.2)) else (Option.bind (z_go z_SH z_P d 94 [.int x3, .int 0, .int 2] r1.2.2) (fun r2 => if r2.1 = 0 then (some (0, z_lost, r2.2.2)) else (z_g (z_in 4 x1) (z_g (z_okc z_SH (51 + 2 * x1.toNatClampNeg) 4) (Option.bind (z_go z_SH z_P d 34 [.ref (51 + 2 * x1.toNatClampNeg), .int x3] r2.2.2) (fun r3 => if r3.1 = 0 then (z_g (z_in 4 x1) (z_g (z_okc z_SH (51 + 2 * x1.toNatClampNeg) 4) (Option.bind (z_go z_SH z_P d 35 [.ref (51 + 2 * x1.toNatClampNeg), .int x2] r3.2.2) (fun r4 => if r4.1 = 0 then (z_g (z_in 4 x1) (Option.bind (z_ref z_SH (51 + 2 * x1.toNatClampNeg) 4 0) (fun r5 => z_g (z_ina z_SH r5 0 x2) (some (0, (r4.2.2 r5 x2.toNatClampNeg).toInt64, r4.2.2))))) else (some (0, z_lost, z_up r4.2.2 0 10 r4.1)))))) else (if r3.1 = 0 then (z_g (z_in 4 x1) (Option.bind (z_ref z_SH (51 + 2 * x1.toNatClampNeg) 4 0) (fun r6 => z_g (z_ina z_SH r6 0 x2) (some (0, (r3.2.2 r6 x2.toNatClampNeg).toInt64, r3.2.2))))) else (some (0, z_lost, z_up r3.2.2 0 10 r3.1)))))))))) := (z_go_c (me := me_X9_cell) rfl rfl).trans (e_X9_cell_0 0 (fun _ => 0) (z_go z_SH z_P d) 199999 x1 x2 x3 m)
set_option maxRecDepth 100000 in
theorem c_X9_copy (d : Nat) (x1 : Int32) (x2 : Int32) (x3 : Int32) (x4 : Int32) (x5 : Int32) (m : z_M) : z_go z_SH z_P (d + 1) 87 [.ref 0, .int x1, .int x2, .int x3, .int x4, .int x5] m = Option.bind (z_go z_SH z_P d 95 [.int x1] (z_up m 0 10 0)) (fun r1 => if r1.1 = 0 then (some ((-1), 0, r1.2.2)) else (Option.bind (z_go z_SH z_P d 95 [.int x3] r1.2.2) (fun r2 => if r2.1 = 0 then (some ((-1), 0, r2.2.2)) else (z_g (z_in 4 x1) (z_g (z_in 4 x3) (z_g (z_okp z_SH (51 + 2 * x1.toNatClampNeg) 4 1 1) (if (z_b (r2.2.2 (51 + 2 * x1.toNatClampNeg) 1)) = 0 then (Option.bind (z_go z_SH z_P d 99 [.ref 0, .int 1] r2.2.2) (fun r3 => some (r3.1, 0, r3.2.2))) else (z_g (z_okp z_SH (51 + 2 * x3.toNatClampNeg) 4 1 1) (if (z_b (r2.2.2 (51 + 2 * x3.toNatClampNeg) 1)) = 0 then (Option.bind (z_go z_SH z_P d 99 [.ref 0, .int 1] r2.2.2) (fun r4 => some (r4.1, 0, r4.2.2))) else (z_g (z_okp z_SH (51 + 2 * x1.toNatClampNeg) 4 2 0) (z_g (z_okp z_SH (51 + 2 * x3.toNatClampNeg) 4 2 0) (if (r2.2.2 (51 + 2 * x1.toNatClampNeg) 2) = (r2.2.2 (51 + 2 * x3.toNatClampNeg) 2) then (z_g (z_okc z_SH (51 + 2 * x1.toNatClampNeg) 4) (Option.bind (z_go z_SH z_P d 36 [.ref (51 + 2 * x1.toNatClampNeg), .int x2, .int x5] r2.2.2) (fun r5 => if r5.1 = 0 then (z_g (z_okc z_SH (51 + 2 * x3.toNatClampNeg) 4) (Option.bind (z_go z_SH z_P d 36 [.ref (51 + 2 * x3.toNatClampNeg), .int x4, .int x5] r5.2.2) (fun r6 => if r6.1 = 0 then (Option.bind (z_ref z_SH (51 + 2 * x1.toNatClampNeg) 4 0) (fun r7 => Option.bind (z_ref z_SH (51 + 2 * x3.toNatClampNeg) 4 0) (fun r8 => z_g (z_copy z_SH r7 r8 x2 x4 x5) (some (x5, 0, (fun q => if q = r8 then va_cpy (r6.2.2 r7) (r6.2.2 r8) x2.toNatClampNeg x4.toNatClampNeg x5.toNatClampNeg else r6.2.2 q)))))) else (Option.bind (z_go z_SH z_P d 99 [.ref 0, .int 3] r6.2.2) (fun r9 => some (r9.1, 0, r9.2.2)))))) else (Option.bind (z_go z_SH z_P d 99 [.ref 0, .int 3] r5.2.2) (fun r10 => some (r10.1, 0, r10.2.2)))))) else (Option.bind (z_go z_SH z_P d 99 [.ref 0, .int 2] r2.2.2) (fun r11 => some (r11.1, 0, r11.2.2))))))))))))))) := (z_go_c (me := me_X9_copy) rfl rfl).trans (e_X9_copy_0 0 (fun _ => 0) (z_go z_SH z_P d) 199999 x1 x2 x3 x4 x5 m)
set_option maxRecDepth 100000 in
theorem c_X9_tell (d : Nat) (x1 : Int32) (m : z_M) : z_go z_SH z_P (d + 1) 88 [.ref 0, .int x1] m = Option.bind (z_go z_SH z_P d 97 [.ref 0, .int x1] m) (fun r1 => if r1.1 = 0 then (some ((-1), 0, r1.2.2)) else (z_g (z_in 6 x1) (z_g (z_okp z_SH (5 + x1.toNatClampNeg) 1 0 0) (if (r1.2.2 (5 + x1.toNatClampNeg) 0) = nI 0 then (Option.bind (z_go z_SH z_P d 102 [.ref 0, .int x1] r1.2.2) (fun r2 => some (r2.1, 0, r2.2.2))) else if (r1.2.2 (5 + x1.toNatClampNeg) 0) = nI 1 then (Option.bind (z_go z_SH z_P d 103 [.ref 0, .int x1] r1.2.2) (fun r3 => some (r3.1, 0, r3.2.2))) else (Option.bind (z_go z_SH z_P d 104 [.ref 0, .int x1] r1.2.2) (fun r4 => some (r4.1, 0, r4.2.2))))))) := (z_go_c (me := me_X9_tell) rfl rfl).trans (e_X9_tell_0 0 (fun _ => 0) (z_go z_SH z_P d) 199999 x1 m)
set_option maxRecDepth 100000 in
theorem c_X9_bow (d : Nat) (x1 : Int32) (m : z_M) : z_go z_SH z_P (d + 1) 89 [.ref 0, .int x1] m = Option.bind (z_go z_SH z_P d 97 [.ref 0, .int x1] m) (fun r1 => if r1.1 = 0 then (some ((-1), 0, r1.2.2)) else (z_g (z_in 6 x1) (z_g (z_okp z_SH (5 + x1.toNatClampNeg) 1 0 0) (if (r1.2.2 (5 + x1.toNatClampNeg) 0) = 2 then (Option.bind (z_go z_SH z_P d 101 [.ref 0, .int 5] r1.2.2) (fun r2 => some (70, 0, r2.2.2))) else (Option.bind (z_go z_SH z_P d 101 [.ref 0, .int 4] r1.2.2) (fun r3 => z_g (z_in 6 x1) (z_g (z_okp z_SH (5 + x1.toNatClampNeg) 1 3 0) (some (r3.2.2 (5 + x1.toNatClampNeg) 3, 0, r3.2.2))))))))) := (z_go_c (me := me_X9_bow) rfl rfl).trans (e_X9_bow_0 0 (fun _ => 0) (z_go z_SH z_P d) 199999 x1 m)
set_option maxRecDepth 100000 in
theorem c_X9_as (d : Nat) (x1 : Int32) (x2 : Int32) (m : z_M) : z_go z_SH z_P (d + 1) 90 [.ref 0, .int x1, .int x2] m = Option.bind (z_go z_SH z_P d 97 [.ref 0, .int x1] (z_up m 0 10 0)) (fun r1 => if r1.1 = 0 then (some ((-1), 0, r1.2.2)) else (Option.bind (z_go z_SH z_P d 94 [.int x2, .int 0, .int 2] r1.2.2) (fun r2 => if r2.1 = 0 then (some ((-2), 0, r2.2.2)) else (z_g (z_in 6 x1) (z_g (z_okp z_SH (5 + x1.toNatClampNeg) 1 0 0) (if (r2.2.2 (5 + x1.toNatClampNeg) 0) < x2 then (Option.bind (z_go z_SH z_P d 99 [.ref 0, .int 2] r2.2.2) (fun r3 => some (r3.1, 0, r3.2.2))) else (some (1, 0, r2.2.2)))))))) := (z_go_c (me := me_X9_as) rfl rfl).trans (e_X9_as_0 0 (fun _ => 0) (z_go z_SH z_P d) 199999 x1 x2 m)
set_option maxRecDepth 100000 in
theorem c_X9_trace (d : Nat) (m : z_M) : z_go z_SH z_P (d + 1) 91 [.ref 0] m = some (m 0 9, 0, m) := (z_go_c (me := me_X9_trace) rfl rfl).trans (e_X9_trace_0 0 (fun _ => 0) (z_go z_SH z_P d) 199999 m)
set_option maxRecDepth 100000 in
theorem c_X9_fault (d : Nat) (m : z_M) : z_go z_SH z_P (d + 1) 92 [.ref 0] m = some (m 0 10, 0, m) := (z_go_c (me := me_X9_fault) rfl rfl).trans (e_X9_fault_0 0 (fun _ => 0) (z_go z_SH z_P d) 199999 m)
set_option maxRecDepth 100000 in
theorem c_X9_many (d : Nat) (x1 : Int32) (m : z_M) : z_go z_SH z_P (d + 1) 93 [.ref 0, .int x1] m = if x1 = nI 0 then (some (m 2 3, 0, m)) else if x1 = nI 1 then (some (m 2 2, 0, m)) else if x1 = nI 2 then (some (m 2 4, 0, m)) else if x1 = nI 3 then (Option.bind (z_go z_SH z_P d 26 [.ref 2] m) (fun r1 => Option.bind (z_go z_SH z_P d 178 [.int r1.1] r1.2.2) (fun r2 => some (r2.1, 0, r2.2.2)))) else if x1 = nI 4 then (some (m 40 3, 0, m)) else (some ((-2), 0, m)) := (z_go_c (me := me_X9_many) rfl rfl).trans (e_X9_many_0 0 (fun _ => 0) (z_go z_SH z_P d) 199999 x1 m)
set_option maxRecDepth 100000 in
theorem c_X9_within (d : Nat) (x1 : Int32) (x2 : Int32) (x3 : Int32) (m : z_M) : z_go z_SH z_P (d + 1) 94 [.int x1, .int x2, .int x3] m = if x1 < x2 then (some (0, 0, m)) else (if x3 < x1 then (some (0, 0, m)) else (some (1, 0, m))) := (z_go_c (me := me_X9_within) rfl rfl).trans (e_X9_within_0 0 (fun _ => 0) (z_go z_SH z_P d) 199999 x1 x2 x3 m)
set_option maxRecDepth 100000 in
theorem c_X9_isSheet (d : Nat) (x1 : Int32) (m : z_M) : z_go z_SH z_P (d + 1) 95 [.int x1] m = Option.bind (z_go z_SH z_P d 94 [.int x1, .int 0, .int 3] m) (fun r1 => z_g (z_isb r1.1) (some (r1.1, 0, r1.2.2))) := (z_go_c (me := me_X9_isSheet) rfl rfl).trans (e_X9_isSheet_0 0 (fun _ => 0) (z_go z_SH z_P d) 199999 x1 m)
set_option maxRecDepth 100000 in
theorem c_X9_isSign (d : Nat) (x1 : Int32) (m : z_M) : z_go z_SH z_P (d + 1) 96 [.ref 0, .int x1] m = if x1 < 0 then (some (0, 0, m)) else (if (m 2 2) ≤ x1 then (some (0, 0, m)) else (some (1, 0, m))) := (z_go_c (me := me_X9_isSign) rfl rfl).trans (e_X9_isSign_0 0 (fun _ => 0) (z_go z_SH z_P d) 199999 x1 m)
set_option maxRecDepth 100000 in
theorem c_X9_isGuest (d : Nat) (x1 : Int32) (m : z_M) : z_go z_SH z_P (d + 1) 97 [.ref 0, .int x1] m = if x1 < 0 then (some (0, 0, m)) else (if (m 2 3) ≤ x1 then (some (0, 0, m)) else (some (1, 0, m))) := (z_go_c (me := me_X9_isGuest) rfl rfl).trans (e_X9_isGuest_0 0 (fun _ => 0) (z_go z_SH z_P d) 199999 x1 m)
set_option maxRecDepth 100000 in
theorem c_X9_isDinnerQuestion (d : Nat) (x1 : Int32) (m : z_M) : z_go z_SH z_P (d + 1) 98 [.int x1] m = Option.bind (z_go z_SH z_P d 94 [.int x1, .int 0, .int 4] m) (fun r1 => if r1.1 = 0 then (Option.bind (z_go z_SH z_P d 94 [.int x1, .int 10, .int 15] r1.2.2) (fun r2 => if r2.1 = 0 then (some (0, 0, r2.2.2)) else (some (1, 0, r2.2.2)))) else (some (1, 0, r1.2.2))) := (z_go_c (me := me_X9_isDinnerQuestion) rfl rfl).trans (e_X9_isDinnerQuestion_0 0 (fun _ => 0) (z_go z_SH z_P d) 199999 x1 m)
set_option maxRecDepth 100000 in
theorem c_X9_failed (d : Nat) (x1 : Int32) (m : z_M) : z_go z_SH z_P (d + 1) 99 [.ref 0, .int x1] m = some ((-10) - x1, 0, z_up m 0 10 x1) := (z_go_c (me := me_X9_failed) rfl rfl).trans (e_X9_failed_0 0 (fun _ => 0) (z_go z_SH z_P d) 199999 x1 m)
set_option maxRecDepth 100000 in
theorem c_X9_commonDivisor (d : Nat) (x1 : Int32) (x2 : Int32) (m : z_M) : z_go z_SH z_P (d + 1) 100 [.int x1, .int x2] m = z_lp z_SH 0 (fun _ => 0) (z_go z_SH z_P d) me_X9_commonDivisor 199999 7 [none, none, some (.int x1), some (.int x2), some (.int 0), none] [] m := (z_go_c (me := me_X9_commonDivisor) rfl rfl).trans (e_X9_commonDivisor_0 0 (fun _ => 0) (z_go z_SH z_P d) 199999 x1 x2 m)
set_option maxRecDepth 100000 in
theorem c_X9_begin (d : Nat) (x1 : Int32) (m : z_M) : z_go z_SH z_P (d + 1) 101 [.ref 0, .int x1] m = some (0, 0, z_up m 0 9 ((31 * (m 0 9)) + x1)) := (z_go_c (me := me_X9_begin) rfl rfl).trans (e_X9_begin_0 0 (fun _ => 0) (z_go z_SH z_P d) 199999 x1 m)
set_option maxRecDepth 100000 in
theorem c_X9_missTells (d : Nat) (x1 : Int32) (m : z_M) : z_go z_SH z_P (d + 1) 102 [.ref 0, .int x1] m = Option.bind (z_go z_SH z_P d 101 [.ref 0, .int 1] m) (fun r1 => z_g (z_in 6 x1) (z_g (z_okp z_SH (5 + x1.toNatClampNeg) 1 1 0) (some (r1.2.2 (5 + x1.toNatClampNeg) 1, 0, r1.2.2)))) := (z_go_c (me := me_X9_missTells) rfl rfl).trans (e_X9_missTells_0 0 (fun _ => 0) (z_go z_SH z_P d) 199999 x1 m)
set_option maxRecDepth 100000 in
theorem c_X9_colonelTells (d : Nat) (x1 : Int32) (m : z_M) : z_go z_SH z_P (d + 1) 103 [.ref 0, .int x1] m = Option.bind (z_go z_SH z_P d 101 [.ref 0, .int 2] m) (fun r1 => Option.bind (z_go z_SH z_P d 102 [.ref 0, .int x1] r1.2.2) (fun r2 => some (r2.1 + 100, 0, r2.2.2))) := (z_go_c (me := me_X9_colonelTells) rfl rfl).trans (e_X9_colonelTells_0 0 (fun _ => 0) (z_go z_SH z_P d) 199999 x1 m)
set_option maxRecDepth 100000 in
theorem c_X9_brokerTells (d : Nat) (x1 : Int32) (m : z_M) : z_go z_SH z_P (d + 1) 104 [.ref 0, .int x1] m = Option.bind (z_go z_SH z_P d 101 [.ref 0, .int 3] m) (fun r1 => Option.bind (z_go z_SH z_P d 103 [.ref 0, .int x1] r1.2.2) (fun r2 => Option.bind (z_go z_SH z_P d 102 [.ref 0, .int x1] r2.2.2) (fun r3 => some (r2.1 + r3.1, 0, r3.2.2)))) := (z_go_c (me := me_X9_brokerTells) rfl rfl).trans (e_X9_brokerTells_0 0 (fun _ => 0) (z_go z_SH z_P d) 199999 x1 m)
set_option maxRecDepth 100000 in
theorem c_X10_fails (d : Nat) (x1 : Int32) (m : z_M) : z_go z_SH z_P (d + 1) 106 [.ref 59, .int x1] m = some ((-10) - x1, 0, z_up m 59 0 x1) := (z_go_c (me := me_X10_fails) rfl rfl).trans (e_X10_fails_0 0 (fun _ => 0) (z_go z_SH z_P d) 199999 x1 m)
set_option maxRecDepth 100000 in
theorem c_X10_lost (d : Nat) (x1 : Int32) (m : z_M) : z_go z_SH z_P (d + 1) 107 [.ref 59, .int x1] m = some (0, z_lost, z_up m 59 0 x1) := (z_go_c (me := me_X10_lost) rfl rfl).trans (e_X10_lost_0 0 (fun _ => 0) (z_go z_SH z_P d) 199999 x1 m)
set_option maxRecDepth 100000 in
theorem c_X10_within (d : Nat) (x1 : Int32) (x2 : Int32) (x3 : Int32) (m : z_M) : z_go z_SH z_P (d + 1) 108 [.int x1, .int x2, .int x3] m = if x1 < x2 then (some (0, 0, m)) else (if x3 < x1 then (some (0, 0, m)) else (some (1, 0, m))) := (z_go_c (me := me_X10_within) rfl rfl).trans (e_X10_within_0 0 (fun _ => 0) (z_go z_SH z_P d) 199999 x1 x2 x3 m)
set_option maxRecDepth 100000 in
theorem c_X10_isSheet (d : Nat) (x1 : Int32) (m : z_M) : z_go z_SH z_P (d + 1) 109 [.int x1] m = Option.bind (z_go z_SH z_P d 108 [.int x1, .int 0, .int 3] m) (fun r1 => z_g (z_isb r1.1) (some (r1.1, 0, r1.2.2))) := (z_go_c (me := me_X10_isSheet) rfl rfl).trans (e_X10_isSheet_0 0 (fun _ => 0) (z_go z_SH z_P d) 199999 x1 m)
set_option maxRecDepth 100000 in
theorem c_X10_isSort (d : Nat) (x1 : Int32) (m : z_M) : z_go z_SH z_P (d + 1) 110 [.int x1] m = Option.bind (z_go z_SH z_P d 108 [.int x1, .int 0, .int 2] m) (fun r1 => z_g (z_isb r1.1) (some (r1.1, 0, r1.2.2))) := (z_go_c (me := me_X10_isSort) rfl rfl).trans (e_X10_isSort_0 0 (fun _ => 0) (z_go z_SH z_P d) 199999 x1 m)
set_option maxRecDepth 100000 in
theorem c_X10_against (d : Nat) (x1 : Int32) (x2 : Int32) (x3 : Int32) (x4 : Int32) (m : z_M) : z_go z_SH z_P (d + 1) 111 [.ref 59, .int x1, .int x2, .int x3, .int x4] m = z_g (z_in 4 x1) (if (m 60 x1.toNatClampNeg) = (-9) then (z_g (z_in 4 x1) (if (m 60 x1.toNatClampNeg) = (-9) then (some (1, 0, m)) else (if 0 ≤ x4 then (if x3 < 0 then (some (3, 0, m)) else (z_g (z_in 4 x1) (if (m 61 x1.toNatClampNeg) < x3 then (some (3, 0, m)) else (z_g (z_in 4 x1) (if x4 ≤ ((m 61 x1.toNatClampNeg) - x3) then (some (0, 0, m)) else (some (3, 0, m))))))) else (some (4, 0, m))))) else (z_g (z_in 4 x1) (if (m 60 x1.toNatClampNeg) = x2 then (z_g (z_in 4 x1) (if (m 60 x1.toNatClampNeg) = (-9) then (some (1, 0, m)) else (if 0 ≤ x4 then (if x3 < 0 then (some (3, 0, m)) else (z_g (z_in 4 x1) (if (m 61 x1.toNatClampNeg) < x3 then (some (3, 0, m)) else (z_g (z_in 4 x1) (if x4 ≤ ((m 61 x1.toNatClampNeg) - x3) then (some (0, 0, m)) else (some (3, 0, m))))))) else (some (4, 0, m))))) else (some (2, 0, m))))) := (z_go_c (me := me_X10_against) rfl rfl).trans (e_X10_against_0 0 (fun _ => 0) (z_go z_SH z_P d) 199999 x1 x2 x3 x4 m)
set_option maxRecDepth 100000 in
theorem c_X10_isSignOf (d : Nat) (x1 : Int32) (m : z_M) : z_go z_SH z_P (d + 1) 112 [.ref 59, .int x1] m = if x1 < 0 then (some (0, 0, m)) else (if (m 59 5) ≤ x1 then (some (0, 0, m)) else (some (1, 0, m))) := (z_go_c (me := me_X10_isSignOf) rfl rfl).trans (e_X10_isSignOf_0 0 (fun _ => 0) (z_go z_SH z_P d) 199999 x1 m)
set_option maxRecDepth 100000 in
theorem c_X10_isGuest (d : Nat) (x1 : Int32) (m : z_M) : z_go z_SH z_P (d + 1) 113 [.ref 59, .int x1] m = if x1 < 0 then (some (0, 0, m)) else (if (m 59 6) ≤ x1 then (some (0, 0, m)) else (some (1, 0, m))) := (z_go_c (me := me_X10_isGuest) rfl rfl).trans (e_X10_isGuest_0 0 (fun _ => 0) (z_go z_SH z_P d) 199999 x1 m)
set_option maxRecDepth 100000 in
theorem c_X10_isTable (d : Nat) (x1 : Int32) (m : z_M) : z_go z_SH z_P (d + 1) 114 [.int x1] m = Option.bind (z_go z_SH z_P d 108 [.int x1, .int 0, .int 5] m) (fun r1 => z_g (z_isb r1.1) (some (r1.1, 0, r1.2.2))) := (z_go_c (me := me_X10_isTable) rfl rfl).trans (e_X10_isTable_0 0 (fun _ => 0) (z_go z_SH z_P d) 199999 x1 m)
set_option maxRecDepth 100000 in
theorem c_X10_isOf (d : Nat) (x1 : Int32) (x2 : Int32) (m : z_M) : z_go z_SH z_P (d + 1) 115 [.int x1, .int x2] m = if ((x1 >>> (x2 &&& 31)) &&& (1 : Int32)) = 1 then (some (1, 0, m)) else (some (0, 0, m)) := (z_go_c (me := me_X10_isOf) rfl rfl).trans (e_X10_isOf_0 0 (fun _ => 0) (z_go z_SH z_P d) 199999 x1 x2 m)
set_option maxRecDepth 100000 in
theorem c_X10_size (d : Nat) (x1 : Int32) (m : z_M) : z_go z_SH z_P (d + 1) 116 [.int x1] m = z_lp z_SH 0 (fun _ => 0) (z_go z_SH z_P d) me_X10_size 199999 4 [none, some (.int 0), some (.int x1)] [] m := (z_go_c (me := me_X10_size) rfl rfl).trans (e_X10_size_0 0 (fun _ => 0) (z_go z_SH z_P d) 199999 x1 m)
set_option maxRecDepth 100000 in
theorem c_X10_digit (d : Nat) (x1 : Int32) (x2 : Int32) (x3 : Int32) (m : z_M) : z_go z_SH z_P (d + 1) 117 [.ref 59, .int x1, .int x2, .int x3] m = if x1 ≤ (m 59 16) then (some ((-9), 0, m)) else (z_g (z_in 240 (m 59 16)) (Option.bind (z_go z_SH z_P d 108 [.int (m 62 (m 59 16).toNatClampNeg), .int (48 + x2), .int (48 + x3)] m) (fun r1 => if r1.1 = 0 then (some ((-9), 0, r1.2.2)) else (z_g (z_in 240 (((z_up r1.2.2 59 16 ((r1.2.2 59 16) + 1)) 59 16) - 1)) (some (((z_up r1.2.2 59 16 ((r1.2.2 59 16) + 1)) 62 (((z_up r1.2.2 59 16 ((r1.2.2 59 16) + 1)) 59 16) - 1).toNatClampNeg) - 48, 0, z_up r1.2.2 59 16 ((r1.2.2 59 16) + 1))))))) := (z_go_c (me := me_X10_digit) rfl rfl).trans (e_X10_digit_0 0 (fun _ => 0) (z_go z_SH z_P d) 199999 x1 x2 x3 m)
set_option maxRecDepth 100000 in
theorem c_X10_isSign (d : Nat) (x1 : Int32) (x2 : Int32) (m : z_M) : z_go z_SH z_P (d + 1) 118 [.ref 59, .int x1, .int x2] m = if x1 ≤ (m 59 16) then (some (0, 0, m)) else (z_g (z_in 240 (m 59 16)) (if (m 62 (m 59 16).toNatClampNeg) = x2 then (some (1, 0, z_up m 59 16 ((m 59 16) + 1))) else (some (0, 0, m)))) := (z_go_c (me := me_X10_isSign) rfl rfl).trans (e_X10_isSign_0 0 (fun _ => 0) (z_go z_SH z_P d) 199999 x1 x2 m)
set_option maxRecDepth 100000 in
theorem c_X10_hotel (d : Nat) (x1 : Int32) (x2 : Int32) (x3 : Int32) (x4 : Int32) (m : z_M) : z_go z_SH z_P (d + 1) 119 [.ref 59, .int x1, .int x2, .int x3, .int x4] m = Option.bind (z_go z_SH z_P d 109 [.int x1] (z_up m 59 0 0)) (fun r1 => if r1.1 = 0 then (some ((-1), 0, r1.2.2)) else (Option.bind (z_go z_SH z_P d 110 [.int x2] r1.2.2) (fun r2 => if r2.1 = 0 then (some ((-2), 0, r2.2.2)) else (Option.bind (z_go z_SH z_P d 111 [.ref 59, .int x1, .int x2, .int x3, .int x4] r2.2.2) (fun r3 => if r3.1 = 0 then (Option.bind (z_go z_SH z_P d 121 [.ref 59, .int (((60 * x1) + x3) + x4)] (z_up r3.2.2 59 16 ((60 * x1) + x3))) (fun r4 => if r4.1 = 0 then (some ((-100) - ((r4.2.2 59 16) - ((60 * x1) + x3)), 0, r4.2.2)) else (Option.bind (z_go z_SH z_P d 120 [.ref 59] r4.2.2) (fun r5 => some (r5.2.2 59 6, 0, r5.2.2))))) else (Option.bind (z_go z_SH z_P d 106 [.ref 59, .int r3.1] r3.2.2) (fun r6 => some (r6.1, 0, r6.2.2)))))))) := (z_go_c (me := me_X10_hotel) rfl rfl).trans (e_X10_hotel_0 0 (fun _ => 0) (z_go z_SH z_P d) 199999 x1 x2 x3 x4 m)
set_option maxRecDepth 100000 in
theorem c_X10_takeHotel (d : Nat) (m : z_M) : z_go z_SH z_P (d + 1) 120 [.ref 59] m = z_lp z_SH 0 (fun _ => 0) (z_go z_SH z_P d) me_X10_takeHotel 199999 10 [some (.ref 59), some (.int 0)] [] (z_up m 59 5 (m 59 17)) := (z_go_c (me := me_X10_takeHotel) rfl rfl).trans (e_X10_takeHotel_0 0 (fun _ => 0) (z_go z_SH z_P d) 199999 m)
set_option maxRecDepth 100000 in
theorem c_X10_readHotel (d : Nat) (x1 : Int32) (m : z_M) : z_go z_SH z_P (d + 1) 121 [.ref 59, .int x1] m = Option.bind (z_go z_SH z_P d 118 [.ref 59, .int x1, .int 104] (z_up m 59 18 0)) (fun r1 => if r1.1 = 0 then (some (0, 0, r1.2.2)) else (Option.bind (z_go z_SH z_P d 122 [.ref 59, .int x1] r1.2.2) (fun r2 => if r2.1 = 0 then (some (0, 0, r2.2.2)) else (z_lp z_SH 0 (fun _ => 0) (z_go z_SH z_P d) me_X10_readHotel 199999 25 [some (.ref 59), some (.int x1)] [] r2.2.2)))) := (z_go_c (me := me_X10_readHotel) rfl rfl).trans (e_X10_readHotel_0 0 (fun _ => 0) (z_go z_SH z_P d) 199999 x1 m)
set_option maxRecDepth 100000 in
theorem c_X10_readTheSigns (d : Nat) (x1 : Int32) (m : z_M) : z_go z_SH z_P (d + 1) 122 [.ref 59, .int x1] m = z_lp z_SH 0 (fun _ => 0) (z_go z_SH z_P d) me_X10_readTheSigns 199999 5 [some (.ref 59), some (.int x1), none] [] (z_up m 59 17 0) := (z_go_c (me := me_X10_readTheSigns) rfl rfl).trans (e_X10_readTheSigns_0 0 (fun _ => 0) (z_go z_SH z_P d) 199999 x1 m)
set_option maxRecDepth 100000 in
theorem c_X10_readGuest (d : Nat) (x1 : Int32) (m : z_M) : z_go z_SH z_P (d + 1) 123 [.ref 59, .int x1] m = if x1 ≤ (m 59 16) then (if (0 : Int32) = 109 then (z_g (z_in 24 (4 * (m 59 18))) (z_g (z_in 24 (4 * (m 59 18))) (if ((z_up m 70 (4 * (m 59 18)).toNatClampNeg 0) 70 (4 * (m 59 18)).toNatClampNeg) = (-9) then (some (0, 0, z_up m 70 (4 * (m 59 18)).toNatClampNeg 0)) else (z_lp z_SH 0 (fun _ => 0) (z_go z_SH z_P d) me_X10_readGuest 199999 93 [some (.ref 59), some (.int x1), none, some (.int (4 * (m 59 18))), some (.int 1)] [] (z_up (z_up m 70 (4 * (m 59 18)).toNatClampNeg 0) 59 16 (((z_up m 70 (4 * (m 59 18)).toNatClampNeg 0) 59 16) + 1)))))) else (if (0 : Int32) = 99 then (z_g (z_in 24 (4 * (m 59 18))) (z_g (z_in 24 (4 * (m 59 18))) (if ((z_up m 70 (4 * (m 59 18)).toNatClampNeg 1) 70 (4 * (m 59 18)).toNatClampNeg) = (-9) then (some (0, 0, z_up m 70 (4 * (m 59 18)).toNatClampNeg 1)) else (z_lp z_SH 0 (fun _ => 0) (z_go z_SH z_P d) me_X10_readGuest 199999 93 [some (.ref 59), some (.int x1), none, some (.int (4 * (m 59 18))), some (.int 1)] [] (z_up (z_up m 70 (4 * (m 59 18)).toNatClampNeg 1) 59 16 (((z_up m 70 (4 * (m 59 18)).toNatClampNeg 1) 59 16) + 1)))))) else (if (0 : Int32) = 98 then (z_g (z_in 24 (4 * (m 59 18))) (z_g (z_in 24 (4 * (m 59 18))) (if ((z_up m 70 (4 * (m 59 18)).toNatClampNeg 2) 70 (4 * (m 59 18)).toNatClampNeg) = (-9) then (some (0, 0, z_up m 70 (4 * (m 59 18)).toNatClampNeg 2)) else (z_lp z_SH 0 (fun _ => 0) (z_go z_SH z_P d) me_X10_readGuest 199999 93 [some (.ref 59), some (.int x1), none, some (.int (4 * (m 59 18))), some (.int 1)] [] (z_up (z_up m 70 (4 * (m 59 18)).toNatClampNeg 2) 59 16 (((z_up m 70 (4 * (m 59 18)).toNatClampNeg 2) 59 16) + 1)))))) else (z_g (z_in 24 (4 * (m 59 18))) (z_g (z_in 24 (4 * (m 59 18))) (if ((z_up m 70 (4 * (m 59 18)).toNatClampNeg (-9)) 70 (4 * (m 59 18)).toNatClampNeg) = (-9) then (some (0, 0, z_up m 70 (4 * (m 59 18)).toNatClampNeg (-9))) else (z_lp z_SH 0 (fun _ => 0) (z_go z_SH z_P d) me_X10_readGuest 199999 93 [some (.ref 59), some (.int x1), none, some (.int (4 * (m 59 18))), some (.int 1)] [] (z_up (z_up m 70 (4 * (m 59 18)).toNatClampNeg (-9)) 59 16 (((z_up m 70 (4 * (m 59 18)).toNatClampNeg (-9)) 59 16) + 1))))))))) else (z_g (z_in 240 (m 59 16)) (if (m 62 (m 59 16).toNatClampNeg) = 109 then (z_g (z_in 24 (4 * (m 59 18))) (z_g (z_in 24 (4 * (m 59 18))) (if ((z_up m 70 (4 * (m 59 18)).toNatClampNeg 0) 70 (4 * (m 59 18)).toNatClampNeg) = (-9) then (some (0, 0, z_up m 70 (4 * (m 59 18)).toNatClampNeg 0)) else (z_lp z_SH 0 (fun _ => 0) (z_go z_SH z_P d) me_X10_readGuest 199999 93 [some (.ref 59), some (.int x1), none, some (.int (4 * (m 59 18))), some (.int 1)] [] (z_up (z_up m 70 (4 * (m 59 18)).toNatClampNeg 0) 59 16 (((z_up m 70 (4 * (m 59 18)).toNatClampNeg 0) 59 16) + 1)))))) else (if (m 62 (m 59 16).toNatClampNeg) = 99 then (z_g (z_in 24 (4 * (m 59 18))) (z_g (z_in 24 (4 * (m 59 18))) (if ((z_up m 70 (4 * (m 59 18)).toNatClampNeg 1) 70 (4 * (m 59 18)).toNatClampNeg) = (-9) then (some (0, 0, z_up m 70 (4 * (m 59 18)).toNatClampNeg 1)) else (z_lp z_SH 0 (fun _ => 0) (z_go z_SH z_P d) me_X10_readGuest 199999 93 [some (.ref 59), some (.int x1), none, some (.int (4 * (m 59 18))), some (.int 1)] [] (z_up (z_up m 70 (4 * (m 59 18)).toNatClampNeg 1) 59 16 (((z_up m 70 (4 * (m 59 18)).toNatClampNeg 1) 59 16) + 1)))))) else (if (m 62 (m 59 16).toNatClampNeg) = 98 then (z_g (z_in 24 (4 * (m 59 18))) (z_g (z_in 24 (4 * (m 59 18))) (if ((z_up m 70 (4 * (m 59 18)).toNatClampNeg 2) 70 (4 * (m 59 18)).toNatClampNeg) = (-9) then (some (0, 0, z_up m 70 (4 * (m 59 18)).toNatClampNeg 2)) else (z_lp z_SH 0 (fun _ => 0) (z_go z_SH z_P d) me_X10_readGuest 199999 93 [some (.ref 59), some (.int x1), none, some (.int (4 * (m 59 18))), some (.int 1)] [] (z_up (z_up m 70 (4 * (m 59 18)).toNatClampNeg 2) 59 16 (((z_up m 70 (4 * (m 59 18)).toNatClampNeg 2) 59 16) + 1)))))) else (z_g (z_in 24 (4 * (m 59 18))) (z_g (z_in 24 (4 * (m 59 18))) (if ((z_up m 70 (4 * (m 59 18)).toNatClampNeg (-9)) 70 (4 * (m 59 18)).toNatClampNeg) = (-9) then (some (0, 0, z_up m 70 (4 * (m 59 18)).toNatClampNeg (-9))) else (z_lp z_SH 0 (fun _ => 0) (z_go z_SH z_P d) me_X10_readGuest 199999 93 [some (.ref 59), some (.int x1), none, some (.int (4 * (m 59 18))), some (.int 1)] [] (z_up (z_up m 70 (4 * (m 59 18)).toNatClampNeg (-9)) 59 16 (((z_up m 70 (4 * (m 59 18)).toNatClampNeg (-9)) 59 16) + 1)))))))))) := (z_go_c (me := me_X10_readGuest) rfl rfl).trans (e_X10_readGuest_0 0 (fun _ => 0) (z_go z_SH z_P d) 199999 x1 m)
set_option maxRecDepth 100000 in
theorem c_X10_weighsOf (d : Nat) (x1 : Int32) (x2 : Int32) (m : z_M) : z_go z_SH z_P (d + 1) 124 [.ref 59, .int x1, .int x2] m = z_g (z_in 6 x2) (if (m 64 x2.toNatClampNeg) = 0 then (z_g (z_in 5 x1) (some (m 63 x1.toNatClampNeg, 0, m))) else (z_g (z_in 6 x2) (if (m 64 x2.toNatClampNeg) = 1 then (z_g (z_in 5 x1) (some ((m 63 x1.toNatClampNeg) - 1, 0, m))) else (z_g (z_in 5 x1) (z_g (decide (¬ (2 : Int32) = 0)) (some ((m 63 x1.toNatClampNeg) / 2, 0, m))))))) := (z_go_c (me := me_X10_weighsOf) rfl rfl).trans (e_X10_weighsOf_0 0 (fun _ => 0) (z_go z_SH z_P d) 199999 x1 x2 m)
set_option maxRecDepth 100000 in
theorem c_X10_ofGuest (d : Nat) (x1 : Int32) (x2 : Int32) (m : z_M) : z_go z_SH z_P (d + 1) 125 [.ref 59, .int x1, .int x2] m = Option.bind (z_go z_SH z_P d 113 [.ref 59, .int x1] m) (fun r1 => if r1.1 = 0 then (some ((-1), 0, r1.2.2)) else (if x2 = nI 0 then (z_g (z_in 6 x1) (some (r1.2.2 64 x1.toNatClampNeg, 0, r1.2.2))) else if x2 = nI 1 then (z_g (z_in 6 x1) (some (r1.2.2 65 x1.toNatClampNeg, 0, r1.2.2))) else if x2 = nI 2 then (z_g (z_in 6 x1) (some (r1.2.2 66 x1.toNatClampNeg, 0, r1.2.2))) else if x2 = nI 3 then (z_g (z_in 6 x1) (some (r1.2.2 67 x1.toNatClampNeg, 0, r1.2.2))) else if x2 = nI 4 then (z_g (z_in 6 x1) (some (r1.2.2 68 x1.toNatClampNeg, 0, r1.2.2))) else if x2 = nI 5 then (some (((r1.2.2 59 8) >>> (x1 &&& 31)) &&& (1 : Int32), 0, r1.2.2)) else if x2 = nI 6 then (some (((r1.2.2 59 9) >>> (x1 &&& 31)) &&& (1 : Int32), 0, r1.2.2)) else (some ((-2), 0, r1.2.2)))) := (z_go_c (me := me_X10_ofGuest) rfl rfl).trans (e_X10_ofGuest_0 0 (fun _ => 0) (z_go z_SH z_P d) 199999 x1 x2 m)
set_option maxRecDepth 100000 in
theorem c_X10_hint (d : Nat) (x1 : Int32) (m : z_M) : z_go z_SH z_P (d + 1) 126 [.ref 59, .int x1] m = Option.bind (z_go z_SH z_P d 112 [.ref 59, .int x1] m) (fun r1 => if r1.1 = 0 then (some ((-1), 0, r1.2.2)) else (z_g (z_in 5 x1) (some (r1.2.2 63 x1.toNatClampNeg, 0, r1.2.2)))) := (z_go_c (me := me_X10_hint) rfl rfl).trans (e_X10_hint_0 0 (fun _ => 0) (z_go z_SH z_P d) 199999 x1 m)
set_option maxRecDepth 100000 in
theorem c_X10_word (d : Nat) (x1 : Int32) (x2 : Int32) (m : z_M) : z_go z_SH z_P (d + 1) 127 [.ref 59, .int x1, .int x2] m = Option.bind (z_go z_SH z_P d 112 [.ref 59, .int x1] m) (fun r1 => if r1.1 = 0 then (some ((-1), 0, r1.2.2)) else (Option.bind (z_go z_SH z_P d 108 [.int x2, .int 1, .int 9] r1.2.2) (fun r2 => if r2.1 = 0 then (some ((-2), 0, r2.2.2)) else (z_g (z_in 5 x1) (z_g (z_in 5 x1) (some (r2.2.2 63 x1.toNatClampNeg, 0, z_up r2.2.2 63 x1.toNatClampNeg x2))))))) := (z_go_c (me := me_X10_word) rfl rfl).trans (e_X10_word_0 0 (fun _ => 0) (z_go z_SH z_P d) 199999 x1 x2 m)
set_option maxRecDepth 100000 in
theorem c_X10_weighs (d : Nat) (x1 : Int32) (x2 : Int32) (m : z_M) : z_go z_SH z_P (d + 1) 128 [.ref 59, .int x1, .int x2] m = Option.bind (z_go z_SH z_P d 112 [.ref 59, .int x1] m) (fun r1 => if r1.1 = 0 then (some ((-1), 0, r1.2.2)) else (Option.bind (z_go z_SH z_P d 113 [.ref 59, .int x2] r1.2.2) (fun r2 => if r2.1 = 0 then (some ((-1), 0, r2.2.2)) else (Option.bind (z_go z_SH z_P d 124 [.ref 59, .int x1, .int x2] r2.2.2) (fun r3 => some (r3.1, 0, r3.2.2)))))) := (z_go_c (me := me_X10_weighs) rfl rfl).trans (e_X10_weighs_0 0 (fun _ => 0) (z_go z_SH z_P d) 199999 x1 x2 m)
set_option maxRecDepth 100000 in
theorem c_X10_seat (d : Nat) (x1 : Int32) (x2 : Int32) (m : z_M) : z_go z_SH z_P (d + 1) 129 [.ref 59, .int x1, .int x2] m = Option.bind (z_go z_SH z_P d 113 [.ref 59, .int x1] m) (fun r1 => if r1.1 = 0 then (some ((-1), 0, r1.2.2)) else (Option.bind (z_go z_SH z_P d 114 [.int x2] r1.2.2) (fun r2 => if r2.1 = 0 then (some ((-2), 0, r2.2.2)) else (z_g (z_in 6 x1) (z_g (z_in 6 x1) (some (r2.2.2 67 x1.toNatClampNeg, 0, z_up r2.2.2 67 x1.toNatClampNeg x2))))))) := (z_go_c (me := me_X10_seat) rfl rfl).trans (e_X10_seat_0 0 (fun _ => 0) (z_go z_SH z_P d) 199999 x1 x2 m)
set_option maxRecDepth 100000 in
theorem c_X10_nextToKnow (d : Nat) (m : z_M) : z_go z_SH z_P (d + 1) 130 [.ref 59] m = z_lp z_SH 0 (fun _ => 0) (z_go z_SH z_P d) me_X10_nextToKnow 199999 2 [some (.ref 59), some (.int 0)] [] m := (z_go_c (me := me_X10_nextToKnow) rfl rfl).trans (e_X10_nextToKnow_0 0 (fun _ => 0) (z_go z_SH z_P d) 199999 m)
set_option maxRecDepth 100000 in
theorem c_X10_dawns (d : Nat) (m : z_M) : z_go z_SH z_P (d + 1) 131 [.ref 59] m = Option.bind (z_go z_SH z_P d 130 [.ref 59] m) (fun r1 => z_lp z_SH 0 (fun _ => 0) (z_go z_SH z_P d) me_X10_dawns 199999 7 [some (.ref 59), some (.int 0), some (.int r1.1), none] [] r1.2.2) := (z_go_c (me := me_X10_dawns) rfl rfl).trans (e_X10_dawns_0 0 (fun _ => 0) (z_go z_SH z_P d) 199999 m)
set_option maxRecDepth 100000 in
theorem c_X10_isGiven (d : Nat) (x1 : Int32) (x2 : Int32) (m : z_M) : z_go z_SH z_P (d + 1) 132 [.ref 59, .int x1, .int x2] m = Option.bind (z_go z_SH z_P d 124 [.ref 59, .int x1, .int x2] m) (fun r1 => z_g (z_in 6 x2) (if r1.1 ≤ (r1.2.2 65 x2.toNatClampNeg) then (z_g (z_in 6 x2) (z_g (z_in 6 x2) (Option.bind (z_go z_SH z_P d 131 [.ref 59] (z_up r1.2.2 68 x2.toNatClampNeg ((r1.2.2 68 x2.toNatClampNeg) + r1.1))) (fun r2 => some (r2.1, 0, r2.2.2))))) else (some ((-9), 0, z_up r1.2.2 59 9 ((r1.2.2 59 9) ||| ((1 : Int32) <<< (x2 &&& 31))))))) := (z_go_c (me := me_X10_isGiven) rfl rfl).trans (e_X10_isGiven_0 0 (fun _ => 0) (z_go z_SH z_P d) 199999 x1 x2 m)
set_option maxRecDepth 100000 in
theorem c_X10_give (d : Nat) (x1 : Int32) (x2 : Int32) (m : z_M) : z_go z_SH z_P (d + 1) 133 [.ref 59, .int x1, .int x2] m = Option.bind (z_go z_SH z_P d 112 [.ref 59, .int x1] m) (fun r1 => if r1.1 = 0 then (some ((-1), 0, r1.2.2)) else (Option.bind (z_go z_SH z_P d 113 [.ref 59, .int x2] r1.2.2) (fun r2 => if r2.1 = 0 then (some ((-1), 0, r2.2.2)) else (Option.bind (z_go z_SH z_P d 115 [.int (r2.2.2 59 8), .int x2] r2.2.2) (fun r3 => if r3.1 = 0 then (Option.bind (z_go z_SH z_P d 132 [.ref 59, .int x1, .int x2] r3.2.2) (fun r4 => some (r4.1, 0, r4.2.2))) else (some ((-3), 0, r3.2.2))))))) := (z_go_c (me := me_X10_give) rfl rfl).trans (e_X10_give_0 0 (fun _ => 0) (z_go z_SH z_P d) 199999 x1 x2 m)
set_option maxRecDepth 100000 in
theorem c_X10_oneNight (d : Nat) (m : z_M) : z_go z_SH z_P (d + 1) 134 [.ref 59] m = z_lp z_SH 0 (fun _ => 0) (z_go z_SH z_P d) me_X10_oneNight 199999 2 [some (.ref 59), some (.int 0)] [] m := (z_go_c (me := me_X10_oneNight) rfl rfl).trans (e_X10_oneNight_0 0 (fun _ => 0) (z_go z_SH z_P d) 199999 m)
set_option maxRecDepth 100000 in
theorem c_X10_nights (d : Nat) (x1 : Int32) (m : z_M) : z_go z_SH z_P (d + 1) 135 [.ref 59, .int x1] m = Option.bind (z_go z_SH z_P d 108 [.int x1, .int 1, .int 30] m) (fun r1 => if r1.1 = 0 then (some ((-2), 0, r1.2.2)) else (if (r1.2.2 59 6) = 0 then (some ((-3), 0, r1.2.2)) else (z_lp z_SH 0 (fun _ => 0) (z_go z_SH z_P d) me_X10_nights 199999 25 [some (.ref 59), some (.int x1), some (.int 0), none] [] r1.2.2))) := (z_go_c (me := me_X10_nights) rfl rfl).trans (e_X10_nights_0 0 (fun _ => 0) (z_go z_SH z_P d) 199999 x1 m)
set_option maxRecDepth 100000 in
theorem c_X10_arrive (d : Nat) (x1 : Int32) (x2 : Int32) (x3 : Int32) (x4 : Int32) (m : z_M) : z_go z_SH z_P (d + 1) 136 [.ref 59, .int x1, .int x2, .int x3, .int x4] m = Option.bind (z_go z_SH z_P d 108 [.int x1, .int 0, .int 2] m) (fun r1 => if r1.1 = 0 then (some ((-2), 0, r1.2.2)) else (Option.bind (z_go z_SH z_P d 108 [.int x2, .int 1, .int 9] r1.2.2) (fun r2 => if r2.1 = 0 then (some ((-2), 0, r2.2.2)) else (Option.bind (z_go z_SH z_P d 108 [.int x3, .int 1, .int 9] r2.2.2) (fun r3 => if r3.1 = 0 then (some ((-2), 0, r3.2.2)) else (Option.bind (z_go z_SH z_P d 114 [.int x4] r3.2.2) (fun r4 => if r4.1 = 0 then (some ((-2), 0, r4.2.2)) else (if (r4.2.2 59 6) = 0 then (some ((-3), 0, r4.2.2)) else (if (r4.2.2 59 6) = 6 then (some ((-4), 0, r4.2.2)) else (z_g (z_in 6 (r4.2.2 59 6)) (z_g (z_in 6 ((z_up r4.2.2 64 (r4.2.2 59 6).toNatClampNeg x1) 59 6)) (z_g (z_in 6 ((z_up (z_up r4.2.2 64 (r4.2.2 59 6).toNatClampNeg x1) 65 ((z_up r4.2.2 64 (r4.2.2 59 6).toNatClampNeg x1) 59 6).toNatClampNeg x2) 59 6)) (z_g (z_in 6 ((z_up (z_up (z_up r4.2.2 64 (r4.2.2 59 6).toNatClampNeg x1) 65 ((z_up r4.2.2 64 (r4.2.2 59 6).toNatClampNeg x1) 59 6).toNatClampNeg x2) 66 ((z_up (z_up r4.2.2 64 (r4.2.2 59 6).toNatClampNeg x1) 65 ((z_up r4.2.2 64 (r4.2.2 59 6).toNatClampNeg x1) 59 6).toNatClampNeg x2) 59 6).toNatClampNeg x3) 59 6)) (z_g (z_in 6 ((z_up (z_up (z_up (z_up r4.2.2 64 (r4.2.2 59 6).toNatClampNeg x1) 65 ((z_up r4.2.2 64 (r4.2.2 59 6).toNatClampNeg x1) 59 6).toNatClampNeg x2) 66 ((z_up (z_up r4.2.2 64 (r4.2.2 59 6).toNatClampNeg x1) 65 ((z_up r4.2.2 64 (r4.2.2 59 6).toNatClampNeg x1) 59 6).toNatClampNeg x2) 59 6).toNatClampNeg x3) 67 ((z_up (z_up (z_up r4.2.2 64 (r4.2.2 59 6).toNatClampNeg x1) 65 ((z_up r4.2.2 64 (r4.2.2 59 6).toNatClampNeg x1) 59 6).toNatClampNeg x2) 66 ((z_up (z_up r4.2.2 64 (r4.2.2 59 6).toNatClampNeg x1) 65 ((z_up r4.2.2 64 (r4.2.2 59 6).toNatClampNeg x1) 59 6).toNatClampNeg x2) 59 6).toNatClampNeg x3) 59 6).toNatClampNeg x4) 59 6)) (some (((z_up (z_up (z_up (z_up (z_up (z_up r4.2.2 64 (r4.2.2 59 6).toNatClampNeg x1) 65 ((z_up r4.2.2 64 (r4.2.2 59 6).toNatClampNeg x1) 59 6).toNatClampNeg x2) 66 ((z_up (z_up r4.2.2 64 (r4.2.2 59 6).toNatClampNeg x1) 65 ((z_up r4.2.2 64 (r4.2.2 59 6).toNatClampNeg x1) 59 6).toNatClampNeg x2) 59 6).toNatClampNeg x3) 67 ((z_up (z_up (z_up r4.2.2 64 (r4.2.2 59 6).toNatClampNeg x1) 65 ((z_up r4.2.2 64 (r4.2.2 59 6).toNatClampNeg x1) 59 6).toNatClampNeg x2) 66 ((z_up (z_up r4.2.2 64 (r4.2.2 59 6).toNatClampNeg x1) 65 ((z_up r4.2.2 64 (r4.2.2 59 6).toNatClampNeg x1) 59 6).toNatClampNeg x2) 59 6).toNatClampNeg x3) 59 6).toNatClampNeg x4) 68 ((z_up (z_up (z_up (z_up r4.2.2 64 (r4.2.2 59 6).toNatClampNeg x1) 65 ((z_up r4.2.2 64 (r4.2.2 59 6).toNatClampNeg x1) 59 6).toNatClampNeg x2) 66 ((z_up (z_up r4.2.2 64 (r4.2.2 59 6).toNatClampNeg x1) 65 ((z_up r4.2.2 64 (r4.2.2 59 6).toNatClampNeg x1) 59 6).toNatClampNeg x2) 59 6).toNatClampNeg x3) 67 ((z_up (z_up (z_up r4.2.2 64 (r4.2.2 59 6).toNatClampNeg x1) 65 ((z_up r4.2.2 64 (r4.2.2 59 6).toNatClampNeg x1) 59 6).toNatClampNeg x2) 66 ((z_up (z_up r4.2.2 64 (r4.2.2 59 6).toNatClampNeg x1) 65 ((z_up r4.2.2 64 (r4.2.2 59 6).toNatClampNeg x1) 59 6).toNatClampNeg x2) 59 6).toNatClampNeg x3) 59 6).toNatClampNeg x4) 59 6).toNatClampNeg 0) 59 6 (((z_up (z_up (z_up (z_up (z_up r4.2.2 64 (r4.2.2 59 6).toNatClampNeg x1) 65 ((z_up r4.2.2 64 (r4.2.2 59 6).toNatClampNeg x1) 59 6).toNatClampNeg x2) 66 ((z_up (z_up r4.2.2 64 (r4.2.2 59 6).toNatClampNeg x1) 65 ((z_up r4.2.2 64 (r4.2.2 59 6).toNatClampNeg x1) 59 6).toNatClampNeg x2) 59 6).toNatClampNeg x3) 67 ((z_up (z_up (z_up r4.2.2 64 (r4.2.2 59 6).toNatClampNeg x1) 65 ((z_up r4.2.2 64 (r4.2.2 59 6).toNatClampNeg x1) 59 6).toNatClampNeg x2) 66 ((z_up (z_up r4.2.2 64 (r4.2.2 59 6).toNatClampNeg x1) 65 ((z_up r4.2.2 64 (r4.2.2 59 6).toNatClampNeg x1) 59 6).toNatClampNeg x2) 59 6).toNatClampNeg x3) 59 6).toNatClampNeg x4) 68 ((z_up (z_up (z_up (z_up r4.2.2 64 (r4.2.2 59 6).toNatClampNeg x1) 65 ((z_up r4.2.2 64 (r4.2.2 59 6).toNatClampNeg x1) 59 6).toNatClampNeg x2) 66 ((z_up (z_up r4.2.2 64 (r4.2.2 59 6).toNatClampNeg x1) 65 ((z_up r4.2.2 64 (r4.2.2 59 6).toNatClampNeg x1) 59 6).toNatClampNeg x2) 59 6).toNatClampNeg x3) 67 ((z_up (z_up (z_up r4.2.2 64 (r4.2.2 59 6).toNatClampNeg x1) 65 ((z_up r4.2.2 64 (r4.2.2 59 6).toNatClampNeg x1) 59 6).toNatClampNeg x2) 66 ((z_up (z_up r4.2.2 64 (r4.2.2 59 6).toNatClampNeg x1) 65 ((z_up r4.2.2 64 (r4.2.2 59 6).toNatClampNeg x1) 59 6).toNatClampNeg x2) 59 6).toNatClampNeg x3) 59 6).toNatClampNeg x4) 59 6).toNatClampNeg 0) 59 6) + 1)) 59 6) - 1, 0, z_up (z_up (z_up (z_up (z_up (z_up r4.2.2 64 (r4.2.2 59 6).toNatClampNeg x1) 65 ((z_up r4.2.2 64 (r4.2.2 59 6).toNatClampNeg x1) 59 6).toNatClampNeg x2) 66 ((z_up (z_up r4.2.2 64 (r4.2.2 59 6).toNatClampNeg x1) 65 ((z_up r4.2.2 64 (r4.2.2 59 6).toNatClampNeg x1) 59 6).toNatClampNeg x2) 59 6).toNatClampNeg x3) 67 ((z_up (z_up (z_up r4.2.2 64 (r4.2.2 59 6).toNatClampNeg x1) 65 ((z_up r4.2.2 64 (r4.2.2 59 6).toNatClampNeg x1) 59 6).toNatClampNeg x2) 66 ((z_up (z_up r4.2.2 64 (r4.2.2 59 6).toNatClampNeg x1) 65 ((z_up r4.2.2 64 (r4.2.2 59 6).toNatClampNeg x1) 59 6).toNatClampNeg x2) 59 6).toNatClampNeg x3) 59 6).toNatClampNeg x4) 68 ((z_up (z_up (z_up (z_up r4.2.2 64 (r4.2.2 59 6).toNatClampNeg x1) 65 ((z_up r4.2.2 64 (r4.2.2 59 6).toNatClampNeg x1) 59 6).toNatClampNeg x2) 66 ((z_up (z_up r4.2.2 64 (r4.2.2 59 6).toNatClampNeg x1) 65 ((z_up r4.2.2 64 (r4.2.2 59 6).toNatClampNeg x1) 59 6).toNatClampNeg x2) 59 6).toNatClampNeg x3) 67 ((z_up (z_up (z_up r4.2.2 64 (r4.2.2 59 6).toNatClampNeg x1) 65 ((z_up r4.2.2 64 (r4.2.2 59 6).toNatClampNeg x1) 59 6).toNatClampNeg x2) 66 ((z_up (z_up r4.2.2 64 (r4.2.2 59 6).toNatClampNeg x1) 65 ((z_up r4.2.2 64 (r4.2.2 59 6).toNatClampNeg x1) 59 6).toNatClampNeg x2) 59 6).toNatClampNeg x3) 59 6).toNatClampNeg x4) 59 6).toNatClampNeg 0) 59 6 (((z_up (z_up (z_up (z_up (z_up r4.2.2 64 (r4.2.2 59 6).toNatClampNeg x1) 65 ((z_up r4.2.2 64 (r4.2.2 59 6).toNatClampNeg x1) 59 6).toNatClampNeg x2) 66 ((z_up (z_up r4.2.2 64 (r4.2.2 59 6).toNatClampNeg x1) 65 ((z_up r4.2.2 64 (r4.2.2 59 6).toNatClampNeg x1) 59 6).toNatClampNeg x2) 59 6).toNatClampNeg x3) 67 ((z_up (z_up (z_up r4.2.2 64 (r4.2.2 59 6).toNatClampNeg x1) 65 ((z_up r4.2.2 64 (r4.2.2 59 6).toNatClampNeg x1) 59 6).toNatClampNeg x2) 66 ((z_up (z_up r4.2.2 64 (r4.2.2 59 6).toNatClampNeg x1) 65 ((z_up r4.2.2 64 (r4.2.2 59 6).toNatClampNeg x1) 59 6).toNatClampNeg x2) 59 6).toNatClampNeg x3) 59 6).toNatClampNeg x4) 68 ((z_up (z_up (z_up (z_up r4.2.2 64 (r4.2.2 59 6).toNatClampNeg x1) 65 ((z_up r4.2.2 64 (r4.2.2 59 6).toNatClampNeg x1) 59 6).toNatClampNeg x2) 66 ((z_up (z_up r4.2.2 64 (r4.2.2 59 6).toNatClampNeg x1) 65 ((z_up r4.2.2 64 (r4.2.2 59 6).toNatClampNeg x1) 59 6).toNatClampNeg x2) 59 6).toNatClampNeg x3) 67 ((z_up (z_up (z_up r4.2.2 64 (r4.2.2 59 6).toNatClampNeg x1) 65 ((z_up r4.2.2 64 (r4.2.2 59 6).toNatClampNeg x1) 59 6).toNatClampNeg x2) 66 ((z_up (z_up r4.2.2 64 (r4.2.2 59 6).toNatClampNeg x1) 65 ((z_up r4.2.2 64 (r4.2.2 59 6).toNatClampNeg x1) 59 6).toNatClampNeg x2) 59 6).toNatClampNeg x3) 59 6).toNatClampNeg x4) 59 6).toNatClampNeg 0) 59 6) + 1))))))))))))))))) := (z_go_c (me := me_X10_arrive) rfl rfl).trans (e_X10_arrive_0 0 (fun _ => 0) (z_go z_SH z_P d) 199999 x1 x2 x3 x4 m)
set_option maxRecDepth 100000 in
theorem c_X10_without (d : Nat) (x1 : Int32) (x2 : Int32) (m : z_M) : z_go z_SH z_P (d + 1) 137 [.int x1, .int x2] m = some ((x1 &&& (((1 : Int32) <<< (x2 &&& 31)) - (1 : Int32))) ||| ((x1 >>> (1 &&& 31)) &&& ((((1 : Int32) <<< (x2 &&& 31)) - (1 : Int32)) ^^^ ((-1) : Int32))), 0, m) := (z_go_c (me := me_X10_without) rfl rfl).trans (e_X10_without_0 0 (fun _ => 0) (z_go z_SH z_P d) 199999 x1 x2 m)
set_option maxRecDepth 100000 in
theorem c_X10_leave (d : Nat) (x1 : Int32) (m : z_M) : z_go z_SH z_P (d + 1) 138 [.ref 59, .int x1] m = Option.bind (z_go z_SH z_P d 113 [.ref 59, .int x1] m) (fun r1 => if r1.1 = 0 then (some ((-1), 0, r1.2.2)) else (if (r1.2.2 59 6) = 1 then (some ((-3), 0, r1.2.2)) else (z_lp z_SH 0 (fun _ => 0) (z_go z_SH z_P d) me_X10_leave 199999 33 [some (.ref 59), some (.int x1), some (.int x1)] [] (z_up r1.2.2 59 6 ((r1.2.2 59 6) - 1))))) := (z_go_c (me := me_X10_leave) rfl rfl).trans (e_X10_leave_0 0 (fun _ => 0) (z_go z_SH z_P d) 199999 x1 m)
set_option maxRecDepth 100000 in
theorem c_X10_keep (d : Nat) (m : z_M) : z_go z_SH z_P (d + 1) 139 [.ref 59] m = z_lp z_SH 0 (fun _ => 0) (z_go z_SH z_P d) me_X10_keep 199999 18 [some (.ref 59), some (.int 0)] [] (z_up (z_up m 59 23 (m 59 8)) 59 24 ((z_up m 59 23 (m 59 8)) 59 9)) := (z_go_c (me := me_X10_keep) rfl rfl).trans (e_X10_keep_0 0 (fun _ => 0) (z_go z_SH z_P d) 199999 m)
set_option maxRecDepth 100000 in
theorem c_X10_putBack (d : Nat) (m : z_M) : z_go z_SH z_P (d + 1) 140 [.ref 59] m = z_lp z_SH 0 (fun _ => 0) (z_go z_SH z_P d) me_X10_putBack 199999 18 [some (.ref 59), some (.int 0)] [] (z_up (z_up m 59 8 (m 59 23)) 59 9 ((z_up m 59 8 (m 59 23)) 59 24)) := (z_go_c (me := me_X10_putBack) rfl rfl).trans (e_X10_putBack_0 0 (fun _ => 0) (z_go z_SH z_P d) 199999 m)
set_option maxRecDepth 100000 in
theorem c_X10_does (d : Nat) (x1 : Int32) (x2 : Int32) (m : z_M) : z_go z_SH z_P (d + 1) 141 [.ref 59, .int x1, .int x2] m = if x2 = 10 then (z_lp z_SH 0 (fun _ => 0) (z_go z_SH z_P d) me_X10_does 199999 8 [some (.ref 59), some (.int x1), none, some (.int 0)] [] m) else (if x2 < 20 then (Option.bind (z_go z_SH z_P d 115 [.int (m 59 8), .int x1] m) (fun r1 => if r1.1 = 0 then (Option.bind (z_go z_SH z_P d 112 [.ref 59, .int x2] r1.2.2) (fun r2 => if r2.1 = 0 then (some (0, 0, r2.2.2)) else (Option.bind (z_go z_SH z_P d 132 [.ref 59, .int x2, .int x1] r2.2.2) (fun r3 => if r3.1 ≤ 0 then (if r3.1 ≤ 1 then (some (1, 0, z_up (z_up r3.2.2 59 25 ((r3.2.2 59 25) + 0)) 59 26 (((z_up r3.2.2 59 25 ((r3.2.2 59 25) + 0)) 59 26) + 0))) else (some (1, 0, z_up (z_up r3.2.2 59 25 ((r3.2.2 59 25) + 0)) 59 26 (((z_up r3.2.2 59 25 ((r3.2.2 59 25) + 0)) 59 26) + (r3.1 - 1))))) else (if r3.1 ≤ 1 then (some (1, 0, z_up (z_up r3.2.2 59 25 ((r3.2.2 59 25) + r3.1)) 59 26 (((z_up r3.2.2 59 25 ((r3.2.2 59 25) + r3.1)) 59 26) + 0))) else (some (1, 0, z_up (z_up r3.2.2 59 25 ((r3.2.2 59 25) + r3.1)) 59 26 (((z_up r3.2.2 59 25 ((r3.2.2 59 25) + r3.1)) 59 26) + (r3.1 - 1))))))))) else (some (0, 0, r1.2.2)))) else (z_g (z_in 6 x1) (some (1, 0, z_up m 67 x1.toNatClampNeg (x2 - 20))))) := (z_go_c (me := me_X10_does) rfl rfl).trans (e_X10_does_0 0 (fun _ => 0) (z_go z_SH z_P d) 199999 x1 x2 m)
set_option maxRecDepth 100000 in
theorem c_X10_goDinner (d : Nat) (x1 : Int32) (x2 : Int32) (m : z_M) : z_go z_SH z_P (d + 1) 142 [.ref 59, .int x1, .int x2] m = z_lp z_SH 0 (fun _ => 0) (z_go z_SH z_P d) me_X10_goDinner 199999 12 [some (.ref 59), some (.int x1), some (.int x2), some (.int 0)] [] (z_up (z_up m 59 25 0) 59 26 0) := (z_go_c (me := me_X10_goDinner) rfl rfl).trans (e_X10_goDinner_0 0 (fun _ => 0) (z_go z_SH z_P d) 199999 x1 x2 m)
set_option maxRecDepth 100000 in
theorem c_X10_refusesPair (d : Nat) (x1 : Int32) (x2 : Int32) (m : z_M) : z_go z_SH z_P (d + 1) 143 [.ref 59, .int x1, .int x2] m = Option.bind (z_go z_SH z_P d 108 [.int x2, .int 0, .int 4] m) (fun r1 => if r1.1 = 0 then (if x2 = 10 then (z_lp z_SH 0 (fun _ => 0) (z_go z_SH z_P d) me_X10_refusesPair 199999 31 [some (.ref 59), some (.int x1), some (.int x2), none] [.int 1] r1.2.2) else (Option.bind (z_go z_SH z_P d 108 [.int x2, .int 20, .int 25] r1.2.2) (fun r2 => if r2.1 = 0 then (z_lp z_SH 0 (fun _ => 0) (z_go z_SH z_P d) me_X10_refusesPair 199999 31 [some (.ref 59), some (.int x1), some (.int x2), none] [.int 0] r2.2.2) else (z_lp z_SH 0 (fun _ => 0) (z_go z_SH z_P d) me_X10_refusesPair 199999 31 [some (.ref 59), some (.int x1), some (.int x2), none] [.int 1] r2.2.2)))) else (z_lp z_SH 0 (fun _ => 0) (z_go z_SH z_P d) me_X10_refusesPair 199999 31 [some (.ref 59), some (.int x1), some (.int x2), none] [.int 1] r1.2.2)) := (z_go_c (me := me_X10_refusesPair) rfl rfl).trans (e_X10_refusesPair_0 0 (fun _ => 0) (z_go z_SH z_P d) 199999 x1 x2 m)
set_option maxRecDepth 100000 in
theorem c_X10_dinner (d : Nat) (x1 : Int32) (x2 : Int32) (x3 : Int32) (x4 : Int32) (x5 : Int32) (m : z_M) : z_go z_SH z_P (d + 1) 144 [.ref 59, .int x1, .int x2, .int x3, .int x4, .int x5] m = Option.bind (z_go z_SH z_P d 109 [.int x1] (z_up m 59 0 0)) (fun r1 => if r1.1 = 0 then (some ((-1), 0, r1.2.2)) else (Option.bind (z_go z_SH z_P d 110 [.int x2] r1.2.2) (fun r2 => if r2.1 = 0 then (some ((-2), 0, r2.2.2)) else (Option.bind (z_go z_SH z_P d 108 [.int x4, .int 0, .int 20] r2.2.2) (fun r3 => if r3.1 = 0 then (some ((-2), 0, r3.2.2)) else (Option.bind (z_go z_SH z_P d 108 [.int x5, .int 0, .int 4] r3.2.2) (fun r4 => if r4.1 = 0 then (Option.bind (z_go z_SH z_P d 108 [.int x5, .int 10, .int 15] r4.2.2) (fun r5 => if r5.1 = 0 then (some ((-2), 0, r5.2.2)) else (Option.bind (z_go z_SH z_P d 111 [.ref 59, .int x1, .int x2, .int x3, .int (2 * x4)] r5.2.2) (fun r6 => if r6.1 = 0 then (if (r6.2.2 59 6) = 0 then (some ((-3), 0, r6.2.2)) else (z_lp z_SH 0 (fun _ => 0) (z_go z_SH z_P d) me_X10_dinner 199999 103 [some (.ref 59), none, none, none, some (.int x4), some (.int x5), none, some (.int ((60 * x1) + x3)), some (.int 0), none] [] r6.2.2)) else (Option.bind (z_go z_SH z_P d 106 [.ref 59, .int r6.1] r6.2.2) (fun r7 => some (r7.1, 0, r7.2.2))))))) else (Option.bind (z_go z_SH z_P d 111 [.ref 59, .int x1, .int x2, .int x3, .int (2 * x4)] r4.2.2) (fun r8 => if r8.1 = 0 then (if (r8.2.2 59 6) = 0 then (some ((-3), 0, r8.2.2)) else (z_lp z_SH 0 (fun _ => 0) (z_go z_SH z_P d) me_X10_dinner 199999 103 [some (.ref 59), none, none, none, some (.int x4), some (.int x5), none, some (.int ((60 * x1) + x3)), some (.int 0), none] [] r8.2.2)) else (Option.bind (z_go z_SH z_P d 106 [.ref 59, .int r8.1] r8.2.2) (fun r9 => some (r9.1, 0, r9.2.2)))))))))))) := (z_go_c (me := me_X10_dinner) rfl rfl).trans (e_X10_dinner_0 0 (fun _ => 0) (z_go z_SH z_P d) 199999 x1 x2 x3 x4 x5 m)
set_option maxRecDepth 100000 in
theorem c_X10_tellDinner (d : Nat) (x1 : Int32) (m : z_M) : z_go z_SH z_P (d + 1) 145 [.ref 59, .int x1] m = if x1 < 10 then (if x1 = nI 0 then (some (m 59 8, 0, m)) else if x1 = nI 1 then (some (m 59 26, 0, m)) else if x1 = nI 2 then (some (m 59 9, 0, m)) else if x1 = nI 3 then (some (m 59 25, 0, m)) else (some (m 59 26, 0, m))) else (Option.bind (z_go z_SH z_P d 113 [.ref 59, .int (x1 - 10)] m) (fun r1 => if r1.1 = 0 then (some ((-9), 0, r1.2.2)) else (z_g (z_in 6 (x1 - 10)) (some (r1.2.2 68 (x1 - 10).toNatClampNeg, 0, r1.2.2))))) := (z_go_c (me := me_X10_tellDinner) rfl rfl).trans (e_X10_tellDinner_0 0 (fun _ => 0) (z_go z_SH z_P d) 199999 x1 m)
set_option maxRecDepth 100000 in
theorem c_X10_isSoft (d : Nat) (x1 : Int32) (x2 : Int32) (m : z_M) : z_go z_SH z_P (d + 1) 146 [.ref 59, .int x1, .int x2] m = Option.bind (z_go z_SH z_P d 124 [.ref 59, .int x1, .int x2] m) (fun r1 => if r1.1 ≤ 0 then (some (0, 0, r1.2.2)) else (Option.bind (z_go z_SH z_P d 124 [.ref 59, .int x1, .int x2] r1.2.2) (fun r2 => z_g (z_in 6 x2) (if (r2.2.2 65 x2.toNatClampNeg) < r2.1 then (some (0, 0, r2.2.2)) else (some (1, 0, r2.2.2)))))) := (z_go_c (me := me_X10_isSoft) rfl rfl).trans (e_X10_isSoft_0 0 (fun _ => 0) (z_go z_SH z_P d) 199999 x1 x2 m)
set_option maxRecDepth 100000 in
theorem c_X10_heaviest (d : Nat) (x1 : Int32) (m : z_M) : z_go z_SH z_P (d + 1) 147 [.ref 59, .int x1] m = z_lp z_SH 0 (fun _ => 0) (z_go z_SH z_P d) me_X10_heaviest 199999 4 [some (.ref 59), some (.int x1), some (.int 0), some (.int 0)] [] m := (z_go_c (me := me_X10_heaviest) rfl rfl).trans (e_X10_heaviest_0 0 (fun _ => 0) (z_go z_SH z_P d) 199999 x1 m)
set_option maxRecDepth 100000 in
theorem c_X10_softly (d : Nat) (x1 : Int32) (x2 : Int32) (m : z_M) : z_go z_SH z_P (d + 1) 148 [.ref 59, .int x1, .int x2] m = Option.bind (z_go z_SH z_P d 113 [.ref 59, .int x1] m) (fun r1 => if r1.1 = 0 then (some ((-1), 0, r1.2.2)) else (Option.bind (z_go z_SH z_P d 108 [.int x2, .int (-1), .int 8] r1.2.2) (fun r2 => if r2.1 = 0 then (some ((-2), 0, r2.2.2)) else (Option.bind (z_go z_SH z_P d 115 [.int (r2.2.2 59 8), .int x1] r2.2.2) (fun r3 => if r3.1 = 0 then (z_g (z_in 6 x1) (z_g (z_in 6 x1) (Option.bind (z_go z_SH z_P d 147 [.ref 59, .int x1] r3.2.2) (fun r4 => if r4.1 = 0 then (some ((-9), 0, r4.2.2)) else (z_g (decide (¬ (r4.1 : Int32) = 0)) (if x2 = (-1) then (if x2 = (-1) then (some (((((r3.2.2 66 x1.toNatClampNeg) - (r3.2.2 68 x1.toNatClampNeg)) + r4.1) - 1) / r4.1, 0, r4.2.2)) else (some ((-9), 0, r4.2.2))) else (if x2 < (((((r3.2.2 66 x1.toNatClampNeg) - (r3.2.2 68 x1.toNatClampNeg)) + r4.1) - 1) / r4.1) then (z_lp z_SH 0 (fun _ => 0) (z_go z_SH z_P d) me_X10_softly 199999 107 [some (.ref 59), some (.int x1), some (.int x2), some (.int ((r3.2.2 66 x1.toNatClampNeg) - (r3.2.2 68 x1.toNatClampNeg))), some (.int r4.1), some (.int (((((r3.2.2 66 x1.toNatClampNeg) - (r3.2.2 68 x1.toNatClampNeg)) + r4.1) - 1) / r4.1)), some (.int 0), some (.int 0)] [] r4.2.2) else (if x2 = (-1) then (some (((((r3.2.2 66 x1.toNatClampNeg) - (r3.2.2 68 x1.toNatClampNeg)) + r4.1) - 1) / r4.1, 0, r4.2.2)) else (some ((-9), 0, r4.2.2)))))))))) else (some ((-3), 0, r3.2.2))))))) := (z_go_c (me := me_X10_softly) rfl rfl).trans (e_X10_softly_0 0 (fun _ => 0) (z_go z_SH z_P d) 199999 x1 x2 m)
set_option maxRecDepth 100000 in
theorem c_X10_just (d : Nat) (x1 : Int32) (x2 : Int32) (x3 : Int32) (m : z_M) : z_go z_SH z_P (d + 1) 149 [.ref 59, .int x1, .int x2, .int x3] m = Option.bind (z_go z_SH z_P d 113 [.ref 59, .int x1] m) (fun r1 => if r1.1 = 0 then (some ((-1), 0, r1.2.2)) else (Option.bind (z_go z_SH z_P d 108 [.int x2, .int 0, .int 6] r1.2.2) (fun r2 => if r2.1 = 0 then (some ((-2), 0, r2.2.2)) else (Option.bind (z_go z_SH z_P d 108 [.int x3, .int 0, .int 54] r2.2.2) (fun r3 => if r3.1 = 0 then (some ((-2), 0, r3.2.2)) else (z_lp z_SH 0 (fun _ => 0) (z_go z_SH z_P d) me_X10_just 199999 36 [some (.ref 59), some (.int x1), some (.int x2), some (.int x3), some (.int 0), none, none, none] [] r3.2.2)))))) := (z_go_c (me := me_X10_just) rfl rfl).trans (e_X10_just_0 0 (fun _ => 0) (z_go z_SH z_P d) 199999 x1 x2 x3 m)
set_option maxRecDepth 100000 in
theorem c_X10_canSit (d : Nat) (x1 : Int32) (x2 : Int32) (m : z_M) : z_go z_SH z_P (d + 1) 150 [.ref 59, .int x1, .int x2] m = z_lp z_SH 0 (fun _ => 0) (z_go z_SH z_P d) me_X10_canSit 199999 10 [some (.ref 59), none, some (.int x2), some (.int x1), some (.int ((m 59 6) - 1)), none, none, none] [] m := (z_go_c (me := me_X10_canSit) rfl rfl).trans (e_X10_canSit_0 0 (fun _ => 0) (z_go z_SH z_P d) 199999 x1 x2 m)
set_option maxRecDepth 100000 in
theorem c_X10_findTables (d : Nat) (m : z_M) : z_go z_SH z_P (d + 1) 151 [.ref 59] m = Option.bind (z_go z_SH z_P d 116 [.int (m 59 8)] m) (fun r1 => if ((m 59 6) - r1.1) = 0 then (z_lp z_SH 0 (fun _ => 0) (z_go z_SH z_P d) me_X10_findTables 199999 23 [some (.ref 59), some (.int ((m 59 6) - r1.1)), some (.int 0), none, none] [] r1.2.2) else (z_lp z_SH 0 (fun _ => 0) (z_go z_SH z_P d) me_X10_findTables 199999 23 [some (.ref 59), some (.int ((m 59 6) - r1.1)), some (.int 1), none, none] [] r1.2.2)) := (z_go_c (me := me_X10_findTables) rfl rfl).trans (e_X10_findTables_0 0 (fun _ => 0) (z_go z_SH z_P d) 199999 m)
set_option maxRecDepth 100000 in
theorem c_X10_apart (d : Nat) (x1 : Int32) (m : z_M) : z_go z_SH z_P (d + 1) 152 [.ref 59, .int x1] m = Option.bind (z_go z_SH z_P d 108 [.int x1, .int (-1), .int 5] m) (fun r1 => if r1.1 = 0 then (some ((-2), 0, r1.2.2)) else (if (r1.2.2 59 6) = 0 then (some ((-3), 0, r1.2.2)) else (Option.bind (z_go z_SH z_P d 151 [.ref 59] r1.2.2) (fun r2 => if x1 = (-1) then (some (r2.1, 0, r2.2.2)) else (Option.bind (z_go z_SH z_P d 113 [.ref 59, .int x1] r2.2.2) (fun r3 => if r3.1 = 0 then (some ((-9), 0, r3.2.2)) else (Option.bind (z_go z_SH z_P d 115 [.int (r3.2.2 59 8), .int x1] r3.2.2) (fun r4 => if r4.1 = 0 then (z_g (z_in 6 x1) (some (r4.2.2 74 x1.toNatClampNeg, 0, r4.2.2))) else (some ((-9), 0, r4.2.2)))))))))) := (z_go_c (me := me_X10_apart) rfl rfl).trans (e_X10_apart_0 0 (fun _ => 0) (z_go z_SH z_P d) 199999 x1 m)
set_option maxRecDepth 100000 in
theorem c_X10_canGive (d : Nat) (x1 : Int32) (m : z_M) : z_go z_SH z_P (d + 1) 153 [.ref 59, .int x1] m = z_lp z_SH 0 (fun _ => 0) (z_go z_SH z_P d) me_X10_canGive 199999 12 [some (.ref 59), none, some (.int x1), some (.int 0), some (.int ((m 59 6) - 1)), none] [] m := (z_go_c (me := me_X10_canGive) rfl rfl).trans (e_X10_canGive_0 0 (fun _ => 0) (z_go z_SH z_P d) 199999 x1 m)
set_option maxRecDepth 100000 in
theorem c_X10_tryRow (d : Nat) (m : z_M) : z_go z_SH z_P (d + 1) 154 [.ref 59] m = z_lp z_SH 0 (fun _ => 0) (z_go z_SH z_P d) me_X10_tryRow 199999 6 [some (.ref 59), some (.int 0), some (.int 0), some (.int 0)] [] m := (z_go_c (me := me_X10_tryRow) rfl rfl).trans (e_X10_tryRow_0 0 (fun _ => 0) (z_go z_SH z_P d) 199999 m)
set_option maxRecDepth 100000 in
theorem c_X10_best (d : Nat) (x1 : Int32) (m : z_M) : z_go z_SH z_P (d + 1) 155 [.ref 59, .int x1] m = Option.bind (z_go z_SH z_P d 108 [.int x1, .int (-2), .int 5] m) (fun r1 => if r1.1 = 0 then (some ((-2), 0, r1.2.2)) else (if (r1.2.2 59 6) = 0 then (some ((-3), 0, r1.2.2)) else (z_lp z_SH 0 (fun _ => 0) (z_go z_SH z_P d) me_X10_best 199999 27 [some (.ref 59), some (.int x1), some (.int 1), some (.int 0)] [] r1.2.2))) := (z_go_c (me := me_X10_best) rfl rfl).trans (e_X10_best_0 0 (fun _ => 0) (z_go z_SH z_P d) 199999 x1 m)
set_option maxRecDepth 100000 in
theorem c_X10_reading (d : Nat) (x1 : Int32) (x2 : Int32) (x3 : Int32) (m : z_M) : z_go z_SH z_P (d + 1) 156 [.ref 59, .int x1, .int x2, .int x3] m = Option.bind (z_go z_SH z_P d 112 [.ref 59, .int x1] m) (fun r1 => if r1.1 = 0 then (some ((-1), 0, r1.2.2)) else (Option.bind (z_go z_SH z_P d 113 [.ref 59, .int x2] r1.2.2) (fun r2 => if r2.1 = 0 then (some ((-1), 0, r2.2.2)) else (Option.bind (z_go z_SH z_P d 108 [.int x3, .int 0, .int 1] r2.2.2) (fun r3 => if r3.1 = 0 then (some ((-2), 0, r3.2.2)) else (if (r3.2.2 59 33) = 8 then (some ((-4), 0, r3.2.2)) else (z_g (z_in 8 (r3.2.2 59 33)) (z_g (z_in 8 ((z_up r3.2.2 77 (r3.2.2 59 33).toNatClampNeg x1) 59 33)) (z_g (z_in 8 ((z_up (z_up r3.2.2 77 (r3.2.2 59 33).toNatClampNeg x1) 78 ((z_up r3.2.2 77 (r3.2.2 59 33).toNatClampNeg x1) 59 33).toNatClampNeg x2) 59 33)) (some (((z_up (z_up (z_up (z_up r3.2.2 77 (r3.2.2 59 33).toNatClampNeg x1) 78 ((z_up r3.2.2 77 (r3.2.2 59 33).toNatClampNeg x1) 59 33).toNatClampNeg x2) 79 ((z_up (z_up r3.2.2 77 (r3.2.2 59 33).toNatClampNeg x1) 78 ((z_up r3.2.2 77 (r3.2.2 59 33).toNatClampNeg x1) 59 33).toNatClampNeg x2) 59 33).toNatClampNeg x3) 59 33 (((z_up (z_up (z_up r3.2.2 77 (r3.2.2 59 33).toNatClampNeg x1) 78 ((z_up r3.2.2 77 (r3.2.2 59 33).toNatClampNeg x1) 59 33).toNatClampNeg x2) 79 ((z_up (z_up r3.2.2 77 (r3.2.2 59 33).toNatClampNeg x1) 78 ((z_up r3.2.2 77 (r3.2.2 59 33).toNatClampNeg x1) 59 33).toNatClampNeg x2) 59 33).toNatClampNeg x3) 59 33) + 1)) 59 33) - 1, 0, z_up (z_up (z_up (z_up r3.2.2 77 (r3.2.2 59 33).toNatClampNeg x1) 78 ((z_up r3.2.2 77 (r3.2.2 59 33).toNatClampNeg x1) 59 33).toNatClampNeg x2) 79 ((z_up (z_up r3.2.2 77 (r3.2.2 59 33).toNatClampNeg x1) 78 ((z_up r3.2.2 77 (r3.2.2 59 33).toNatClampNeg x1) 59 33).toNatClampNeg x2) 59 33).toNatClampNeg x3) 59 33 (((z_up (z_up (z_up r3.2.2 77 (r3.2.2 59 33).toNatClampNeg x1) 78 ((z_up r3.2.2 77 (r3.2.2 59 33).toNatClampNeg x1) 59 33).toNatClampNeg x2) 79 ((z_up (z_up r3.2.2 77 (r3.2.2 59 33).toNatClampNeg x1) 78 ((z_up r3.2.2 77 (r3.2.2 59 33).toNatClampNeg x1) 59 33).toNatClampNeg x2) 59 33).toNatClampNeg x3) 59 33) + 1)))))))))))) := (z_go_c (me := me_X10_reading) rfl rfl).trans (e_X10_reading_0 0 (fun _ => 0) (z_go z_SH z_P d) 199999 x1 x2 x3 m)
set_option maxRecDepth 100000 in
theorem c_X10_back (d : Nat) (x1 : Int32) (m : z_M) : z_go z_SH z_P (d + 1) 157 [.ref 59, .int x1] m = Option.bind (z_go z_SH z_P d 108 [.int x1, .int 0, .int (m 59 33)] m) (fun r1 => if r1.1 = 0 then (some ((-2), 0, r1.2.2)) else (some ((z_up r1.2.2 59 33 ((r1.2.2 59 33) - x1)) 59 33, 0, z_up r1.2.2 59 33 ((r1.2.2 59 33) - x1)))) := (z_go_c (me := me_X10_back) rfl rfl).trans (e_X10_back_0 0 (fun _ => 0) (z_go z_SH z_P d) 199999 x1 m)
set_option maxRecDepth 100000 in
theorem c_X10_areSo (d : Nat) (m : z_M) : z_go z_SH z_P (d + 1) 158 [.ref 59] m = z_lp z_SH 0 (fun _ => 0) (z_go z_SH z_P d) me_X10_areSo 199999 2 [some (.ref 59), some (.int 0), none] [] m := (z_go_c (me := me_X10_areSo) rfl rfl).trans (e_X10_areSo_0 0 (fun _ => 0) (z_go z_SH z_P d) 199999 m)
set_option maxRecDepth 100000 in
theorem c_X10_bearings (d : Nat) (x1 : Int32) (m : z_M) : z_go z_SH z_P (d + 1) 159 [.ref 59, .int x1] m = Option.bind (z_go z_SH z_P d 113 [.ref 59, .int x1] m) (fun r1 => if r1.1 = 0 then (some ((-1), 0, r1.2.2)) else (z_g (z_in 6 x1) (z_lp z_SH 0 (fun _ => 0) (z_go z_SH z_P d) me_X10_bearings 199999 22 [some (.ref 59), some (.int x1), some (.int (r1.2.2 65 x1.toNatClampNeg)), some (.int 0), some (.int 1)] [] r1.2.2))) := (z_go_c (me := me_X10_bearings) rfl rfl).trans (e_X10_bearings_0 0 (fun _ => 0) (z_go z_SH z_P d) 199999 x1 m)
set_option maxRecDepth 100000 in
theorem c_X10_kinds (d : Nat) (x1 : Int32) (m : z_M) : z_go z_SH z_P (d + 1) 160 [.ref 59, .int x1] m = Option.bind (z_go z_SH z_P d 113 [.ref 59, .int x1] m) (fun r1 => if r1.1 = 0 then (some ((-1), 0, r1.2.2)) else (z_g (z_in 6 x1) (z_lp z_SH 0 (fun _ => 0) (z_go z_SH z_P d) me_X10_kinds 199999 22 [some (.ref 59), some (.int x1), some (.int (r1.2.2 64 x1.toNatClampNeg)), some (.int 0), some (.int 0)] [] r1.2.2))) := (z_go_c (me := me_X10_kinds) rfl rfl).trans (e_X10_kinds_0 0 (fun _ => 0) (z_go z_SH z_P d) 199999 x1 m)
set_option maxRecDepth 100000 in
theorem c_X10_hintings (d : Nat) (x1 : Int32) (m : z_M) : z_go z_SH z_P (d + 1) 161 [.ref 59, .int x1] m = Option.bind (z_go z_SH z_P d 112 [.ref 59, .int x1] m) (fun r1 => if r1.1 = 0 then (some ((-1), 0, r1.2.2)) else (z_g (z_in 5 x1) (z_lp z_SH 0 (fun _ => 0) (z_go z_SH z_P d) me_X10_hintings 199999 22 [some (.ref 59), some (.int x1), some (.int (r1.2.2 63 x1.toNatClampNeg)), some (.int 0), some (.int 1)] [] r1.2.2))) := (z_go_c (me := me_X10_hintings) rfl rfl).trans (e_X10_hintings_0 0 (fun _ => 0) (z_go z_SH z_P d) 199999 x1 m)
set_option maxRecDepth 100000 in
theorem c_X10_inLeastTerms (d : Nat) (x1 : Int64) (x2 : Int64) (x3 : Int32) (m : z_M) : z_go z_SH z_P (d + 1) 162 [.long x1, .long x2, .int x3] m = z_lp z_SH 0 (fun _ => 0) (z_go z_SH z_P d) me_X10_inLeastTerms 199999 6 [some (.long x1), none, some (.long x2), none, some (.int x3), some (.long x1), none, some (.long x2), none, none, none] [] m := (z_go_c (me := me_X10_inLeastTerms) rfl rfl).trans (e_X10_inLeastTerms_0 0 (fun _ => 0) (z_go z_SH z_P d) 199999 x1 x2 x3 m)
set_option maxRecDepth 100000 in
theorem c_X10_odds (d : Nat) (x1 : Int32) (x2 : Int32) (m : z_M) : z_go z_SH z_P (d + 1) 163 [.ref 59, .int x1, .int x2] m = Option.bind (z_go z_SH z_P d 113 [.ref 59, .int x1] m) (fun r1 => if r1.1 = 0 then (some (0, z_lost, r1.2.2)) else (Option.bind (z_go z_SH z_P d 108 [.int x2, .int 0, .int 1] r1.2.2) (fun r2 => if r2.1 = 0 then (some (0, z_lost, r2.2.2)) else (z_lp z_SH 0 (fun _ => 0) (z_go z_SH z_P d) me_X10_odds 199999 26 [some (.ref 59), some (.int x1), some (.int x2), some (.int 0), some (.int 0)] [] r2.2.2)))) := (z_go_c (me := me_X10_odds) rfl rfl).trans (e_X10_odds_0 0 (fun _ => 0) (z_go z_SH z_P d) 199999 x1 x2 m)
set_option maxRecDepth 100000 in
theorem c_X10_sheet (d : Nat) (x1 : Int32) (x2 : Int32) (x3 : Int32) (m : z_M) : z_go z_SH z_P (d + 1) 164 [.ref 59, .int x1, .int x2, .int x3] m = Option.bind (z_go z_SH z_P d 109 [.int x1] (z_up m 59 0 0)) (fun r1 => if r1.1 = 0 then (some ((-1), 0, r1.2.2)) else (Option.bind (z_go z_SH z_P d 110 [.int x2] r1.2.2) (fun r2 => if r2.1 = 0 then (some ((-2), 0, r2.2.2)) else (if x3 ≤ 60 then (if 0 ≤ x3 then (z_g (z_in 4 x1) (z_g (z_in 4 x1) (z_lp z_SH 0 (fun _ => 0) (z_go z_SH z_P d) me_X10_sheet 199999 57 [some (.ref 59), some (.int x1), none, none, some (.int 0)] [] (z_up (z_up r2.2.2 60 x1.toNatClampNeg x2) 61 x1.toNatClampNeg x3)))) else (Option.bind (z_go z_SH z_P d 106 [.ref 59, .int 4] r2.2.2) (fun r3 => some (r3.1, 0, r3.2.2)))) else (some ((-2), 0, r2.2.2)))))) := (z_go_c (me := me_X10_sheet) rfl rfl).trans (e_X10_sheet_0 0 (fun _ => 0) (z_go z_SH z_P d) 199999 x1 x2 x3 m)
set_option maxRecDepth 100000 in
theorem c_X10_lose (d : Nat) (x1 : Int32) (m : z_M) : z_go z_SH z_P (d + 1) 165 [.ref 59, .int x1] m = Option.bind (z_go z_SH z_P d 109 [.int x1] m) (fun r1 => if r1.1 = 0 then (some ((-1), 0, r1.2.2)) else (z_g (z_in 4 x1) (if (r1.2.2 60 x1.toNatClampNeg) = (-9) then (z_g (z_in 4 x1) (some (0, 0, z_up r1.2.2 60 x1.toNatClampNeg (-9)))) else (z_g (z_in 4 x1) (some (1, 0, z_up r1.2.2 60 x1.toNatClampNeg (-9))))))) := (z_go_c (me := me_X10_lose) rfl rfl).trans (e_X10_lose_0 0 (fun _ => 0) (z_go z_SH z_P d) 199999 x1 m)
set_option maxRecDepth 100000 in
theorem c_X10_put (d : Nat) (x1 : Int32) (x2 : Int32) (x3 : Int32) (m : z_M) : z_go z_SH z_P (d + 1) 166 [.ref 59, .int x1, .int x2, .int x3] m = Option.bind (z_go z_SH z_P d 109 [.int x1] (z_up m 59 0 0)) (fun r1 => if r1.1 = 0 then (some ((-1), 0, r1.2.2)) else (z_g (z_in 4 x1) (if (r1.2.2 60 x1.toNatClampNeg) = (-9) then (Option.bind (z_go z_SH z_P d 106 [.ref 59, .int 1] r1.2.2) (fun r2 => some (r2.1, 0, r2.2.2))) else (z_g (z_in 4 x1) (Option.bind (z_go z_SH z_P d 108 [.int x2, .int 0, .int ((r1.2.2 61 x1.toNatClampNeg) - 1)] r1.2.2) (fun r3 => if r3.1 = 0 then (Option.bind (z_go z_SH z_P d 106 [.ref 59, .int 3] r3.2.2) (fun r4 => some (r4.1, 0, r4.2.2))) else (z_g (z_in 4 x1) (if (r3.2.2 60 x1.toNatClampNeg) = 0 then (z_g (z_in 240 ((60 * x1) + x2)) (some (1, 0, z_up r3.2.2 62 ((60 * x1) + x2).toNatClampNeg x3.toInt8.toInt32))) else (z_g (z_in 4 x1) (if (r3.2.2 60 x1.toNatClampNeg) = 1 then (z_g (z_in 240 ((60 * x1) + x2)) (some (1, 0, z_up r3.2.2 62 ((60 * x1) + x2).toNatClampNeg x3.toInt16.toInt32))) else (z_g (z_in 240 ((60 * x1) + x2)) (some (1, 0, z_up r3.2.2 62 ((60 * x1) + x2).toNatClampNeg x3))))))))))))) := (z_go_c (me := me_X10_put) rfl rfl).trans (e_X10_put_0 0 (fun _ => 0) (z_go z_SH z_P d) 199999 x1 x2 x3 m)
set_option maxRecDepth 100000 in
theorem c_X10_cell (d : Nat) (x1 : Int32) (x2 : Int32) (x3 : Int32) (m : z_M) : z_go z_SH z_P (d + 1) 167 [.ref 59, .int x1, .int x2, .int x3] m = Option.bind (z_go z_SH z_P d 109 [.int x1] (z_up m 59 0 0)) (fun r1 => if r1.1 = 0 then (some (0, z_lost, r1.2.2)) else (Option.bind (z_go z_SH z_P d 110 [.int x3] r1.2.2) (fun r2 => if r2.1 = 0 then (some (0, z_lost, r2.2.2)) else (z_g (z_in 4 x1) (if (r2.2.2 60 x1.toNatClampNeg) = (-9) then (z_g (z_in 4 x1) (if (r2.2.2 60 x1.toNatClampNeg) = (-9) then (Option.bind (z_go z_SH z_P d 107 [.ref 59, .int 1] r2.2.2) (fun r3 => some (0, r3.2.1, r3.2.2))) else (z_g (z_in 4 x1) (Option.bind (z_go z_SH z_P d 108 [.int x2, .int 0, .int ((r2.2.2 61 x1.toNatClampNeg) - 1)] r2.2.2) (fun r4 => if r4.1 = 0 then (Option.bind (z_go z_SH z_P d 107 [.ref 59, .int 3] r4.2.2) (fun r5 => some (0, r5.2.1, r5.2.2))) else (z_g (z_in 240 ((60 * x1) + x2)) (some (0, (r4.2.2 62 ((60 * x1) + x2).toNatClampNeg).toInt64, r4.2.2)))))))) else (z_g (z_in 4 x1) (if (r2.2.2 60 x1.toNatClampNeg) = x3 then (z_g (z_in 4 x1) (if (r2.2.2 60 x1.toNatClampNeg) = (-9) then (Option.bind (z_go z_SH z_P d 107 [.ref 59, .int 1] r2.2.2) (fun r6 => some (0, r6.2.1, r6.2.2))) else (z_g (z_in 4 x1) (Option.bind (z_go z_SH z_P d 108 [.int x2, .int 0, .int ((r2.2.2 61 x1.toNatClampNeg) - 1)] r2.2.2) (fun r7 => if r7.1 = 0 then (Option.bind (z_go z_SH z_P d 107 [.ref 59, .int 3] r7.2.2) (fun r8 => some (0, r8.2.1, r8.2.2))) else (z_g (z_in 240 ((60 * x1) + x2)) (some (0, (r7.2.2 62 ((60 * x1) + x2).toNatClampNeg).toInt64, r7.2.2)))))))) else (Option.bind (z_go z_SH z_P d 107 [.ref 59, .int 2] r2.2.2) (fun r9 => some (0, r9.2.1, r9.2.2)))))))))) := (z_go_c (me := me_X10_cell) rfl rfl).trans (e_X10_cell_0 0 (fun _ => 0) (z_go z_SH z_P d) 199999 x1 x2 x3 m)
set_option maxRecDepth 100000 in
theorem c_X10_copy (d : Nat) (x1 : Int32) (x2 : Int32) (x3 : Int32) (x4 : Int32) (x5 : Int32) (m : z_M) : z_go z_SH z_P (d + 1) 168 [.ref 59, .int x1, .int x2, .int x3, .int x4, .int x5] m = Option.bind (z_go z_SH z_P d 109 [.int x1] (z_up m 59 0 0)) (fun r1 => if r1.1 = 0 then (some ((-1), 0, r1.2.2)) else (Option.bind (z_go z_SH z_P d 109 [.int x3] r1.2.2) (fun r2 => if r2.1 = 0 then (some ((-1), 0, r2.2.2)) else (z_g (z_in 4 x1) (if (r2.2.2 60 x1.toNatClampNeg) = (-9) then (Option.bind (z_go z_SH z_P d 106 [.ref 59, .int 1] r2.2.2) (fun r3 => some (r3.1, 0, r3.2.2))) else (z_g (z_in 4 x3) (if (r2.2.2 60 x3.toNatClampNeg) = (-9) then (Option.bind (z_go z_SH z_P d 106 [.ref 59, .int 1] r2.2.2) (fun r4 => some (r4.1, 0, r4.2.2))) else (z_g (z_in 4 x1) (z_g (z_in 4 x3) (if (r2.2.2 60 x1.toNatClampNeg) = (r2.2.2 60 x3.toNatClampNeg) then (if x2 < 0 then (z_lp z_SH 0 (fun _ => 0) (z_go z_SH z_P d) me_X10_copy 199999 110 [some (.ref 59), some (.int x1), some (.int x2), some (.int x3), some (.int x4), some (.int x5), none, none, none, none] [.int 0] r2.2.2) else (if x4 < 0 then (z_lp z_SH 0 (fun _ => 0) (z_go z_SH z_P d) me_X10_copy 199999 110 [some (.ref 59), some (.int x1), some (.int x2), some (.int x3), some (.int x4), some (.int x5), none, none, none, none] [.int 0] r2.2.2) else (if x5 < 0 then (z_lp z_SH 0 (fun _ => 0) (z_go z_SH z_P d) me_X10_copy 199999 110 [some (.ref 59), some (.int x1), some (.int x2), some (.int x3), some (.int x4), some (.int x5), none, none, none, none] [.int 0] r2.2.2) else (z_g (z_in 4 x1) (if (r2.2.2 61 x1.toNatClampNeg) < x2 then (z_lp z_SH 0 (fun _ => 0) (z_go z_SH z_P d) me_X10_copy 199999 110 [some (.ref 59), some (.int x1), some (.int x2), some (.int x3), some (.int x4), some (.int x5), none, none, none, none] [.int 0] r2.2.2) else (z_g (z_in 4 x3) (if (r2.2.2 61 x3.toNatClampNeg) < x4 then (z_lp z_SH 0 (fun _ => 0) (z_go z_SH z_P d) me_X10_copy 199999 110 [some (.ref 59), some (.int x1), some (.int x2), some (.int x3), some (.int x4), some (.int x5), none, none, none, none] [.int 0] r2.2.2) else (z_lp z_SH 0 (fun _ => 0) (z_go z_SH z_P d) me_X10_copy 199999 110 [some (.ref 59), some (.int x1), some (.int x2), some (.int x3), some (.int x4), some (.int x5), none, none, none, none] [.int 1] r2.2.2)))))))) else (Option.bind (z_go z_SH z_P d 106 [.ref 59, .int 2] r2.2.2) (fun r5 => some (r5.1, 0, r5.2.2))))))))))))) := (z_go_c (me := me_X10_copy) rfl rfl).trans (e_X10_copy_0 0 (fun _ => 0) (z_go z_SH z_P d) 199999 x1 x2 x3 x4 x5 m)
set_option maxRecDepth 100000 in
theorem c_X10_begins (d : Nat) (x1 : Int32) (m : z_M) : z_go z_SH z_P (d + 1) 169 [.ref 59, .int x1] m = some (0, 0, z_up m 59 1 ((31 * (m 59 1)) + x1)) := (z_go_c (me := me_X10_begins) rfl rfl).trans (e_X10_begins_0 0 (fun _ => 0) (z_go z_SH z_P d) 199999 x1 m)
set_option maxRecDepth 100000 in
theorem c_X10_tell (d : Nat) (x1 : Int32) (m : z_M) : z_go z_SH z_P (d + 1) 170 [.ref 59, .int x1] m = Option.bind (z_go z_SH z_P d 113 [.ref 59, .int x1] m) (fun r1 => if r1.1 = 0 then (some ((-1), 0, r1.2.2)) else (z_g (z_in 6 x1) (z_g (z_in 6 x1) (if (r1.2.2 64 x1.toNatClampNeg) = nI 1 then (Option.bind (z_go z_SH z_P d 169 [.ref 59, .int 2] r1.2.2) (fun r2 => Option.bind (z_go z_SH z_P d 169 [.ref 59, .int 1] r2.2.2) (fun r3 => some ((r1.2.2 65 x1.toNatClampNeg) + 100, 0, r3.2.2)))) else if (r1.2.2 64 x1.toNatClampNeg) = nI 2 then (Option.bind (z_go z_SH z_P d 169 [.ref 59, .int 3] r1.2.2) (fun r4 => Option.bind (z_go z_SH z_P d 169 [.ref 59, .int 2] r4.2.2) (fun r5 => Option.bind (z_go z_SH z_P d 169 [.ref 59, .int 1] r5.2.2) (fun r6 => Option.bind (z_go z_SH z_P d 169 [.ref 59, .int 1] r6.2.2) (fun r7 => some ((2 * (r1.2.2 65 x1.toNatClampNeg)) + 100, 0, r7.2.2)))))) else (Option.bind (z_go z_SH z_P d 169 [.ref 59, .int 1] r1.2.2) (fun r8 => some (r1.2.2 65 x1.toNatClampNeg, 0, r8.2.2))))))) := (z_go_c (me := me_X10_tell) rfl rfl).trans (e_X10_tell_0 0 (fun _ => 0) (z_go z_SH z_P d) 199999 x1 m)
set_option maxRecDepth 100000 in
theorem c_X10_bow (d : Nat) (x1 : Int32) (m : z_M) : z_go z_SH z_P (d + 1) 171 [.ref 59, .int x1] m = Option.bind (z_go z_SH z_P d 113 [.ref 59, .int x1] m) (fun r1 => if r1.1 = 0 then (some ((-1), 0, r1.2.2)) else (z_g (z_in 6 x1) (if (r1.2.2 64 x1.toNatClampNeg) = 2 then (Option.bind (z_go z_SH z_P d 169 [.ref 59, .int 5] r1.2.2) (fun r2 => z_g (z_in 6 x1) (if (r2.2.2 64 x1.toNatClampNeg) = 2 then (some (70, 0, r2.2.2)) else (z_g (z_in 6 x1) (some (r2.2.2 67 x1.toNatClampNeg, 0, r2.2.2)))))) else (Option.bind (z_go z_SH z_P d 169 [.ref 59, .int 4] r1.2.2) (fun r3 => z_g (z_in 6 x1) (if (r3.2.2 64 x1.toNatClampNeg) = 2 then (some (70, 0, r3.2.2)) else (z_g (z_in 6 x1) (some (r3.2.2 67 x1.toNatClampNeg, 0, r3.2.2))))))))) := (z_go_c (me := me_X10_bow) rfl rfl).trans (e_X10_bow_0 0 (fun _ => 0) (z_go z_SH z_P d) 199999 x1 m)
set_option maxRecDepth 100000 in
theorem c_X10_as (d : Nat) (x1 : Int32) (x2 : Int32) (m : z_M) : z_go z_SH z_P (d + 1) 172 [.ref 59, .int x1, .int x2] m = Option.bind (z_go z_SH z_P d 113 [.ref 59, .int x1] (z_up m 59 0 0)) (fun r1 => if r1.1 = 0 then (some ((-1), 0, r1.2.2)) else (Option.bind (z_go z_SH z_P d 108 [.int x2, .int 0, .int 2] r1.2.2) (fun r2 => if r2.1 = 0 then (some ((-2), 0, r2.2.2)) else (z_g (z_in 6 x1) (if (r2.2.2 64 x1.toNatClampNeg) < x2 then (Option.bind (z_go z_SH z_P d 106 [.ref 59, .int 2] r2.2.2) (fun r3 => some (r3.1, 0, r3.2.2))) else (some (1, 0, r2.2.2))))))) := (z_go_c (me := me_X10_as) rfl rfl).trans (e_X10_as_0 0 (fun _ => 0) (z_go z_SH z_P d) 199999 x1 x2 m)
set_option maxRecDepth 100000 in
theorem c_X10_trace (d : Nat) (m : z_M) : z_go z_SH z_P (d + 1) 173 [.ref 59] m = some (m 59 1, 0, m) := (z_go_c (me := me_X10_trace) rfl rfl).trans (e_X10_trace_0 0 (fun _ => 0) (z_go z_SH z_P d) 199999 m)
set_option maxRecDepth 100000 in
theorem c_X10_fault (d : Nat) (m : z_M) : z_go z_SH z_P (d + 1) 174 [.ref 59] m = some (m 59 0, 0, m) := (z_go_c (me := me_X10_fault) rfl rfl).trans (e_X10_fault_0 0 (fun _ => 0) (z_go z_SH z_P d) 199999 m)
set_option maxRecDepth 100000 in
theorem c_X10_many (d : Nat) (x1 : Int32) (m : z_M) : z_go z_SH z_P (d + 1) 175 [.ref 59, .int x1] m = if x1 = nI 0 then (some (m 59 6, 0, m)) else if x1 = nI 1 then (some (m 59 5, 0, m)) else if x1 = nI 2 then (some (m 59 7, 0, m)) else if x1 = nI 3 then (Option.bind (z_go z_SH z_P d 116 [.int (m 59 8)] m) (fun r1 => some (r1.1, 0, r1.2.2))) else if x1 = nI 4 then (some (m 59 33, 0, m)) else (some ((-2), 0, m)) := (z_go_c (me := me_X10_many) rfl rfl).trans (e_X10_many_0 0 (fun _ => 0) (z_go z_SH z_P d) 199999 x1 m)
set_option maxRecDepth 100000 in
theorem c_Integer_bitCount (d : Nat) (x1 : Int32) (m : z_M) : z_go z_SH z_P (d + 1) 178 [.int x1] m = some ((((((((x1 - (((x1.toUInt32 >>> ((1 : Int32).toUInt32 &&& Int32.toUInt32 31)).toInt32) &&& (1431655765 : Int32))) &&& (858993459 : Int32)) + ((((x1 - (((x1.toUInt32 >>> ((1 : Int32).toUInt32 &&& Int32.toUInt32 31)).toInt32) &&& (1431655765 : Int32))).toUInt32 >>> ((2 : Int32).toUInt32 &&& Int32.toUInt32 31)).toInt32) &&& (858993459 : Int32))) + (((((x1 - (((x1.toUInt32 >>> ((1 : Int32).toUInt32 &&& Int32.toUInt32 31)).toInt32) &&& (1431655765 : Int32))) &&& (858993459 : Int32)) + ((((x1 - (((x1.toUInt32 >>> ((1 : Int32).toUInt32 &&& Int32.toUInt32 31)).toInt32) &&& (1431655765 : Int32))).toUInt32 >>> ((2 : Int32).toUInt32 &&& Int32.toUInt32 31)).toInt32) &&& (858993459 : Int32))).toUInt32 >>> ((4 : Int32).toUInt32 &&& Int32.toUInt32 31)).toInt32)) &&& (252645135 : Int32)) + (((((((x1 - (((x1.toUInt32 >>> ((1 : Int32).toUInt32 &&& Int32.toUInt32 31)).toInt32) &&& (1431655765 : Int32))) &&& (858993459 : Int32)) + ((((x1 - (((x1.toUInt32 >>> ((1 : Int32).toUInt32 &&& Int32.toUInt32 31)).toInt32) &&& (1431655765 : Int32))).toUInt32 >>> ((2 : Int32).toUInt32 &&& Int32.toUInt32 31)).toInt32) &&& (858993459 : Int32))) + (((((x1 - (((x1.toUInt32 >>> ((1 : Int32).toUInt32 &&& Int32.toUInt32 31)).toInt32) &&& (1431655765 : Int32))) &&& (858993459 : Int32)) + ((((x1 - (((x1.toUInt32 >>> ((1 : Int32).toUInt32 &&& Int32.toUInt32 31)).toInt32) &&& (1431655765 : Int32))).toUInt32 >>> ((2 : Int32).toUInt32 &&& Int32.toUInt32 31)).toInt32) &&& (858993459 : Int32))).toUInt32 >>> ((4 : Int32).toUInt32 &&& Int32.toUInt32 31)).toInt32)) &&& (252645135 : Int32)).toUInt32 >>> ((8 : Int32).toUInt32 &&& Int32.toUInt32 31)).toInt32)) + ((((((((x1 - (((x1.toUInt32 >>> ((1 : Int32).toUInt32 &&& Int32.toUInt32 31)).toInt32) &&& (1431655765 : Int32))) &&& (858993459 : Int32)) + ((((x1 - (((x1.toUInt32 >>> ((1 : Int32).toUInt32 &&& Int32.toUInt32 31)).toInt32) &&& (1431655765 : Int32))).toUInt32 >>> ((2 : Int32).toUInt32 &&& Int32.toUInt32 31)).toInt32) &&& (858993459 : Int32))) + (((((x1 - (((x1.toUInt32 >>> ((1 : Int32).toUInt32 &&& Int32.toUInt32 31)).toInt32) &&& (1431655765 : Int32))) &&& (858993459 : Int32)) + ((((x1 - (((x1.toUInt32 >>> ((1 : Int32).toUInt32 &&& Int32.toUInt32 31)).toInt32) &&& (1431655765 : Int32))).toUInt32 >>> ((2 : Int32).toUInt32 &&& Int32.toUInt32 31)).toInt32) &&& (858993459 : Int32))).toUInt32 >>> ((4 : Int32).toUInt32 &&& Int32.toUInt32 31)).toInt32)) &&& (252645135 : Int32)) + (((((((x1 - (((x1.toUInt32 >>> ((1 : Int32).toUInt32 &&& Int32.toUInt32 31)).toInt32) &&& (1431655765 : Int32))) &&& (858993459 : Int32)) + ((((x1 - (((x1.toUInt32 >>> ((1 : Int32).toUInt32 &&& Int32.toUInt32 31)).toInt32) &&& (1431655765 : Int32))).toUInt32 >>> ((2 : Int32).toUInt32 &&& Int32.toUInt32 31)).toInt32) &&& (858993459 : Int32))) + (((((x1 - (((x1.toUInt32 >>> ((1 : Int32).toUInt32 &&& Int32.toUInt32 31)).toInt32) &&& (1431655765 : Int32))) &&& (858993459 : Int32)) + ((((x1 - (((x1.toUInt32 >>> ((1 : Int32).toUInt32 &&& Int32.toUInt32 31)).toInt32) &&& (1431655765 : Int32))).toUInt32 >>> ((2 : Int32).toUInt32 &&& Int32.toUInt32 31)).toInt32) &&& (858993459 : Int32))).toUInt32 >>> ((4 : Int32).toUInt32 &&& Int32.toUInt32 31)).toInt32)) &&& (252645135 : Int32)).toUInt32 >>> ((8 : Int32).toUInt32 &&& Int32.toUInt32 31)).toInt32)).toUInt32 >>> ((16 : Int32).toUInt32 &&& Int32.toUInt32 31)).toInt32)) &&& (63 : Int32), 0, m) := (z_go_c (me := me_Integer_bitCount) rfl rfl).trans (e_Integer_bitCount_0 0 (fun _ => 0) (z_go z_SH z_P d) 199999 x1 m)
end
section
/-! Facts of the shape and of small numbers. -/
theorem q_in {n N : Nat} (h : n < N) (hN : N < 2147483648) : z_in N (nI n) = true := z_in_iff.mpr (vp_in_nI h hN)
theorem q_cl {n : Nat} (h : n < 2147483648) : (nI n).toNatClampNeg = n := nI_clamp h
theorem q_g {h n k : Nat} (hh : z_isH h) (hn : n < 6) (hk : k < 5) : z_okp z_SH (h + 3 + n) 1 k 0 = true := by
  have h1 : ∀ n, n < 6 → ∀ k, k < 5 → z_okp z_SH (2 + 3 + n) 1 k 0 = true ∧ z_okp z_SH (11 + 3 + n) 1 k 0 = true ∧ z_okp z_SH (21 + 3 + n) 1 k 0 = true ∧ z_okp z_SH (31 + 3 + n) 1 k 0 = true := by decide +kernel
  obtain ⟨a, b, c, d⟩ := h1 n hn k hk
  rcases hh with rfl | rfl | rfl | rfl <;> assumption
theorem q_gb {h n k : Nat} (hh : z_isH h) (hn : n < 6) (h5 : 5 ≤ k) (hk : k < 7) : z_okp z_SH (h + 3 + n) 1 k 1 = true := by
  have h1 : ∀ n, n < 6 → ∀ k, k < 7 → 5 ≤ k → z_okp z_SH (2 + 3 + n) 1 k 1 = true ∧ z_okp z_SH (11 + 3 + n) 1 k 1 = true ∧ z_okp z_SH (21 + 3 + n) 1 k 1 = true ∧ z_okp z_SH (31 + 3 + n) 1 k 1 = true := by decide +kernel
  obtain ⟨a, b, c, d⟩ := h1 n hn k hk h5
  rcases hh with rfl | rfl | rfl | rfl <;> assumption
theorem q_gc {h n : Nat} (hh : z_isH h) (hn : n < 6) : z_okc z_SH (h + 3 + n) 1 = true := by
  have h1 : ∀ n, n < 6 → z_okc z_SH (2 + 3 + n) 1 = true ∧ z_okc z_SH (11 + 3 + n) 1 = true ∧ z_okc z_SH (21 + 3 + n) 1 = true ∧ z_okc z_SH (31 + 3 + n) 1 = true := by decide +kernel
  obtain ⟨a, b, c, d⟩ := h1 n hn
  rcases hh with rfl | rfl | rfl | rfl <;> assumption
theorem q_g5 {n k : Nat} (hn : n < 6) (hk : k < 5) : z_okp z_SH (5 + n) 1 k 0 = true := q_g (h := 2) (Or.inl rfl) hn hk
theorem q_g5b {n k : Nat} (hn : n < 6) (h5 : 5 ≤ k) (hk : k < 7) : z_okp z_SH (5 + n) 1 k 1 = true := q_gb (h := 2) (Or.inl rfl) hn h5 hk
theorem q_g5c {n : Nat} (hn : n < 6) : z_okc z_SH (5 + n) 1 = true := q_gc (h := 2) (Or.inl rfl) hn
theorem q_g14 {n k : Nat} (hn : n < 6) (hk : k < 5) : z_okp z_SH (14 + n) 1 k 0 = true := q_g (h := 11) (Or.inr (Or.inl rfl)) hn hk
theorem q_g24 {n k : Nat} (hn : n < 6) (hk : k < 5) : z_okp z_SH (24 + n) 1 k 0 = true := q_g (h := 21) (Or.inr (Or.inr (Or.inl rfl))) hn hk
theorem q_g24c {n : Nat} (hn : n < 6) : z_okc z_SH (24 + n) 1 = true := q_gc (h := 21) (Or.inr (Or.inr (Or.inl rfl))) hn
theorem q_g34 {n k : Nat} (hn : n < 6) (hk : k < 5) : z_okp z_SH (34 + n) 1 k 0 = true := q_g (h := 31) (Or.inr (Or.inr (Or.inr rfl))) hn hk
theorem q_g34b {n k : Nat} (hn : n < 6) (h5 : 5 ≤ k) (hk : k < 7) : z_okp z_SH (34 + n) 1 k 1 = true := q_gb (h := 31) (Or.inr (Or.inr (Or.inr rfl))) hn h5 hk
theorem q_s {k : Nat} (hk : k < 4) : z_okc z_SH (51 + 2 * k) 4 = true ∧ z_okp z_SH (51 + 2 * k) 4 1 1 = true ∧ z_okp z_SH (51 + 2 * k) 4 2 0 = true ∧ z_okp z_SH (51 + 2 * k) 4 3 0 = true ∧ z_ref z_SH (51 + 2 * k) 4 0 = some (52 + 2 * k) ∧ z_isS (51 + 2 * k) := by
  have h1 : ∀ k, k < 4 → z_okc z_SH (51 + 2 * k) 4 = true ∧ z_okp z_SH (51 + 2 * k) 4 1 1 = true ∧ z_okp z_SH (51 + 2 * k) 4 2 0 = true ∧ z_okp z_SH (51 + 2 * k) 4 3 0 = true ∧ z_ref z_SH (51 + 2 * k) 4 0 = some (52 + 2 * k) := by decide +kernel
  obtain ⟨a, b, c, d, e⟩ := h1 k hk
  exact ⟨a, b, c, d, e, by unfold z_isS; omega⟩
theorem q_sa {k i : Nat} (hk : k < 4) (hi : i < 60) : z_ina z_SH (52 + 2 * k) 0 (nI i) = true := by
  have h1 : z_SH[52 + 2 * k]? = some (.inr (.inl (0, 60))) := by
    rcases (show k = 0 ∨ k = 1 ∨ k = 2 ∨ k = 3 by omega) with rfl | rfl | rfl | rfl <;> rfl
  unfold z_ina
  rw [h1]
  exact q_in hi (by decide)
/-! reading behind a write -/
theorem q_uq (m : z_M) (a k : Nat) (v : Int32) : z_up m a k v a k = v := by simp [z_up_at]
theorem q_ua {m : z_M} {a k a' k' : Nat} {v : Int32} (h : a' ≠ a) : z_up m a k v a' k' = m a' k' := by simp [z_up_at, h]
theorem q_uk {m : z_M} {a k a' k' : Nat} {v : Int32} (h : k' ≠ k) : z_up m a k v a' k' = m a' k' := by simp [z_up_at, h]
def q_v (n : Nat) (x : Int32) : Bool := decide (0 ≤ x.toInt) && decide (x.toInt < n)
def q_b (b : Bool) : Int32 := if b = true then 1 else 0
theorem q_v_nI {n k : Nat} (hk : k < 2147483648) : q_v n (nI k) = decide (k < n) := by
  unfold q_v
  rw [nI_toInt (by omega)]
  simp
theorem q_v_t {n : Nat} {x : Int32} (h : q_v n x = true) (hn : n < 2147483648) : ∃ k, k < n ∧ x = nI k := by
  simp only [q_v, Bool.and_eq_true, decide_eq_true_eq] at h
  exact ⟨x.toInt.toNat, by omega, z_nI_of (by omega) (by omega)⟩
theorem q_v_if {α : Type} {n : Nat} {x : Int32} (hn : n < 2147483648) (a b : α) : (if x < 0 then a else if nI n ≤ x then a else b) = if q_v n x = true then b else a := by
  unfold q_v
  have h1 : (x < 0) ↔ x.toInt < 0 := by rw [Int32.lt_iff_toInt_lt]; exact Iff.rfl
  have h2 : (nI n ≤ x) ↔ (n : Int) ≤ x.toInt := by rw [Int32.le_iff_toInt_le, nI_toInt (by omega)]
  by_cases c1 : x.toInt < 0
  · rw [if_pos (h1.mpr c1)]
    simp [show ¬ 0 ≤ x.toInt by omega]
  · rw [if_neg (fun q => c1 (h1.mp q))]
    by_cases c2 : (n : Int) ≤ x.toInt
    · rw [if_pos (h2.mpr c2)]
      simp [show ¬ x.toInt < n by omega]
    · rw [if_neg (fun q => c2 (h2.mp q))]
      simp [show 0 ≤ x.toInt by omega, show x.toInt < n by omega]
theorem q_b0 (b : Bool) : (q_b b = 0) ↔ b = false := by cases b <;> decide
theorem q_bb (b : Bool) : z_isb (q_b b) = true := by cases b <;> decide
end
section
/-! One state of an hotel; the class's cells and the reference's hold it. -/
abbrev q_St : Type := (Nat × Nat) × (Nat → Nat) × (Nat → Nat → Nat) × (Nat → Nat → Bool)
abbrev q_Rd : Type := Nat × (Nat → Nat) × (Nat → Nat) × (Nat → Bool)
abbrev q_Sh : Type := (Nat → Bool) × (Nat → Nat) × (Nat → Nat) × (Nat → Nat → Int32)
abbrev q_T : Type := (Int32 × Int32 × Int32) × q_St × q_Rd × q_Sh
/-- bits of a set -/
def q_bits : Nat → (Nat → Bool) → Nat
  | 0, _ => 0
  | n + 1, f => q_bits n f + (if f n = true then 2 ^ n else 0)
def q_CS (m : z_M) (h : Nat) (S : q_St) : Prop := m h 2 = nI S.1.1 ∧ m h 3 = nI S.1.2 ∧ (∀ s, s < S.1.1 → m (h + 1) s = nI (S.2.1 s)) ∧ (∀ k, k < S.1.2 → (∀ f, f < 5 → m (h + 3 + k) f = nI (S.2.2.1 f k)) ∧ z_b (m (h + 3 + k) 5) = q_b (S.2.2.2 0 k) ∧ z_b (m (h + 3 + k) 6) = q_b (S.2.2.2 1 k))
def q_MS (m : z_M) (S : q_St) : Prop := m 59 5 = nI S.1.1 ∧ m 59 6 = nI S.1.2 ∧ (∀ s, s < S.1.1 → m 63 s = nI (S.2.1 s)) ∧ (∀ k, k < S.1.2 → ∀ f, f < 5 → m (64 + f) k = nI (S.2.2.1 f k)) ∧ m 59 8 = nI (q_bits S.1.2 (S.2.2.2 0)) ∧ m 59 9 = nI (q_bits S.1.2 (S.2.2.2 1))
def q_C0 (m : z_M) (F : Int32 × Int32 × Int32) : Prop := m 0 10 = F.1 ∧ m 0 9 = F.2.1 ∧ m 2 4 = F.2.2
def q_M0 (m : z_M) (F : Int32 × Int32 × Int32) : Prop := m 59 0 = F.1 ∧ m 59 1 = F.2.1 ∧ m 59 7 = F.2.2
def q_CR (m : z_M) (Q : q_Rd) : Prop := m 40 3 = nI Q.1 ∧ ∀ r, r < Q.1 → m 41 r = nI (Q.2.1 r) ∧ m 42 r = nI (Q.2.2.1 r) ∧ z_b (m 43 r) = q_b (Q.2.2.2 r)
def q_MR (m : z_M) (Q : q_Rd) : Prop := m 59 33 = nI Q.1 ∧ ∀ r, r < Q.1 → m 77 r = nI (Q.2.1 r) ∧ m 78 r = nI (Q.2.2.1 r) ∧ m 79 r = q_b (Q.2.2.2 r)
def q_CP (m : z_M) (Y : q_Sh) : Prop := ∀ k, k < 4 → z_b (m (51 + 2 * k) 1) = q_b (Y.1 k) ∧ m (51 + 2 * k) 2 = nI (Y.2.1 k) ∧ m (51 + 2 * k) 3 = nI (Y.2.2.1 k) ∧ ∀ i, i < 60 → m (52 + 2 * k) i = Y.2.2.2 k i
def q_MP (m : z_M) (Y : q_Sh) : Prop := ∀ k, k < 4 → m 60 k = (if Y.1 k = true then nI (Y.2.1 k) else -9) ∧ m 61 k = nI (Y.2.2.1 k) ∧ ∀ i, i < 60 → m 62 (60 * k + i) = Y.2.2.2 k i
def q_C (m : z_M) (T : q_T) : Prop := q_C0 m T.1 ∧ q_CS m 2 T.2.1 ∧ q_CR m T.2.2.1 ∧ q_CP m T.2.2.2
def q_M (m : z_M) (T : q_T) : Prop := q_M0 m T.1 ∧ q_MS m T.2.1 ∧ q_MR m T.2.2.1 ∧ q_MP m T.2.2.2
def q_okS (S : q_St) : Prop := S.1.1 ≤ 5 ∧ S.1.2 ≤ 6 ∧ (0 < S.1.2 → 0 < S.1.1) ∧ (∀ s, s < S.1.1 → 1 ≤ S.2.1 s ∧ S.2.1 s ≤ 9) ∧ ∀ k, k < S.1.2 → S.2.2.1 0 k ≤ 2 ∧ (1 ≤ S.2.2.1 1 k ∧ S.2.2.1 1 k ≤ 9) ∧ (1 ≤ S.2.2.1 2 k ∧ S.2.2.1 2 k ≤ 9) ∧ S.2.2.1 3 k ≤ 5 ∧ S.2.2.1 4 k ≤ 40 ∧ (S.2.2.2 0 k = false → S.2.2.1 4 k < S.2.2.1 2 k)
def q_okR (S : q_St) (Q : q_Rd) : Prop := Q.1 ≤ 8 ∧ ∀ r, r < Q.1 → Q.2.1 r < S.1.1 ∧ Q.2.2.1 r < S.1.2
def q_okP (Y : q_Sh) : Prop := ∀ k, k < 4 → Y.2.1 k ≤ 2 ∧ Y.2.2.1 k ≤ 60
def q_ok (T : q_T) : Prop := q_okS T.2.1 ∧ q_okR T.2.1 T.2.2.1 ∧ q_okP T.2.2.2
/-! only these cells count -/
theorem q_C_congr {m m' : z_M} {T : q_T} (h : q_C m T) (hq : ∀ a, a < 59 → m' a = m a) (hng : T.2.1.1.2 ≤ 6) : q_C m' T := by
  obtain ⟨⟨a1, a2, a3⟩, ⟨b1, b2, b3, b4⟩, ⟨c1, c2⟩, d⟩ := h
  refine ⟨⟨by rw [hq 0 (by omega)]; exact a1, by rw [hq 0 (by omega)]; exact a2, by rw [hq 2 (by omega)]; exact a3⟩, ⟨by rw [hq 2 (by omega)]; exact b1, by rw [hq 2 (by omega)]; exact b2, fun s hs => by rw [hq (2 + 1) (by omega)]; exact b3 s hs, fun k hk => ?_⟩, ⟨by rw [hq 40 (by omega)]; exact c1, fun r hr => ?_⟩, fun k hk => ?_⟩
  · rw [hq (2 + 3 + k) (by omega)]
    exact b4 k hk
  · rw [hq 41 (by omega), hq 42 (by omega), hq 43 (by omega)]
    exact c2 r hr
  · rw [hq (51 + 2 * k) (by omega), hq (52 + 2 * k) (by omega)]
    exact d k hk
theorem q_M_congr {m m' : z_M} {T : q_T} (h : q_M m T) (hq : ∀ a, 59 ≤ a → m' a = m a) : q_M m' T := by
  obtain ⟨⟨a1, a2, a3⟩, ⟨b1, b2, b3, b4, b5, b6⟩, ⟨c1, c2⟩, d⟩ := h
  have e := hq 59 (by omega)
  refine ⟨⟨by rw [e]; exact a1, by rw [e]; exact a2, by rw [e]; exact a3⟩, ⟨by rw [e]; exact b1, by rw [e]; exact b2, fun s hs => by rw [hq 63 (by omega)]; exact b3 s hs, fun k hk f hf => by rw [hq (64 + f) (by omega)]; exact b4 k hk f hf, by rw [e]; exact b5, by rw [e]; exact b6⟩, ⟨by rw [e]; exact c1, fun r hr => ?_⟩, fun k hk => ?_⟩
  · rw [hq 77 (by omega), hq 78 (by omega), hq 79 (by omega)]
    exact c2 r hr
  · rw [hq 60 (by omega), hq 61 (by omega), hq 62 (by omega)]
    exact d k hk
/-! an operation on each side -/
def q_cop (j : Nat) (as : List Value) (T : q_T) (r : Int32) (l : Int64) (T' : q_T) : Prop := ∀ (d : Nat) (m : z_M), q_C m T → ∃ m1 : z_M, z_go z_SH z_P (d + 20) j (.ref 0 :: as) m = some (r, l, m1) ∧ q_C m1 T' ∧ ∀ a, 59 ≤ a → m1 a = m a
def q_mop (j : Nat) (as : List Value) (T : q_T) (r : Int32) (l : Int64) (T' : q_T) : Prop := ∀ (d : Nat) (m : z_M), q_M m T → ∃ m1 : z_M, z_go z_SH z_P (d + 20) j (.ref 59 :: as) m = some (r, l, m1) ∧ q_M m1 T' ∧ ∀ a, a < 59 → m1 a = m a
/-- both sides answer alike and go to one state -/
def q_pr (jx jm : Nat) (as : List Value) : Prop := ∀ T : q_T, q_ok T → ∃ (r : Int32) (l : Int64) (T' : q_T), q_cop jx as T r l T' ∧ q_mop jm as T r l T' ∧ q_ok T'
def q_Rel (m : z_M) : Prop := ∃ T : q_T, q_C m T ∧ q_M m T ∧ q_ok T
theorem q_pr_run {jx jm : Nat} {as : List Value} (h : q_pr jx jm as) {m : z_M} (hR : q_Rel m) (d : Nat) : ∃ (r : Int32) (l : Int64) (m1 m2 : z_M), z_go z_SH z_P (d + 20) jx (.ref 0 :: as) m = some (r, l, m1) ∧ z_go z_SH z_P (d + 20) jm (.ref 59 :: as) m1 = some (r, l, m2) ∧ q_Rel m2 := by
  obtain ⟨T, hC, hM, hok⟩ := hR
  obtain ⟨r, l, T', h1, h2, hok'⟩ := h T hok
  obtain ⟨m1, e1, c1, f1⟩ := h1 d m hC
  obtain ⟨m2, e2, c2, f2⟩ := h2 d m1 (q_M_congr hM f1)
  exact ⟨r, l, m1, m2, e1, e2, T', q_C_congr c1 f2 hok'.1.2.1, c2, hok'⟩
/-- nothing changed -/
theorem q_cop_same {j : Nat} {as : List Value} {T : q_T} {r : Int32} {l : Int64} (h : ∀ (d : Nat) (m : z_M), q_C m T → z_go z_SH z_P (d + 20) j (.ref 0 :: as) m = some (r, l, m)) : q_cop j as T r l T := fun d m hC => ⟨m, h d m hC, hC, fun _ _ => rfl⟩
theorem q_mop_same {j : Nat} {as : List Value} {T : q_T} {r : Int32} {l : Int64} (h : ∀ (d : Nat) (m : z_M), q_M m T → z_go z_SH z_P (d + 20) j (.ref 59 :: as) m = some (r, l, m)) : q_mop j as T r l T := fun d m hC => ⟨m, h d m hC, hC, fun _ _ => rfl⟩
/-! what the small calls answer -/
theorem k_isGuest {m : z_M} {n : Nat} (d : Nat) (x : Int32) (h : m 2 3 = nI n) (hn : n ≤ 6) : z_go z_SH z_P (d + 1) 97 [.ref 0, .int x] m = some (q_b (q_v n x), 0, m) := by
  rw [c_X9_isGuest, h, q_v_if (by omega)]
  unfold q_b
  split <;> rfl
theorem k_isSign {m : z_M} {n : Nat} (d : Nat) (x : Int32) (h : m 2 2 = nI n) (hn : n ≤ 5) : z_go z_SH z_P (d + 1) 96 [.ref 0, .int x] m = some (q_b (q_v n x), 0, m) := by
  rw [c_X9_isSign, h, q_v_if (by omega)]
  unfold q_b
  split <;> rfl
theorem k_misGuest {m : z_M} {n : Nat} (d : Nat) (x : Int32) (h : m 59 6 = nI n) (hn : n ≤ 6) : z_go z_SH z_P (d + 1) 113 [.ref 59, .int x] m = some (q_b (q_v n x), 0, m) := by
  rw [c_X10_isGuest, h, q_v_if (by omega)]
  unfold q_b
  split <;> rfl
theorem k_misSign {m : z_M} {n : Nat} (d : Nat) (x : Int32) (h : m 59 5 = nI n) (hn : n ≤ 5) : z_go z_SH z_P (d + 1) 112 [.ref 59, .int x] m = some (q_b (q_v n x), 0, m) := by
  rw [c_X10_isSignOf, h, q_v_if (by omega)]
  unfold q_b
  split <;> rfl
def q_w (a b x : Int32) : Bool := decide (a ≤ x) && decide (x ≤ b)
theorem q_w_if {α : Type} (a b x : Int32) (u v : α) : (if x < a then u else if b < x then u else v) = if q_w a b x = true then v else u := by
  unfold q_w
  by_cases c1 : x < a
  · rw [if_pos c1]
    simp [Int32.not_le.mpr c1]
  · rw [if_neg c1]
    by_cases c2 : b < x
    · rw [if_pos c2]
      simp [Int32.not_le.mpr c2]
    · rw [if_neg c2]
      simp [Int32.not_lt.mp c1, Int32.not_lt.mp c2]
theorem k_within (d : Nat) (x a b : Int32) (m : z_M) : z_go z_SH z_P (d + 1) 94 [.int x, .int a, .int b] m = some (q_b (q_w a b x), 0, m) := by
  rw [c_X9_within, q_w_if]
  unfold q_b
  split <;> rfl
theorem k_mwithin (d : Nat) (x a b : Int32) (m : z_M) : z_go z_SH z_P (d + 1) 108 [.int x, .int a, .int b] m = some (q_b (q_w a b x), 0, m) := by
  rw [c_X10_within, q_w_if]
  unfold q_b
  split <;> rfl
theorem k_isSheet (d : Nat) (x : Int32) (m : z_M) : z_go z_SH z_P (d + 2) 95 [.int x] m = some (q_b (q_w 0 3 x), 0, m) := by
  rw [c_X9_isSheet, k_within]
  simp only [Option.bind_some, q_bb, z_g_t]
theorem k_misSheet (d : Nat) (x : Int32) (m : z_M) : z_go z_SH z_P (d + 2) 109 [.int x] m = some (q_b (q_w 0 3 x), 0, m) := by
  rw [c_X10_isSheet, k_mwithin]
  simp only [Option.bind_some, q_bb, z_g_t]
theorem k_misSort (d : Nat) (x : Int32) (m : z_M) : z_go z_SH z_P (d + 2) 110 [.int x] m = some (q_b (q_w 0 2 x), 0, m) := by
  rw [c_X10_isSort, k_mwithin]
  simp only [Option.bind_some, q_bb, z_g_t]
theorem k_misTable (d : Nat) (x : Int32) (m : z_M) : z_go z_SH z_P (d + 2) 114 [.int x] m = some (q_b (q_w 0 5 x), 0, m) := by
  rw [c_X10_isTable, k_mwithin]
  simp only [Option.bind_some, q_bb, z_g_t]
theorem q_w_nI {a b : Nat} {x : Int32} (h : q_w (nI a) (nI b) x = true) (ha : a < 2147483648) (hb : b < 2147483648) : ∃ v, a ≤ v ∧ v ≤ b ∧ x = nI v := by
  simp only [q_w, Bool.and_eq_true, decide_eq_true_eq, Int32.le_iff_toInt_le] at h
  rw [nI_toInt (by omega), nI_toInt (by omega)] at h
  exact ⟨x.toInt.toNat, by omega, by omega, z_nI_of (by omega) (by omega)⟩
end
section
theorem q_C0.of {m m' : z_M} {F : Int32 × Int32 × Int32} (h : q_C0 m F) (h1 : m' 0 = m 0) (h2 : m' 2 = m 2) : q_C0 m' F := by
  obtain ⟨a, b, c⟩ := h
  exact ⟨by rw [h1]; exact a, by rw [h1]; exact b, by rw [h2]; exact c⟩
theorem q_CS.of {m m' : z_M} {h : Nat} {S : q_St} (hC : q_CS m h S) (hn : S.1.2 ≤ 6) (hq : ∀ a, h ≤ a → a < h + 9 → m' a = m a) : q_CS m' h S := by
  obtain ⟨a, b, c, d⟩ := hC
  refine ⟨by rw [hq h (by omega) (by omega)]; exact a, by rw [hq h (by omega) (by omega)]; exact b, fun s hs => by rw [hq (h + 1) (by omega) (by omega)]; exact c s hs, fun k hk => ?_⟩
  rw [hq (h + 3 + k) (by omega) (by omega)]
  exact d k hk
theorem q_CR.of {m m' : z_M} {Q : q_Rd} (h : q_CR m Q) (hq : ∀ a, 40 ≤ a → a < 44 → m' a = m a) : q_CR m' Q := by
  obtain ⟨a, b⟩ := h
  refine ⟨by rw [hq 40 (by omega) (by omega)]; exact a, fun r hr => ?_⟩
  rw [hq 41 (by omega) (by omega), hq 42 (by omega) (by omega), hq 43 (by omega) (by omega)]
  exact b r hr
theorem q_CP.of {m m' : z_M} {Y : q_Sh} (h : q_CP m Y) (hq : ∀ a, 51 ≤ a → a < 59 → m' a = m a) : q_CP m' Y := by
  intro k hk
  rw [hq (51 + 2 * k) (by omega) (by omega), hq (52 + 2 * k) (by omega) (by omega)]
  exact h k hk
theorem q_M0.of {m m' : z_M} {F : Int32 × Int32 × Int32} (h : q_M0 m F) (h0 : m' 59 0 = m 59 0) (h1 : m' 59 1 = m 59 1) (h7 : m' 59 7 = m 59 7) : q_M0 m' F := by
  obtain ⟨a, b, c⟩ := h
  exact ⟨by rw [h0]; exact a, by rw [h1]; exact b, by rw [h7]; exact c⟩
theorem q_MS.of {m m' : z_M} {S : q_St} (h : q_MS m S) (h5 : m' 59 5 = m 59 5) (h6 : m' 59 6 = m 59 6) (h8 : m' 59 8 = m 59 8) (h9 : m' 59 9 = m 59 9) (hq : ∀ a, 63 ≤ a → a < 69 → m' a = m a) : q_MS m' S := by
  obtain ⟨a, b, c, d, e, f⟩ := h
  refine ⟨by rw [h5]; exact a, by rw [h6]; exact b, fun s hs => by rw [hq 63 (by omega) (by omega)]; exact c s hs, fun k hk i hi => by rw [hq (64 + i) (by omega) (by omega)]; exact d k hk i hi, by rw [h8]; exact e, by rw [h9]; exact f⟩
theorem q_MR.of {m m' : z_M} {Q : q_Rd} (h : q_MR m Q) (h33 : m' 59 33 = m 59 33) (hq : ∀ a, 77 ≤ a → a < 80 → m' a = m a) : q_MR m' Q := by
  obtain ⟨a, b⟩ := h
  refine ⟨by rw [h33]; exact a, fun r hr => ?_⟩
  rw [hq 77 (by omega) (by omega), hq 78 (by omega) (by omega), hq 79 (by omega) (by omega)]
  exact b r hr
theorem q_MP.of {m m' : z_M} {Y : q_Sh} (h : q_MP m Y) (hq : ∀ a, 60 ≤ a → a < 63 → m' a = m a) : q_MP m' Y := by
  intro k hk
  rw [hq 60 (by omega) (by omega), hq 61 (by omega) (by omega), hq 62 (by omega) (by omega)]
  exact h k hk
/-- the reference's other cells: those not of number 59 and 60 .. 79 that count -/
theorem q_M.of {m m' : z_M} {T : q_T} (h : q_M m T) (hf : ∀ k, k = 0 ∨ k = 1 ∨ k = 5 ∨ k = 6 ∨ k = 7 ∨ k = 8 ∨ k = 9 ∨ k = 33 → m' 59 k = m 59 k) (hq : ∀ a, 60 ≤ a → a < 69 → m' a = m a) (hr : ∀ a, 77 ≤ a → a < 80 → m' a = m a) : q_M m' T :=
  ⟨h.1.of (hf 0 (by omega)) (hf 1 (by omega)) (hf 7 (by omega)), h.2.1.of (hf 5 (by omega)) (hf 6 (by omega)) (hf 8 (by omega)) (hf 9 (by omega)) (fun a h1 h2 => hq a (by omega) h2), h.2.2.1.of (hf 33 (by omega)) hr, h.2.2.2.of (fun a h1 h2 => hq a h1 (by omega))⟩
theorem q_C.of {m m' : z_M} {T : q_T} (h : q_C m T) (hn : T.2.1.1.2 ≤ 6) (hq : ∀ a, a < 11 → m' a = m a) (hr : ∀ a, 40 ≤ a → a < 44 → m' a = m a) (hs : ∀ a, 51 ≤ a → a < 59 → m' a = m a) : q_C m' T :=
  ⟨h.1.of (hq 0 (by omega)) (hq 2 (by omega)), h.2.1.of hn (fun a h1 h2 => hq a (by omega)), h.2.2.1.of hr, h.2.2.2.of hs⟩
end
section
theorem q_if {α : Type} (b : Bool) (x y : α) : (if q_b b = 0 then x else y) = (if b = true then y else x) := by cases b <;> simp [q_b]
theorem q_C.ns {m : z_M} {T : q_T} (h : q_C m T) : m 2 2 = nI T.2.1.1.1 := h.2.1.1
theorem q_C.ng {m : z_M} {T : q_T} (h : q_C m T) : m 2 3 = nI T.2.1.1.2 := h.2.1.2.1
theorem q_C.hi {m : z_M} {T : q_T} (h : q_C m T) {s : Nat} (hs : s < T.2.1.1.1) : m 3 s = nI (T.2.1.2.1 s) := h.2.1.2.2.1 s hs
theorem q_C.gd {m : z_M} {T : q_T} (h : q_C m T) {k f : Nat} (hk : k < T.2.1.1.2) (hf : f < 5) : m (5 + k) f = nI (T.2.1.2.2.1 f k) := (h.2.1.2.2.2 k hk).1 f hf
theorem q_C.kn {m : z_M} {T : q_T} (h : q_C m T) {k : Nat} (hk : k < T.2.1.1.2) : z_b (m (5 + k) 5) = q_b (T.2.1.2.2.2 0 k) := (h.2.1.2.2.2 k hk).2.1
theorem q_C.sk {m : z_M} {T : q_T} (h : q_C m T) {k : Nat} (hk : k < T.2.1.1.2) : z_b (m (5 + k) 6) = q_b (T.2.1.2.2.2 1 k) := (h.2.1.2.2.2 k hk).2.2
theorem q_M.ns {m : z_M} {T : q_T} (h : q_M m T) : m 59 5 = nI T.2.1.1.1 := h.2.1.1
theorem q_M.ng {m : z_M} {T : q_T} (h : q_M m T) : m 59 6 = nI T.2.1.1.2 := h.2.1.2.1
theorem q_M.hi {m : z_M} {T : q_T} (h : q_M m T) {s : Nat} (hs : s < T.2.1.1.1) : m 63 s = nI (T.2.1.2.1 s) := h.2.1.2.2.1 s hs
theorem q_M.gd {m : z_M} {T : q_T} (h : q_M m T) {k f : Nat} (hk : k < T.2.1.1.2) (hf : f < 5) : m (64 + f) k = nI (T.2.1.2.2.1 f k) := h.2.1.2.2.2.1 k hk f hf
theorem q_M.kn {m : z_M} {T : q_T} (h : q_M m T) : m 59 8 = nI (q_bits T.2.1.1.2 (T.2.1.2.2.2 0)) := h.2.1.2.2.2.2.1
theorem q_M.sk {m : z_M} {T : q_T} (h : q_M m T) : m 59 9 = nI (q_bits T.2.1.1.2 (T.2.1.2.2.2 1)) := h.2.1.2.2.2.2.2
/-! 31 trace, 32 fault -/
theorem p_trace : q_pr 91 173 [] := by
  intro T hok
  refine ⟨T.1.2.1, 0, T, q_cop_same (fun d m hC => ?_), q_mop_same (fun d m hM => ?_), hok⟩
  · rw [c_X9_trace, hC.1.2.1]
  · rw [c_X10_trace, hM.1.2.1]
theorem p_fault : q_pr 92 174 [] := by
  intro T hok
  refine ⟨T.1.1, 0, T, q_cop_same (fun d m hC => ?_), q_mop_same (fun d m hM => ?_), hok⟩
  · rw [c_X9_fault, hC.1.1]
  · rw [c_X10_fault, hM.1.1]
/-! 4 hint -/
theorem p_hint (x : Int32) : q_pr 64 126 [.int x] := by
  intro T hok
  have h5 := hok.1.1
  refine ⟨if q_v T.2.1.1.1 x = true then nI (T.2.1.2.1 x.toNatClampNeg) else -1, 0, T, q_cop_same (fun d m hC => ?_), q_mop_same (fun d m hM => ?_), hok⟩
  · rw [c_X9_hint, k_isSign _ _ hC.ns h5]
    simp only [Option.bind_some, q_if]
    by_cases hv : q_v T.2.1.1.1 x = true
    · rw [if_pos hv, if_pos hv]
      obtain ⟨s, hs, rfl⟩ := q_v_t hv (by omega)
      rw [q_in (show s < 5 by omega) (by decide), z_g_t, q_cl (by omega), hC.hi hs]
    · rw [if_neg hv, if_neg hv]
  · rw [c_X10_hint, k_misSign _ _ hM.ns h5]
    simp only [Option.bind_some, q_if]
    by_cases hv : q_v T.2.1.1.1 x = true
    · rw [if_pos hv, if_pos hv]
      obtain ⟨s, hs, rfl⟩ := q_v_t hv (by omega)
      rw [q_in (show s < 5 by omega) (by decide), z_g_t, q_cl (by omega), hM.hi hs]
    · rw [if_neg hv, if_neg hv]
/-! bits -/
theorem q_bits_lt : ∀ (n : Nat) (f : Nat → Bool), q_bits n f < 2 ^ n
  | 0, _ => by simp [q_bits]
  | n + 1, f => by
    have := q_bits_lt n f
    simp only [q_bits, Nat.pow_succ]
    split <;> omega
theorem q_bits_test : ∀ (n : Nat) (f : Nat → Bool) (k : Nat), k < n → (q_bits n f).testBit k = f k
  | 0, _, _, h => by omega
  | n + 1, f, k, h => by
    simp only [q_bits]
    have hl := q_bits_lt n f
    by_cases hk : k = n
    · subst hk
      cases hf : f k with
      | true =>
        rw [if_pos rfl, Nat.add_comm, Nat.testBit_two_pow_add_eq]
        rw [Nat.testBit_lt_two_pow hl]
        rfl
      | false =>
        simp only [Bool.false_eq_true, if_false, Nat.add_zero]
        exact Nat.testBit_lt_two_pow hl
    · have hkn : k < n := by omega
      cases hf : f n with
      | true =>
        rw [if_pos rfl, Nat.add_comm, Nat.testBit_two_pow_add_gt hkn]
        exact q_bits_test n f k hkn
      | false =>
        simp only [Bool.false_eq_true, if_false, Nat.add_zero]
        exact q_bits_test n f k hkn
theorem q_bits_lt64 {n : Nat} (hn : n ≤ 6) (f : Nat → Bool) : q_bits n f < 64 := Nat.lt_of_lt_of_le (q_bits_lt n f) (Nat.pow_le_pow_right (by decide) hn)
theorem q_bit_of : ∀ b, b < 64 → ∀ k, k < 6 → (nI b >>> (nI k &&& 31)) &&& (1 : Int32) = q_b (b.testBit k) := by decide +kernel
theorem q_bit {n k : Nat} (hn : n ≤ 6) (hk : k < n) (f : Nat → Bool) : (nI (q_bits n f) >>> (nI k &&& 31)) &&& (1 : Int32) = q_b (f k) := by
  rw [q_bit_of _ (q_bits_lt64 hn f) k (by omega), q_bits_test n f k hk]
theorem k_misOf {n k : Nat} (d : Nat) (hn : n ≤ 6) (hk : k < n) (f : Nat → Bool) (m : z_M) : z_go z_SH z_P (d + 1) 115 [.int (nI (q_bits n f)), .int (nI k)] m = some (q_b (f k), 0, m) := by
  rw [c_X10_isOf, q_bit hn hk f]
  cases f k <;> simp [q_b]
/-! 3 ofGuest -/
theorem p_ofGuest (x y : Int32) : q_pr 63 125 [.int x, .int y] := by
  intro T hok
  have h6 := hok.1.2.1
  refine ⟨if q_v T.2.1.1.2 x = true then (if y = nI 0 then nI (T.2.1.2.2.1 0 x.toNatClampNeg) else if y = nI 1 then nI (T.2.1.2.2.1 1 x.toNatClampNeg) else if y = nI 2 then nI (T.2.1.2.2.1 2 x.toNatClampNeg) else if y = nI 3 then nI (T.2.1.2.2.1 3 x.toNatClampNeg) else if y = nI 4 then nI (T.2.1.2.2.1 4 x.toNatClampNeg) else if y = nI 5 then q_b (T.2.1.2.2.2 0 x.toNatClampNeg) else if y = nI 6 then q_b (T.2.1.2.2.2 1 x.toNatClampNeg) else -2) else -1, 0, T, q_cop_same (fun d m hC => ?_), q_mop_same (fun d m hM => ?_), hok⟩
  · rw [c_X9_ofGuest, k_isGuest _ _ hC.ng h6]
    simp only [Option.bind_some, q_if]
    by_cases hv : q_v T.2.1.1.2 x = true
    · rw [if_pos hv, if_pos hv]
      obtain ⟨k, hk, rfl⟩ := q_v_t hv (by omega)
      have hk6 : k < 6 := by omega
      rw [q_in hk6 (by decide), z_g_t, q_cl (by omega)]
      simp only [q_g5 hk6 (show 0 < 5 by decide), q_g5 hk6 (show 1 < 5 by decide), q_g5 hk6 (show 2 < 5 by decide), q_g5 hk6 (show 3 < 5 by decide), q_g5 hk6 (show 4 < 5 by decide), q_g5b hk6 (show 5 ≤ 5 by decide) (show 5 < 7 by decide), q_g5b hk6 (show 5 ≤ 6 by decide) (show 6 < 7 by decide), z_g_t, hC.gd hk (show 0 < 5 by decide), hC.gd hk (show 1 < 5 by decide), hC.gd hk (show 2 < 5 by decide), hC.gd hk (show 3 < 5 by decide), hC.gd hk (show 4 < 5 by decide), hC.kn hk, hC.sk hk, q_if]
      (repeat' split) <;> simp_all [q_b]
    · rw [if_neg hv, if_neg hv]
  · rw [c_X10_ofGuest, k_misGuest _ _ hM.ng h6]
    simp only [Option.bind_some, q_if]
    by_cases hv : q_v T.2.1.1.2 x = true
    · rw [if_pos hv, if_pos hv]
      obtain ⟨k, hk, rfl⟩ := q_v_t hv (by omega)
      have hk6 : k < 6 := by omega
      have e0 := hM.gd hk (show 0 < 5 by decide)
      have e1 := hM.gd hk (show 1 < 5 by decide)
      have e2 := hM.gd hk (show 2 < 5 by decide)
      have e3 := hM.gd hk (show 3 < 5 by decide)
      have e4 := hM.gd hk (show 4 < 5 by decide)
      simp only [Nat.reduceAdd] at e0 e1 e2 e3 e4
      simp only [q_in hk6 (show 6 < 2147483648 by decide), z_g_t, q_cl (show k < 2147483648 by omega), e0, e1, e2, e3, e4, hM.kn, hM.sk, q_bit h6 hk]
      (repeat' split) <;> rfl
    · rw [if_neg hv, if_neg hv]
end
section
/-! What a sign weighs; shocks; soft -/
def q_wt (S : q_St) (s k : Nat) : Nat := if S.2.2.1 0 k = 0 then S.2.1 s else if S.2.2.1 0 k = 1 then S.2.1 s - 1 else S.2.1 s / 2
theorem q_wt_le {S : q_St} (hok : q_okS S) {s : Nat} (hs : s < S.1.1) (k : Nat) : q_wt S s k ≤ 9 := by
  have := hok.2.2.2.1 s hs
  unfold q_wt
  split
  · omega
  · split <;> omega
theorem q_okS.k0 {S : q_St} (hok : q_okS S) {k : Nat} (hk : k < S.1.2) : S.2.2.1 0 k ≤ 2 := (hok.2.2.2.2 k hk).1
theorem q_okS.k1 {S : q_St} (hok : q_okS S) {k : Nat} (hk : k < S.1.2) : 1 ≤ S.2.2.1 1 k ∧ S.2.2.1 1 k ≤ 9 := (hok.2.2.2.2 k hk).2.1
theorem q_okS.k2 {S : q_St} (hok : q_okS S) {k : Nat} (hk : k < S.1.2) : 1 ≤ S.2.2.1 2 k ∧ S.2.2.1 2 k ≤ 9 := (hok.2.2.2.2 k hk).2.2.1
theorem q_okS.k3 {S : q_St} (hok : q_okS S) {k : Nat} (hk : k < S.1.2) : S.2.2.1 3 k ≤ 5 := (hok.2.2.2.2 k hk).2.2.2.1
theorem q_okS.k4 {S : q_St} (hok : q_okS S) {k : Nat} (hk : k < S.1.2) : S.2.2.1 4 k ≤ 40 := (hok.2.2.2.2 k hk).2.2.2.2.1
theorem q_nI_if {α : Type} {a b : Nat} (ha : a < 2147483648) (hb : b < 2147483648) (x y : α) : (if nI a = nI b then x else y) = if a = b then x else y := by
  by_cases h : a = b
  · rw [if_pos h, if_pos (by rw [h])]
  · rw [if_neg h, if_neg (fun q => h ((nI_eq (by omega) (by omega)).mp q))]
theorem q_nI_le {α : Type} {a b : Nat} (ha : a < 2147483648) (hb : b < 2147483648) (x y : α) : (if nI a ≤ nI b then x else y) = if a ≤ b then x else y := by
  by_cases h : a ≤ b
  · rw [if_pos h, if_pos ((nI_leI (by omega) (by omega)).mpr h)]
  · rw [if_neg h, if_neg (fun q => h ((nI_leI (by omega) (by omega)).mp q))]
theorem q_nI_lt {α : Type} {a b : Nat} (ha : a < 2147483648) (hb : b < 2147483648) (x y : α) : (if nI a < nI b then x else y) = if a < b then x else y := by
  by_cases h : a < b
  · rw [if_pos h, if_pos ((nI_ltI (by omega) (by omega)).mpr h)]
  · rw [if_neg h, if_neg (fun q => h ((nI_ltI (by omega) (by omega)).mp q))]
theorem q_half {a : Nat} (h : a < 2147483648) : nI a / 2 = nI (a / 2) := by
  have := pk_div (a := a) (d := 2) (by omega) (by decide) (by decide)
  exact this
theorem q_pred {a : Nat} (h : 1 ≤ a) : nI a - 1 = nI (a - 1) := by
  obtain ⟨b, rfl⟩ : ∃ b, a = b + 1 := ⟨a - 1, by omega⟩
  rw [nI_pred]
  rfl
theorem q_dec2 : decide (¬ (2 : Int32) = 0) = true := by decide
theorem k_weight {h : Nat} (hh : z_isH h) {m : z_M} {S : q_St} (hC : q_CS m h S) (hok : q_okS S) {s k : Nat} (hs : s < S.1.1) (hk : k < S.1.2) (d : Nat) : z_go z_SH z_P (d + 1) 15 [.ref h, .int (nI s), .int (nI k)] m = some (nI (q_wt S s k), 0, m) := by
  have h5 := hok.1
  have h6 := hok.2.1
  have hk6 : k < 6 := by omega
  have hs5 : s < 5 := by omega
  have h9 := hok.2.2.2.1 s hs
  have h2 := hok.k0 hk
  rw [c_X2_weight d hh, q_in hk6 (by decide), z_g_t, q_cl (by omega), q_g hh hk6 (by decide), z_g_t, (hC.2.2.2 k hk).1 0 (by decide), q_in hs5 (by decide), z_g_t, z_g_t, z_g_t, q_cl (by omega), hC.2.2.1 s hs, q_dec2, z_g_t, q_nI_if (by omega) (by decide), q_nI_if (by omega) (by decide), q_pred h9.1, q_half (by omega)]
  unfold q_wt
  split
  · rfl
  · split <;> rfl
theorem k_shocks {h : Nat} (hh : z_isH h) {m : z_M} {S : q_St} (hC : q_CS m h S) (hok : q_okS S) {s k : Nat} (hs : s < S.1.1) (hk : k < S.1.2) (d : Nat) : z_go z_SH z_P (d + 2) 16 [.ref h, .int (nI s), .int (nI k)] m = some (q_b (decide (S.2.2.1 1 k < q_wt S s k)), 0, m) := by
  have h6 := hok.2.1
  have hk6 : k < 6 := by omega
  have hb := hok.k1 hk
  have hw := q_wt_le hok hs k
  rw [c_X2_shocks (d + 1) hh, k_weight hh hC hok hs hk]
  simp only [Option.bind_some]
  rw [q_in hk6 (by decide), z_g_t, q_cl (by omega), q_g hh hk6 (by decide), z_g_t, (hC.2.2.2 k hk).1 1 (by decide), q_nI_le (by omega) (by omega)]
  unfold q_b
  by_cases hq : q_wt S s k ≤ S.2.2.1 1 k
  · rw [if_pos hq, if_neg (by simp; omega)]
  · rw [if_neg hq, if_pos (by simp; omega)]
def q_soft (S : q_St) (s k : Nat) : Bool := decide (0 < q_wt S s k) && decide (q_wt S s k ≤ S.2.2.1 1 k)
theorem k_isSoft {h : Nat} (hh : z_isH h) {m : z_M} {S : q_St} (hC : q_CS m h S) (hok : q_okS S) {s k : Nat} (hs : s < S.1.1) (hk : k < S.1.2) (d : Nat) : z_go z_SH z_P (d + 3) 17 [.ref h, .int (nI s), .int (nI k)] m = some (q_b (q_soft S s k), 0, m) := by
  have hw := q_wt_le hok hs k
  have hb := hok.k1 hk
  rw [c_X2_isSoft (d + 2) hh, k_weight hh hC hok hs hk]
  simp only [Option.bind_some]
  rw [k_shocks hh hC hok hs hk]
  simp only [Option.bind_some, q_if]
  rw [show (0 : Int32) = nI 0 from rfl, q_nI_le (by omega) (by decide)]
  unfold q_soft q_b
  by_cases h0 : q_wt S s k ≤ 0
  · rw [if_pos h0, if_neg (by simp; omega)]
    rfl
  · rw [if_neg h0]
    by_cases h1 : S.2.2.1 1 k < q_wt S s k
    · rw [if_pos (by simp [h1]), if_neg (by simp; omega)]
      rfl
    · rw [if_neg (by simp [h1]), if_pos (by simp; omega)]
theorem k_lack {h : Nat} (hh : z_isH h) {m : z_M} {S : q_St} (hC : q_CS m h S) (hok : q_okS S) {k : Nat} (hk : k < S.1.2) (d : Nat) : z_go z_SH z_P (d + 1) 18 [.ref h, .int (nI k)] m = some (nI (S.2.2.1 2 k) - nI (S.2.2.1 4 k), 0, m) := by
  have h6 := hok.2.1
  have hk6 : k < 6 := by omega
  rw [c_X2_lack d hh, q_in hk6 (by decide), z_g_t, q_cl (by omega), q_g hh hk6 (by decide), z_g_t, z_g_t, q_g hh hk6 (by decide), z_g_t, (hC.2.2.2 k hk).1 2 (by decide), (hC.2.2.2 k hk).1 4 (by decide)]
theorem k_mweigh {m : z_M} {S : q_St} (hM : q_MS m S) (hok : q_okS S) {s k : Nat} (hs : s < S.1.1) (hk : k < S.1.2) (d : Nat) : z_go z_SH z_P (d + 1) 124 [.ref 59, .int (nI s), .int (nI k)] m = some (nI (q_wt S s k), 0, m) := by
  have h5 := hok.1
  have h6 := hok.2.1
  have hk6 : k < 6 := by omega
  have hs5 : s < 5 := by omega
  have h9 := hok.2.2.2.1 s hs
  have h2 := hok.k0 hk
  have e0 : m 64 k = nI (S.2.2.1 0 k) := hM.2.2.2.1 k hk 0 (by decide)
  rw [c_X10_weighsOf, q_in hk6 (by decide), z_g_t, z_g_t, q_cl (by omega), e0, q_in hs5 (by decide), z_g_t, z_g_t, z_g_t, q_cl (by omega), hM.2.2.1 s hs, q_dec2, z_g_t, show (0 : Int32) = nI 0 from rfl, show (1 : Int32) = nI 1 from rfl, q_nI_if (by omega) (by decide), q_nI_if (by omega) (by decide), show nI 1 = (1 : Int32) from rfl, q_pred h9.1, q_half (by omega)]
  unfold q_wt
  split
  · rfl
  · split <;> rfl
/-! 6 weighs -/
theorem p_weighs (x y : Int32) : q_pr 66 128 [.int x, .int y] := by
  intro T hok
  have h5 := hok.1.1
  have h6 := hok.1.2.1
  refine ⟨if q_v T.2.1.1.1 x = true then (if q_v T.2.1.1.2 y = true then nI (q_wt T.2.1 x.toNatClampNeg y.toNatClampNeg) else -1) else -1, 0, T, q_cop_same (fun d m hC => ?_), q_mop_same (fun d m hM => ?_), hok⟩
  · rw [c_X9_weighs, k_isSign _ _ hC.ns h5]
    simp only [Option.bind_some, q_if]
    by_cases hv : q_v T.2.1.1.1 x = true
    · rw [if_pos hv, if_pos hv, k_isGuest _ _ hC.ng h6]
      simp only [Option.bind_some, q_if]
      by_cases hw : q_v T.2.1.1.2 y = true
      · rw [if_pos hw, if_pos hw]
        obtain ⟨s, hs, rfl⟩ := q_v_t hv (by omega)
        obtain ⟨k, hk, rfl⟩ := q_v_t hw (by omega)
        rw [k_weight (Or.inl rfl) hC.2.1 hok.1 hs hk, q_cl (by omega), q_cl (by omega)]
        rfl
      · rw [if_neg hw, if_neg hw]
    · rw [if_neg hv, if_neg hv]
  · rw [c_X10_weighs, k_misSign _ _ hM.ns h5]
    simp only [Option.bind_some, q_if]
    by_cases hv : q_v T.2.1.1.1 x = true
    · rw [if_pos hv, if_pos hv, k_misGuest _ _ hM.ng h6]
      simp only [Option.bind_some, q_if]
      by_cases hw : q_v T.2.1.1.2 y = true
      · rw [if_pos hw, if_pos hw]
        obtain ⟨s, hs, rfl⟩ := q_v_t hv (by omega)
        obtain ⟨k, hk, rfl⟩ := q_v_t hw (by omega)
        rw [k_mweigh hM.2.1 hok.1 hs hk, q_cl (by omega), q_cl (by omega)]
        rfl
      · rw [if_neg hw, if_neg hw]
    · rw [if_neg hv, if_neg hv]
end
section
/-! 5 word, 7 seat -/
def q_setHi (T : q_T) (s v : Nat) : q_T := (T.1, (T.2.1.1, (fun i => if i = s then v else T.2.1.2.1 i), T.2.1.2.2), T.2.2)
def q_setGd (T : q_T) (f k v : Nat) : q_T := (T.1, (T.2.1.1, T.2.1.2.1, (fun f' k' => if f' = f ∧ k' = k then v else T.2.1.2.2.1 f' k'), T.2.1.2.2.2), T.2.2)
theorem p_word (x v : Int32) : q_pr 65 127 [.int x, .int v] := by
  intro T hok
  have h5 := hok.1.1
  by_cases hv : q_v T.2.1.1.1 x = true
  · by_cases hw : q_w 1 9 v = true
    · obtain ⟨s, hs, rfl⟩ := q_v_t hv (by omega)
      obtain ⟨w, h1, h9, rfl⟩ := q_w_nI (a := 1) (b := 9) hw (by decide) (by decide)
      refine ⟨nI (T.2.1.2.1 s), 0, q_setHi T s w, ?_, ?_, ?_⟩
      · intro d m hC
        refine ⟨z_up m 3 s (nI w), ?_, ⟨hC.1.of (z_up_ne (by decide)) (z_up_ne (by decide)), ⟨?_, ?_, fun i hi => ?_, fun k hk => ?_⟩, hC.2.2.1.of (fun a h1 h2 => z_up_ne (by omega)), hC.2.2.2.of (fun a h1 h2 => z_up_ne (by omega))⟩, fun a ha => z_up_ne (by omega)⟩
        · rw [c_X9_word, k_isSign _ _ hC.ns h5]
          simp only [Option.bind_some, q_if]
          rw [if_pos hv, k_within]
          simp only [Option.bind_some, q_if]
          rw [if_pos hw, q_in (show s < 5 by omega) (by decide), z_g_t, z_g_t, q_cl (by omega), hC.hi hs]
        · rw [q_ua (by decide)]
          exact hC.ns
        · rw [q_ua (by decide)]
          exact hC.ng
        · show z_up m 3 s (nI w) 3 i = nI (if i = s then w else T.2.1.2.1 i)
          by_cases hq : i = s
          · subst hq
            rw [q_uq, if_pos rfl]
          · rw [q_uk hq, if_neg hq]
            exact hC.hi hi
        · rw [z_up_ne (show 2 + 3 + k ≠ 3 by omega)]
          exact hC.2.1.2.2.2 k hk
      · intro d m hM
        refine ⟨z_up m 63 s (nI w), ?_, ⟨hM.1.of (q_ua (by decide)) (q_ua (by decide)) (q_ua (by decide)), ⟨?_, ?_, fun i hi => ?_, fun k hk f hf => ?_, ?_, ?_⟩, hM.2.2.1.of (q_ua (by decide)) (fun a h1 h2 => z_up_ne (by omega)), hM.2.2.2.of (fun a h1 h2 => z_up_ne (by omega))⟩, fun a ha => z_up_ne (by omega)⟩
        · rw [c_X10_word, k_misSign _ _ hM.ns h5]
          simp only [Option.bind_some, q_if]
          rw [if_pos hv, k_mwithin]
          simp only [Option.bind_some, q_if]
          rw [if_pos hw, q_in (show s < 5 by omega) (by decide), z_g_t, z_g_t, q_cl (by omega), hM.hi hs]
        · rw [q_ua (by decide)]
          exact hM.ns
        · rw [q_ua (by decide)]
          exact hM.ng
        · show z_up m 63 s (nI w) 63 i = nI (if i = s then w else T.2.1.2.1 i)
          by_cases hq : i = s
          · subst hq
            rw [q_uq, if_pos rfl]
          · rw [q_uk hq, if_neg hq]
            exact hM.hi hi
        · rw [z_up_ne (show 64 + f ≠ 63 by omega)]
          exact hM.gd hk hf
        · rw [q_ua (by decide)]
          exact hM.kn
        · rw [q_ua (by decide)]
          exact hM.sk
      · obtain ⟨⟨o1, o2, o3, o4, o5⟩, o6, o7⟩ := hok
        refine ⟨⟨o1, o2, o3, fun i hi => ?_, o5⟩, o6, o7⟩
        show 1 ≤ (if i = s then w else T.2.1.2.1 i) ∧ (if i = s then w else T.2.1.2.1 i) ≤ 9
        split
        · exact ⟨h1, h9⟩
        · exact o4 i hi
    · refine ⟨-2, 0, T, q_cop_same (fun d m hC => ?_), q_mop_same (fun d m hM => ?_), hok⟩
      · rw [c_X9_word, k_isSign _ _ hC.ns h5]
        simp only [Option.bind_some, q_if]
        rw [if_pos hv, k_within]
        simp only [Option.bind_some, q_if]
        rw [if_neg hw]
      · rw [c_X10_word, k_misSign _ _ hM.ns h5]
        simp only [Option.bind_some, q_if]
        rw [if_pos hv, k_mwithin]
        simp only [Option.bind_some, q_if]
        rw [if_neg hw]
  · refine ⟨-1, 0, T, q_cop_same (fun d m hC => ?_), q_mop_same (fun d m hM => ?_), hok⟩
    · rw [c_X9_word, k_isSign _ _ hC.ns h5]
      simp only [Option.bind_some, q_if]
      rw [if_neg hv]
    · rw [c_X10_word, k_misSign _ _ hM.ns h5]
      simp only [Option.bind_some, q_if]
      rw [if_neg hv]
theorem q_setGd_C {T : q_T} {m : z_M} {f k v : Nat} (hC : q_C m T) (hk : k < 6) (hf : f < 5) : q_C (z_up m (5 + k) f (nI v)) (q_setGd T f k v) := by
  refine ⟨hC.1.of (z_up_ne (by omega)) (z_up_ne (by omega)), ⟨?_, ?_, fun i hi => ?_, fun j hj => ⟨fun f' hf' => ?_, ?_, ?_⟩⟩, hC.2.2.1.of (fun a h1 h2 => z_up_ne (by omega)), hC.2.2.2.of (fun a h1 h2 => z_up_ne (by omega))⟩
  · rw [q_ua (by omega)]
    exact hC.ns
  · rw [q_ua (by omega)]
    exact hC.ng
  · rw [q_ua (by omega)]
    exact hC.hi hi
  · show z_up m (5 + k) f (nI v) (5 + j) f' = nI (if f' = f ∧ j = k then v else T.2.1.2.2.1 f' j)
    by_cases hq : f' = f ∧ j = k
    · obtain ⟨rfl, rfl⟩ := hq
      rw [q_uq, if_pos ⟨rfl, rfl⟩]
    · rw [if_neg hq]
      by_cases h1 : f' = f
      · rw [q_ua (by omega)]
        exact hC.gd hj hf'
      · rw [q_uk h1]
        exact hC.gd hj hf'
  · rw [q_uk (by omega)]
    exact hC.kn hj
  · rw [q_uk (by omega)]
    exact hC.sk hj
theorem q_setGd_M {T : q_T} {m : z_M} {f k v : Nat} (hM : q_M m T) (hf : f < 5) : q_M (z_up m (64 + f) k (nI v)) (q_setGd T f k v) := by
  refine ⟨hM.1.of (q_ua (by omega)) (q_ua (by omega)) (q_ua (by omega)), ⟨?_, ?_, fun i hi => ?_, fun j hj f' hf' => ?_, ?_, ?_⟩, hM.2.2.1.of (q_ua (by omega)) (fun a h1 h2 => z_up_ne (by omega)), hM.2.2.2.of (fun a h1 h2 => z_up_ne (by omega))⟩
  · rw [q_ua (by omega)]
    exact hM.ns
  · rw [q_ua (by omega)]
    exact hM.ng
  · rw [q_ua (by omega)]
    exact hM.hi hi
  · show z_up m (64 + f) k (nI v) (64 + f') j = nI (if f' = f ∧ j = k then v else T.2.1.2.2.1 f' j)
    by_cases hq : f' = f ∧ j = k
    · obtain ⟨rfl, rfl⟩ := hq
      rw [q_uq, if_pos ⟨rfl, rfl⟩]
    · rw [if_neg hq]
      by_cases h1 : f' = f
      · rw [q_uk (by omega)]
        exact hM.gd hj hf'
      · rw [q_ua (by omega)]
        exact hM.gd hj hf'
  · rw [q_ua (by omega)]
    exact hM.kn
  · rw [q_ua (by omega)]
    exact hM.sk
theorem p_seat (x v : Int32) : q_pr 67 129 [.int x, .int v] := by
  intro T hok
  have h6 := hok.1.2.1
  by_cases hv : q_v T.2.1.1.2 x = true
  · by_cases hw : q_w 0 5 v = true
    · obtain ⟨k, hk, rfl⟩ := q_v_t hv (by omega)
      obtain ⟨w, h1, h9, rfl⟩ := q_w_nI (a := 0) (b := 5) hw (by decide) (by decide)
      have hk6 : k < 6 := by omega
      refine ⟨nI (T.2.1.2.2.1 3 k), 0, q_setGd T 3 k w, fun d m hC => ⟨_, ?_, q_setGd_C hC hk6 (by decide), fun a ha => z_up_ne (by omega)⟩, fun d m hM => ⟨_, ?_, q_setGd_M hM (by decide), fun a ha => z_up_ne (by omega)⟩, ?_⟩
      · rw [c_X9_seat, k_isGuest _ _ hC.ng h6]
        simp only [Option.bind_some, q_if]
        rw [if_pos hv, k_within]
        simp only [Option.bind_some, q_if]
        rw [if_pos hw, q_in hk6 (by decide), z_g_t, z_g_t, q_cl (by omega), q_g5 hk6 (by decide), z_g_t, z_g_t, hC.gd hk (by decide)]
      · have e3 : m 67 k = nI (T.2.1.2.2.1 3 k) := hM.gd hk (show 3 < 5 by decide)
        rw [c_X10_seat, k_misGuest _ _ hM.ng h6]
        simp only [Option.bind_some, q_if]
        rw [if_pos hv, k_misTable]
        simp only [Option.bind_some, q_if]
        rw [if_pos hw, q_in hk6 (by decide), z_g_t, z_g_t, q_cl (by omega), e3]
      · obtain ⟨⟨o1, o2, o3, o4, o5⟩, o6, o7⟩ := hok
        refine ⟨⟨o1, o2, o3, o4, fun j hj => ?_⟩, o6, o7⟩
        obtain ⟨p0, p1, p2, p3, p4, p5⟩ := o5 j hj
        refine ⟨p0, p1, p2, ?_, p4, p5⟩
        show (if 3 = 3 ∧ j = k then w else T.2.1.2.2.1 3 j) ≤ 5
        split
        · exact h9
        · exact p3
    · refine ⟨-2, 0, T, q_cop_same (fun d m hC => ?_), q_mop_same (fun d m hM => ?_), hok⟩
      · rw [c_X9_seat, k_isGuest _ _ hC.ng h6]
        simp only [Option.bind_some, q_if]
        rw [if_pos hv, k_within]
        simp only [Option.bind_some, q_if]
        rw [if_neg hw]
      · rw [c_X10_seat, k_misGuest _ _ hM.ng h6]
        simp only [Option.bind_some, q_if]
        rw [if_pos hv, k_misTable]
        simp only [Option.bind_some, q_if]
        rw [if_neg hw]
  · refine ⟨-1, 0, T, q_cop_same (fun d m hC => ?_), q_mop_same (fun d m hM => ?_), hok⟩
    · rw [c_X9_seat, k_isGuest _ _ hC.ng h6]
      simp only [Option.bind_some, q_if]
      rw [if_neg hv]
    · rw [c_X10_seat, k_misGuest _ _ hM.ng h6]
      simp only [Option.bind_some, q_if]
      rw [if_neg hv]
end
section
/-! 28 tell, 29 bow, 30 as -/
def q_setTr (T : q_T) (v : Int32) : q_T := ((T.1.1, v, T.1.2.2), T.2)
def q_setFt (T : q_T) (v : Int32) : q_T := ((v, T.1.2.1, T.1.2.2), T.2)
theorem q_setTr_C {T : q_T} {m : z_M} (hC : q_C m T) (hn : T.2.1.1.2 ≤ 6) (v : Int32) : q_C (z_up m 0 9 v) (q_setTr T v) :=
  ⟨⟨(q_uk (by decide)).trans hC.1.1, q_uq _ _ _ _, (q_ua (by decide)).trans hC.1.2.2⟩, hC.2.1.of hn (fun a h1 h2 => z_up_ne (by omega)), hC.2.2.1.of (fun a h1 h2 => z_up_ne (by omega)), hC.2.2.2.of (fun a h1 h2 => z_up_ne (by omega))⟩
theorem q_setFt_C {T : q_T} {m : z_M} (hC : q_C m T) (hn : T.2.1.1.2 ≤ 6) (v : Int32) : q_C (z_up m 0 10 v) (q_setFt T v) :=
  ⟨⟨q_uq _ _ _ _, (q_uk (by decide)).trans hC.1.2.1, (q_ua (by decide)).trans hC.1.2.2⟩, hC.2.1.of hn (fun a h1 h2 => z_up_ne (by omega)), hC.2.2.1.of (fun a h1 h2 => z_up_ne (by omega)), hC.2.2.2.of (fun a h1 h2 => z_up_ne (by omega))⟩
theorem q_setTr_M {T : q_T} {m : z_M} (hM : q_M m T) (v : Int32) : q_M (z_up m 59 1 v) (q_setTr T v) :=
  ⟨⟨(q_uk (by decide)).trans hM.1.1, q_uq _ _ _ _, (q_uk (by decide)).trans hM.1.2.2⟩, hM.2.1.of (q_uk (by decide)) (q_uk (by decide)) (q_uk (by decide)) (q_uk (by decide)) (fun a h1 h2 => z_up_ne (by omega)), hM.2.2.1.of (q_uk (by decide)) (fun a h1 h2 => z_up_ne (by omega)), hM.2.2.2.of (fun a h1 h2 => z_up_ne (by omega))⟩
theorem q_setFt_M {T : q_T} {m : z_M} (hM : q_M m T) (v : Int32) : q_M (z_up m 59 0 v) (q_setFt T v) :=
  ⟨⟨q_uq _ _ _ _, (q_uk (by decide)).trans hM.1.2.1, (q_uk (by decide)).trans hM.1.2.2⟩, hM.2.1.of (q_uk (by decide)) (q_uk (by decide)) (q_uk (by decide)) (q_uk (by decide)) (fun a h1 h2 => z_up_ne (by omega)), hM.2.2.1.of (q_uk (by decide)) (fun a h1 h2 => z_up_ne (by omega)), hM.2.2.2.of (fun a h1 h2 => z_up_ne (by omega))⟩
/-- a body begins -/
def q_beg (T : q_T) (b : Int32) : q_T := q_setTr T (31 * T.1.2.1 + b)
theorem k_begin {T : q_T} {m : z_M} (hC : q_C m T) (hn : T.2.1.1.2 ≤ 6) (d : Nat) (b : Int32) : ∃ m1, z_go z_SH z_P (d + 1) 101 [.ref 0, .int b] m = some (0, 0, m1) ∧ q_C m1 (q_beg T b) ∧ ∀ a, 0 < a → m1 a = m a := by
  refine ⟨_, c_X9_begin d b m, ?_, fun a ha => z_up_ne (by omega)⟩
  have := q_setTr_C hC hn (31 * m 0 9 + b)
  rw [show m 0 9 = T.1.2.1 from hC.1.2.1] at this ⊢
  exact this
theorem k_mbegin {T : q_T} {m : z_M} (hM : q_M m T) (d : Nat) (b : Int32) : ∃ m1, z_go z_SH z_P (d + 1) 169 [.ref 59, .int b] m = some (0, 0, m1) ∧ q_M m1 (q_beg T b) ∧ ∀ a, a ≠ 59 → m1 a = m a := by
  refine ⟨_, c_X10_begins d b m, ?_, fun a ha => z_up_ne ha⟩
  have := q_setTr_M hM (31 * m 59 1 + b)
  rw [show m 59 1 = T.1.2.1 from hM.1.2.1] at this ⊢
  exact this
theorem k_miss {T : q_T} {m : z_M} (hC : q_C m T) (hn : T.2.1.1.2 ≤ 6) (d : Nat) {k : Nat} (hk : k < T.2.1.1.2) : ∃ m1, z_go z_SH z_P (d + 2) 102 [.ref 0, .int (nI k)] m = some (nI (T.2.1.2.2.1 1 k), 0, m1) ∧ q_C m1 (q_beg T 1) ∧ ∀ a, 0 < a → m1 a = m a := by
  obtain ⟨m1, e1, c1, f1⟩ := k_begin hC hn d 1
  refine ⟨m1, ?_, c1, f1⟩
  rw [c_X9_missTells, e1]
  simp only [Option.bind_some]
  rw [q_in (show k < 6 by omega) (by decide), z_g_t, q_cl (by omega), q_g5 (by omega) (by decide), z_g_t, f1 (5 + k) (by omega), hC.gd hk (by decide)]
theorem k_col {T : q_T} {m : z_M} (hC : q_C m T) (hn : T.2.1.1.2 ≤ 6) (d : Nat) {k : Nat} (hk : k < T.2.1.1.2) : ∃ m1, z_go z_SH z_P (d + 3) 103 [.ref 0, .int (nI k)] m = some (nI (T.2.1.2.2.1 1 k) + 100, 0, m1) ∧ q_C m1 (q_beg (q_beg T 2) 1) ∧ ∀ a, 0 < a → m1 a = m a := by
  obtain ⟨m1, e1, c1, f1⟩ := k_begin hC hn (d + 1) 2
  obtain ⟨m2, e2, c2, f2⟩ := k_miss c1 hn d hk
  refine ⟨m2, ?_, c2, fun a ha => (f2 a ha).trans (f1 a ha)⟩
  rw [c_X9_colonelTells, e1]
  simp only [Option.bind_some]
  rw [e2]
  rfl
theorem k_bro {T : q_T} {m : z_M} (hC : q_C m T) (hn : T.2.1.1.2 ≤ 6) (d : Nat) {k : Nat} (hk : k < T.2.1.1.2) : ∃ m1, z_go z_SH z_P (d + 4) 104 [.ref 0, .int (nI k)] m = some (nI (T.2.1.2.2.1 1 k) + 100 + nI (T.2.1.2.2.1 1 k), 0, m1) ∧ q_C m1 (q_beg (q_beg (q_beg (q_beg T 3) 2) 1) 1) ∧ ∀ a, 0 < a → m1 a = m a := by
  obtain ⟨m1, e1, c1, f1⟩ := k_begin hC hn (d + 2) 3
  obtain ⟨m2, e2, c2, f2⟩ := k_col c1 hn d hk
  obtain ⟨m3, e3, c3, f3⟩ := k_miss c2 hn (d + 1) hk
  refine ⟨m3, ?_, c3, fun a ha => (f3 a ha).trans ((f2 a ha).trans (f1 a ha))⟩
  rw [c_X9_brokerTells, e1]
  simp only [Option.bind_some]
  rw [e2]
  simp only [Option.bind_some]
  rw [e3]
  rfl
theorem q_two : ∀ b, b < 10 → nI b + 100 + nI b = 2 * nI b + 100 := by decide +kernel
theorem p_tell (x : Int32) : q_pr 88 170 [.int x] := by
  intro T hok
  have h6 := hok.1.2.1
  by_cases hv : q_v T.2.1.1.2 x = true
  · obtain ⟨k, hk, rfl⟩ := q_v_t hv (by omega)
    have hk6 : k < 6 := by omega
    have h2 := hok.1.k0 hk
    have hb := hok.1.k1 hk
    have pre : ∀ (d : Nat) (m : z_M), q_C m T → z_go z_SH z_P (d + 20) 88 [.ref 0, .int (nI k)] m = if T.2.1.2.2.1 0 k = 0 then Option.bind (z_go z_SH z_P (d + 19) 102 [.ref 0, .int (nI k)] m) (fun r => some (r.1, 0, r.2.2)) else if T.2.1.2.2.1 0 k = 1 then Option.bind (z_go z_SH z_P (d + 19) 103 [.ref 0, .int (nI k)] m) (fun r => some (r.1, 0, r.2.2)) else Option.bind (z_go z_SH z_P (d + 19) 104 [.ref 0, .int (nI k)] m) (fun r => some (r.1, 0, r.2.2)) := by
      intro d m hC
      rw [c_X9_tell, k_isGuest _ _ hC.ng h6]
      simp only [Option.bind_some, q_if]
      rw [if_pos hv, q_in hk6 (by decide), z_g_t, q_cl (by omega), q_g5 hk6 (by decide), z_g_t, hC.gd hk (by decide), q_nI_if (by omega) (by decide), q_nI_if (by omega) (by decide)]
    have mpre : ∀ (d : Nat) (m : z_M), q_M m T → z_go z_SH z_P (d + 20) 170 [.ref 59, .int (nI k)] m = if T.2.1.2.2.1 0 k = 1 then (Option.bind (z_go z_SH z_P (d + 19) 169 [.ref 59, .int 2] m) (fun r2 => Option.bind (z_go z_SH z_P (d + 19) 169 [.ref 59, .int 1] r2.2.2) (fun r3 => some (nI (T.2.1.2.2.1 1 k) + 100, 0, r3.2.2)))) else if T.2.1.2.2.1 0 k = 2 then (Option.bind (z_go z_SH z_P (d + 19) 169 [.ref 59, .int 3] m) (fun r4 => Option.bind (z_go z_SH z_P (d + 19) 169 [.ref 59, .int 2] r4.2.2) (fun r5 => Option.bind (z_go z_SH z_P (d + 19) 169 [.ref 59, .int 1] r5.2.2) (fun r6 => Option.bind (z_go z_SH z_P (d + 19) 169 [.ref 59, .int 1] r6.2.2) (fun r7 => some (2 * nI (T.2.1.2.2.1 1 k) + 100, 0, r7.2.2)))))) else (Option.bind (z_go z_SH z_P (d + 19) 169 [.ref 59, .int 1] m) (fun r8 => some (nI (T.2.1.2.2.1 1 k), 0, r8.2.2))) := by
      intro d m hM
      have e0 : m 64 k = nI (T.2.1.2.2.1 0 k) := hM.gd hk (show 0 < 5 by decide)
      have e1 : m 65 k = nI (T.2.1.2.2.1 1 k) := hM.gd hk (show 1 < 5 by decide)
      rw [c_X10_tell, k_misGuest _ _ hM.ng h6]
      simp only [Option.bind_some, q_if]
      rw [if_pos hv, q_in hk6 (by decide), z_g_t, z_g_t, q_cl (by omega), e0, e1, q_nI_if (by omega) (by decide), q_nI_if (by omega) (by decide)]
    rcases (show T.2.1.2.2.1 0 k = 0 ∨ T.2.1.2.2.1 0 k = 1 ∨ T.2.1.2.2.1 0 k = 2 by omega) with hq | hq | hq
    · refine ⟨nI (T.2.1.2.2.1 1 k), 0, q_beg T 1, fun d m hC => ?_, fun d m hM => ?_, hok⟩
      · obtain ⟨m1, e1, c1, f1⟩ := k_miss hC h6 (d + 17) hk
        refine ⟨m1, ?_, c1, fun a ha => f1 a (by omega)⟩
        rw [pre d m hC, if_pos hq, e1]
        rfl
      · obtain ⟨m1, e1, c1, f1⟩ := k_mbegin hM (d + 18) 1
        refine ⟨m1, ?_, c1, fun a ha => f1 a (by omega)⟩
        rw [mpre d m hM, if_neg (by omega), if_neg (by omega), e1]
        rfl
    · refine ⟨nI (T.2.1.2.2.1 1 k) + 100, 0, q_beg (q_beg T 2) 1, fun d m hC => ?_, fun d m hM => ?_, hok⟩
      · obtain ⟨m1, e1, c1, f1⟩ := k_col hC h6 (d + 16) hk
        refine ⟨m1, ?_, c1, fun a ha => f1 a (by omega)⟩
        rw [pre d m hC, if_neg (by omega), if_pos hq, e1]
        rfl
      · obtain ⟨m1, e1, c1, f1⟩ := k_mbegin hM (d + 18) 2
        obtain ⟨m2, e2, c2, f2⟩ := k_mbegin c1 (d + 18) 1
        refine ⟨m2, ?_, c2, fun a ha => (f2 a (by omega)).trans (f1 a (by omega))⟩
        rw [mpre d m hM, if_pos hq, e1]
        simp only [Option.bind_some]
        rw [e2]
        rfl
    · refine ⟨nI (T.2.1.2.2.1 1 k) + 100 + nI (T.2.1.2.2.1 1 k), 0, q_beg (q_beg (q_beg (q_beg T 3) 2) 1) 1, fun d m hC => ?_, fun d m hM => ?_, hok⟩
      · obtain ⟨m1, e1, c1, f1⟩ := k_bro hC h6 (d + 15) hk
        refine ⟨m1, ?_, c1, fun a ha => f1 a (by omega)⟩
        rw [pre d m hC, if_neg (by omega), if_neg (by omega), e1]
        rfl
      · obtain ⟨m1, e1, c1, f1⟩ := k_mbegin hM (d + 18) 3
        obtain ⟨m2, e2, c2, f2⟩ := k_mbegin c1 (d + 18) 2
        obtain ⟨m3, e3, c3, f3⟩ := k_mbegin c2 (d + 18) 1
        obtain ⟨m4, e4, c4, f4⟩ := k_mbegin c3 (d + 18) 1
        refine ⟨m4, ?_, c4, fun a ha => (f4 a (by omega)).trans ((f3 a (by omega)).trans ((f2 a (by omega)).trans (f1 a (by omega))))⟩
        rw [mpre d m hM, if_neg (by omega), if_pos hq, e1]
        simp only [Option.bind_some]
        rw [e2]
        simp only [Option.bind_some]
        rw [e3]
        simp only [Option.bind_some]
        rw [e4, q_two _ (by omega)]
        rfl
  · refine ⟨-1, 0, T, q_cop_same (fun d m hC => ?_), q_mop_same (fun d m hM => ?_), hok⟩
    · rw [c_X9_tell, k_isGuest _ _ hC.ng h6]
      simp only [Option.bind_some, q_if]
      rw [if_neg hv]
    · rw [c_X10_tell, k_misGuest _ _ hM.ng h6]
      simp only [Option.bind_some, q_if]
      rw [if_neg hv]
theorem p_bow (x : Int32) : q_pr 89 171 [.int x] := by
  intro T hok
  have h6 := hok.1.2.1
  by_cases hv : q_v T.2.1.1.2 x = true
  · obtain ⟨k, hk, rfl⟩ := q_v_t hv (by omega)
    have hk6 : k < 6 := by omega
    have h2 := hok.1.k0 hk
    refine ⟨if T.2.1.2.2.1 0 k = 2 then 70 else nI (T.2.1.2.2.1 3 k), 0, if T.2.1.2.2.1 0 k = 2 then q_beg T 5 else q_beg T 4, fun d m hC => ?_, fun d m hM => ?_, ?_⟩
    · rw [c_X9_bow, k_isGuest _ _ hC.ng h6]
      simp only [Option.bind_some, q_if]
      rw [if_pos hv, q_in hk6 (by decide), z_g_t, q_cl (by omega), q_g5 hk6 (by decide), z_g_t, hC.gd hk (by decide), show (2 : Int32) = nI 2 from rfl, q_nI_if (by omega) (by decide)]
      by_cases hq : T.2.1.2.2.1 0 k = 2
      · obtain ⟨m1, e1, c1, f1⟩ := k_begin hC h6 (d + 18) 5
        rw [if_pos hq, if_pos hq, if_pos hq, e1]
        exact ⟨m1, rfl, c1, fun a ha => f1 a (by omega)⟩
      · obtain ⟨m1, e1, c1, f1⟩ := k_begin hC h6 (d + 18) 4
        rw [if_neg hq, if_neg hq, if_neg hq, e1]
        refine ⟨m1, ?_, c1, fun a ha => f1 a (by omega)⟩
        simp only [Option.bind_some]
        rw [z_g_t, q_g5 hk6 (by decide), z_g_t, f1 (5 + k) (by omega), hC.gd hk (by decide)]
    · have e0 : m 64 k = nI (T.2.1.2.2.1 0 k) := hM.gd hk (show 0 < 5 by decide)
      have e3 : m 67 k = nI (T.2.1.2.2.1 3 k) := hM.gd hk (show 3 < 5 by decide)
      rw [c_X10_bow, k_misGuest _ _ hM.ng h6]
      simp only [Option.bind_some, q_if]
      rw [if_pos hv, q_in hk6 (by decide), z_g_t, q_cl (by omega), e0, show (2 : Int32) = nI 2 from rfl, q_nI_if (by omega) (by decide)]
      by_cases hq : T.2.1.2.2.1 0 k = 2
      · obtain ⟨m1, e1, c1, f1⟩ := k_mbegin hM (d + 18) 5
        rw [if_pos hq, if_pos hq, if_pos hq, e1]
        refine ⟨m1, ?_, c1, fun a ha => f1 a (by omega)⟩
        simp only [Option.bind_some]
        rw [z_g_t, f1 64 (by decide), e0, hq, if_pos rfl]
      · obtain ⟨m1, e1, c1, f1⟩ := k_mbegin hM (d + 18) 4
        rw [if_neg hq, if_neg hq, if_neg hq, e1]
        refine ⟨m1, ?_, c1, fun a ha => f1 a (by omega)⟩
        simp only [Option.bind_some]
        rw [z_g_t, z_g_t, f1 64 (by decide), f1 67 (by decide), e0, e3, q_nI_if (by omega) (by decide), if_neg hq]
    · split
      · exact hok
      · exact hok
  · refine ⟨-1, 0, T, q_cop_same (fun d m hC => ?_), q_mop_same (fun d m hM => ?_), hok⟩
    · rw [c_X9_bow, k_isGuest _ _ hC.ng h6]
      simp only [Option.bind_some, q_if]
      rw [if_neg hv]
    · rw [c_X10_bow, k_misGuest _ _ hM.ng h6]
      simp only [Option.bind_some, q_if]
      rw [if_neg hv]
theorem q_w_lit {a b : Nat} {x : Int32} {p q : Int32} (hp : p = nI a) (hq : q = nI b) (h : q_w p q x = true) (ha : a < 2147483648) (hb : b < 2147483648) : ∃ v, a ≤ v ∧ v ≤ b ∧ x = nI v := by
  subst hp
  subst hq
  exact q_w_nI h ha hb
/-- a call that names faults begins with none -/
theorem p_as (x y : Int32) : q_pr 90 172 [.int x, .int y] := by
  intro T hok
  have h6 := hok.1.2.1
  have c0 : ∀ m : z_M, q_C m T → q_C (z_up m 0 10 0) (q_setFt T 0) := fun m hC => q_setFt_C hC h6 0
  have m0 : ∀ m : z_M, q_M m T → q_M (z_up m 59 0 0) (q_setFt T 0) := fun m hM => q_setFt_M hM 0
  by_cases hv : q_v T.2.1.1.2 x = true
  · by_cases hw : q_w 0 2 y = true
    · obtain ⟨k, hk, rfl⟩ := q_v_t hv (by omega)
      obtain ⟨w, -, hw2, rfl⟩ := q_w_nI (a := 0) (b := 2) hw (by decide) (by decide)
      have hk6 : k < 6 := by omega
      have h2 := hok.1.k0 hk
      by_cases hq : T.2.1.2.2.1 0 k < w
      · refine ⟨-12, 0, q_setFt (q_setFt T 0) 2, fun d m hC => ⟨z_up (z_up m 0 10 0) 0 10 2, ?_, q_setFt_C (c0 m hC) h6 2, fun a ha => (z_up_ne (by omega)).trans (z_up_ne (by omega))⟩, fun d m hM => ⟨z_up (z_up m 59 0 0) 59 0 2, ?_, q_setFt_M (m0 m hM) 2, fun a ha => (z_up_ne (by omega)).trans (z_up_ne (by omega))⟩, hok⟩
        · rw [c_X9_as, k_isGuest _ _ (c0 m hC).ng h6]
          simp only [Option.bind_some, q_if]
          rw [if_pos (show q_v (q_setFt T 0).2.1.1.2 (nI k) = true from hv), k_within]
          simp only [Option.bind_some, q_if]
          rw [if_pos hw, q_in hk6 (by decide), z_g_t, q_cl (by omega), q_g5 hk6 (by decide), z_g_t, (c0 m hC).gd hk (by decide), q_nI_lt (by show T.2.1.2.2.1 0 k < _; omega) (by omega), if_pos (show (q_setFt T 0).2.1.2.2.1 0 k < w from hq), c_X9_failed]
          rfl
        · have e0 : z_up m 59 0 0 64 k = nI (T.2.1.2.2.1 0 k) := (m0 m hM).gd hk (show 0 < 5 by decide)
          rw [c_X10_as, k_misGuest _ _ (m0 m hM).ng h6]
          simp only [Option.bind_some, q_if]
          rw [if_pos (show q_v (q_setFt T 0).2.1.1.2 (nI k) = true from hv), k_mwithin]
          simp only [Option.bind_some, q_if]
          rw [if_pos hw, q_in hk6 (by decide), z_g_t, q_cl (by omega), e0, q_nI_lt (by omega) (by omega), if_pos hq, c_X10_fails]
          rfl
      · refine ⟨1, 0, q_setFt T 0, fun d m hC => ⟨z_up m 0 10 0, ?_, c0 m hC, fun a ha => z_up_ne (by omega)⟩, fun d m hM => ⟨z_up m 59 0 0, ?_, m0 m hM, fun a ha => z_up_ne (by omega)⟩, hok⟩
        · rw [c_X9_as, k_isGuest _ _ (c0 m hC).ng h6]
          simp only [Option.bind_some, q_if]
          rw [if_pos (show q_v (q_setFt T 0).2.1.1.2 (nI k) = true from hv), k_within]
          simp only [Option.bind_some, q_if]
          rw [if_pos hw, q_in hk6 (by decide), z_g_t, q_cl (by omega), q_g5 hk6 (by decide), z_g_t, (c0 m hC).gd hk (by decide), q_nI_lt (by show T.2.1.2.2.1 0 k < _; omega) (by omega), if_neg (show ¬ (q_setFt T 0).2.1.2.2.1 0 k < w from hq)]
        · have e0 : z_up m 59 0 0 64 k = nI (T.2.1.2.2.1 0 k) := (m0 m hM).gd hk (show 0 < 5 by decide)
          rw [c_X10_as, k_misGuest _ _ (m0 m hM).ng h6]
          simp only [Option.bind_some, q_if]
          rw [if_pos (show q_v (q_setFt T 0).2.1.1.2 (nI k) = true from hv), k_mwithin]
          simp only [Option.bind_some, q_if]
          rw [if_pos hw, q_in hk6 (by decide), z_g_t, q_cl (by omega), e0, q_nI_lt (by omega) (by omega), if_neg hq]
    · refine ⟨-2, 0, q_setFt T 0, fun d m hC => ⟨z_up m 0 10 0, ?_, c0 m hC, fun a ha => z_up_ne (by omega)⟩, fun d m hM => ⟨z_up m 59 0 0, ?_, m0 m hM, fun a ha => z_up_ne (by omega)⟩, hok⟩
      · rw [c_X9_as, k_isGuest _ _ (c0 m hC).ng h6]
        simp only [Option.bind_some, q_if]
        rw [if_pos (show q_v (q_setFt T 0).2.1.1.2 x = true from hv), k_within]
        simp only [Option.bind_some, q_if]
        rw [if_neg hw]
      · rw [c_X10_as, k_misGuest _ _ (m0 m hM).ng h6]
        simp only [Option.bind_some, q_if]
        rw [if_pos (show q_v (q_setFt T 0).2.1.1.2 x = true from hv), k_mwithin]
        simp only [Option.bind_some, q_if]
        rw [if_neg hw]
  · refine ⟨-1, 0, q_setFt T 0, fun d m hC => ⟨z_up m 0 10 0, ?_, c0 m hC, fun a ha => z_up_ne (by omega)⟩, fun d m hM => ⟨z_up m 59 0 0, ?_, m0 m hM, fun a ha => z_up_ne (by omega)⟩, hok⟩
    · rw [c_X9_as, k_isGuest _ _ (c0 m hC).ng h6]
      simp only [Option.bind_some, q_if]
      rw [if_neg (show ¬ q_v (q_setFt T 0).2.1.1.2 x = true from hv)]
    · rw [c_X10_as, k_misGuest _ _ (m0 m hM).ng h6]
      simp only [Option.bind_some, q_if]
      rw [if_neg (show ¬ q_v (q_setFt T 0).2.1.1.2 x = true from hv)]
end
section
/-! 18 back, 17 reading, 24 lose -/
def q_setNr (T : q_T) (n : Nat) : q_T := (T.1, T.2.1, (n, T.2.2.1.2), T.2.2.2)
theorem q_setNr_C {T : q_T} {m : z_M} (hC : q_C m T) (hn : T.2.1.1.2 ≤ 6) {n : Nat} (h : n ≤ T.2.2.1.1) : q_C (z_up m 40 3 (nI n)) (q_setNr T n) := by
  refine ⟨hC.1.of (z_up_ne (by decide)) (z_up_ne (by decide)), hC.2.1.of hn (fun a h1 h2 => z_up_ne (by omega)), ⟨q_uq _ _ _ _, fun r hr => ?_⟩, hC.2.2.2.of (fun a h1 h2 => z_up_ne (by omega))⟩
  rw [z_up_ne (by decide), z_up_ne (by decide), z_up_ne (by decide)]
  exact hC.2.2.1.2 r (Nat.lt_of_lt_of_le hr h)
theorem q_setNr_M {T : q_T} {m : z_M} (hM : q_M m T) {n : Nat} (h : n ≤ T.2.2.1.1) : q_M (z_up m 59 33 (nI n)) (q_setNr T n) := by
  refine ⟨hM.1.of (q_uk (by decide)) (q_uk (by decide)) (q_uk (by decide)), hM.2.1.of (q_uk (by decide)) (q_uk (by decide)) (q_uk (by decide)) (q_uk (by decide)) (fun a h1 h2 => z_up_ne (by omega)), ⟨q_uq _ _ _ _, fun r hr => ?_⟩, hM.2.2.2.of (fun a h1 h2 => z_up_ne (by omega))⟩
  rw [z_up_ne (by decide), z_up_ne (by decide), z_up_ne (by decide)]
  exact hM.2.2.1.2 r (Nat.lt_of_lt_of_le hr h)
theorem p_back (x : Int32) : q_pr 78 157 [.int x] := by
  intro T hok
  have h6 := hok.1.2.1
  have h8 := hok.2.1.1
  by_cases hw : q_w 0 (nI T.2.2.1.1) x = true
  · obtain ⟨v, -, hv, rfl⟩ := q_w_nI (a := 0) hw (by decide) (by omega)
    have e : nI T.2.2.1.1 - nI v = nI (T.2.2.1.1 - v) := pk_sub hv
    refine ⟨nI (T.2.2.1.1 - v), 0, q_setNr T (T.2.2.1.1 - v), fun d m hC => ⟨_, ?_, q_setNr_C hC h6 (by omega), fun a ha => z_up_ne (by omega)⟩, fun d m hM => ⟨_, ?_, q_setNr_M hM (by omega), fun a ha => z_up_ne (by omega)⟩, ⟨hok.1, ⟨by show T.2.2.1.1 - v ≤ 8; omega, fun r hr => hok.2.1.2 r (by have : r < T.2.2.1.1 - v := hr; omega)⟩, hok.2.2⟩⟩
    · rw [c_X9_back, hC.2.2.1.1, k_within]
      simp only [Option.bind_some, q_if]
      rw [if_pos hw, hC.2.2.1.1, e, q_uq]
    · rw [c_X10_back, hM.2.2.1.1, k_mwithin]
      simp only [Option.bind_some, q_if]
      rw [if_pos hw, hM.2.2.1.1, e, q_uq]
  · refine ⟨-2, 0, T, q_cop_same (fun d m hC => ?_), q_mop_same (fun d m hM => ?_), hok⟩
    · rw [c_X9_back, hC.2.2.1.1, k_within]
      simp only [Option.bind_some, q_if]
      rw [if_neg hw]
    · rw [c_X10_back, hM.2.2.1.1, k_mwithin]
      simp only [Option.bind_some, q_if]
      rw [if_neg hw]
def q_note (T : q_T) (s k : Nat) (b : Bool) : q_T := (T.1, T.2.1, (T.2.2.1.1 + 1, (fun r => if r = T.2.2.1.1 then s else T.2.2.1.2.1 r), (fun r => if r = T.2.2.1.1 then k else T.2.2.1.2.2.1 r), (fun r => if r = T.2.2.1.1 then b else T.2.2.1.2.2.2 r)), T.2.2.2)
theorem q_zb_b (b : Bool) : z_b (q_b b) = q_b b := by cases b <;> decide
theorem q_note_C {T : q_T} {m : z_M} (hC : q_C m T) (hn : T.2.1.1.2 ≤ 6) (s k : Nat) (b : Bool) : q_C (z_up (z_up (z_up (z_up m 41 T.2.2.1.1 (nI s)) 42 T.2.2.1.1 (nI k)) 43 T.2.2.1.1 (q_b b)) 40 3 (nI (T.2.2.1.1 + 1))) (q_note T s k b) := by
  have fr : ∀ a, a < 40 ∨ 44 ≤ a → z_up (z_up (z_up (z_up m 41 T.2.2.1.1 (nI s)) 42 T.2.2.1.1 (nI k)) 43 T.2.2.1.1 (q_b b)) 40 3 (nI (T.2.2.1.1 + 1)) a = m a := fun a ha => by rw [z_up_ne (by omega), z_up_ne (by omega), z_up_ne (by omega), z_up_ne (by omega)]
  refine ⟨hC.1.of (fr 0 (by omega)) (fr 2 (by omega)), hC.2.1.of hn (fun a h1 h2 => fr a (by omega)), ⟨q_uq _ _ _ _, fun r hr => ?_⟩, hC.2.2.2.of (fun a h1 h2 => fr a (by omega))⟩
  have hr : r < T.2.2.1.1 + 1 := hr
  show _ = nI (if r = T.2.2.1.1 then s else T.2.2.1.2.1 r) ∧ _ = nI (if r = T.2.2.1.1 then k else T.2.2.1.2.2.1 r) ∧ _ = q_b (if r = T.2.2.1.1 then b else T.2.2.1.2.2.2 r)
  by_cases hq : r = T.2.2.1.1
  · subst hq
    simp (disch := omega) only [q_ua, q_uq, if_true, q_zb_b]
    exact ⟨trivial, trivial, trivial⟩
  · rw [if_neg hq, if_neg hq, if_neg hq]
    simp (disch := omega) only [q_ua, q_uk]
    exact hC.2.2.1.2 r (by omega)
theorem q_note_M {T : q_T} {m : z_M} (hM : q_M m T) (s k : Nat) (b : Bool) : q_M (z_up (z_up (z_up (z_up m 77 T.2.2.1.1 (nI s)) 78 T.2.2.1.1 (nI k)) 79 T.2.2.1.1 (q_b b)) 59 33 (nI (T.2.2.1.1 + 1))) (q_note T s k b) := by
  have fr : ∀ a, 60 ≤ a → a < 77 → z_up (z_up (z_up (z_up m 77 T.2.2.1.1 (nI s)) 78 T.2.2.1.1 (nI k)) 79 T.2.2.1.1 (q_b b)) 59 33 (nI (T.2.2.1.1 + 1)) a = m a := fun a h1 h2 => by rw [z_up_ne (by omega), z_up_ne (by omega), z_up_ne (by omega), z_up_ne (by omega)]
  have f9 : ∀ j, j ≠ 33 → z_up (z_up (z_up (z_up m 77 T.2.2.1.1 (nI s)) 78 T.2.2.1.1 (nI k)) 79 T.2.2.1.1 (q_b b)) 59 33 (nI (T.2.2.1.1 + 1)) 59 j = m 59 j := fun j hj => by rw [q_uk hj, q_ua (by decide), q_ua (by decide), q_ua (by decide)]
  refine ⟨hM.1.of (f9 0 (by decide)) (f9 1 (by decide)) (f9 7 (by decide)), hM.2.1.of (f9 5 (by decide)) (f9 6 (by decide)) (f9 8 (by decide)) (f9 9 (by decide)) (fun a h1 h2 => fr a (by omega) (by omega)), ⟨q_uq _ _ _ _, fun r hr => ?_⟩, hM.2.2.2.of (fun a h1 h2 => fr a h1 (by omega))⟩
  have hr : r < T.2.2.1.1 + 1 := hr
  show _ = nI (if r = T.2.2.1.1 then s else T.2.2.1.2.1 r) ∧ _ = nI (if r = T.2.2.1.1 then k else T.2.2.1.2.2.1 r) ∧ _ = q_b (if r = T.2.2.1.1 then b else T.2.2.1.2.2.2 r)
  by_cases hq : r = T.2.2.1.1
  · subst hq
    simp (disch := omega) only [q_ua, q_uq, if_true]
    exact ⟨trivial, trivial, trivial⟩
  · rw [if_neg hq, if_neg hq, if_neg hq]
    simp (disch := omega) only [q_ua, q_uk]
    exact hM.2.2.1.2 r (by omega)
theorem k_note {T : q_T} {m : z_M} (hC : q_C m T) (h8 : T.2.2.1.1 < 8) (d s k : Nat) (b : Bool) : z_go z_SH z_P (d + 1) 29 [.ref 40, .int (nI s), .int (nI k), .int (q_b b)] m = some (nI T.2.2.1.1, 0, z_up (z_up (z_up (z_up m 41 T.2.2.1.1 (nI s)) 42 T.2.2.1.1 (nI k)) 43 T.2.2.1.1 (q_b b)) 40 3 (nI (T.2.2.1.1 + 1))) := by
  rw [c_X3_note]
  simp (disch := decide) only [q_ua, q_uq, hC.2.2.1.1]
  rw [q_in h8 (by decide), z_g_t, z_g_t, q_bb, Bool.true_and, z_g_t, q_cl (by omega), nI_1, nI_pred]
theorem p_reading (x y z : Int32) : q_pr 77 156 [.int x, .int y, .int z] := by
  intro T hok
  have h5 := hok.1.1
  have h6 := hok.1.2.1
  have h8 := hok.2.1.1
  have cpre : ∀ (d : Nat) (m : z_M), q_C m T → z_go z_SH z_P (d + 20) 77 [.ref 0, .int x, .int y, .int z] m = if q_v T.2.1.1.1 x = true then (if q_v T.2.1.1.2 y = true then (if q_w 0 1 z = true then (if T.2.2.1.1 < 8 then (if z = 1 then (Option.bind (z_go z_SH z_P (d + 19) 29 [.ref 40, .int x, .int y, .int 1] m) (fun r4 => some (r4.1, 0, r4.2.2))) else (Option.bind (z_go z_SH z_P (d + 19) 29 [.ref 40, .int x, .int y, .int 0] m) (fun r5 => some (r5.1, 0, r5.2.2)))) else some (-4, 0, m)) else some (-2, 0, m)) else some (-1, 0, m)) else some (-1, 0, m) := by
    intro d m hC
    rw [c_X9_reading, k_isSign _ _ hC.ns h5]
    simp only [Option.bind_some, q_if]
    by_cases c1 : q_v T.2.1.1.1 x = true
    · rw [if_pos c1, if_pos c1, k_isGuest _ _ hC.ng h6]
      simp only [Option.bind_some, q_if]
      by_cases c2 : q_v T.2.1.1.2 y = true
      · rw [if_pos c2, if_pos c2, k_within]
        simp only [Option.bind_some, q_if]
        rw [hC.2.2.1.1, show (8 : Int32) = nI 8 from rfl, q_nI_lt (by omega) (by decide)]
      · rw [if_neg c2, if_neg c2]
    · rw [if_neg c1, if_neg c1]
  have mpre : ∀ (d : Nat) (m : z_M), q_M m T → z_go z_SH z_P (d + 20) 156 [.ref 59, .int x, .int y, .int z] m = if q_v T.2.1.1.1 x = true then (if q_v T.2.1.1.2 y = true then (if q_w 0 1 z = true then (if T.2.2.1.1 = 8 then some (-4, 0, m) else some (nI T.2.2.1.1, 0, z_up (z_up (z_up (z_up m 77 T.2.2.1.1 x) 78 T.2.2.1.1 y) 79 T.2.2.1.1 z) 59 33 (nI (T.2.2.1.1 + 1)))) else some (-2, 0, m)) else some (-1, 0, m)) else some (-1, 0, m) := by
    intro d m hM
    rw [c_X10_reading, k_misSign _ _ hM.ns h5]
    simp only [Option.bind_some, q_if]
    by_cases c1 : q_v T.2.1.1.1 x = true
    · rw [if_pos c1, if_pos c1, k_misGuest _ _ hM.ng h6]
      simp only [Option.bind_some, q_if]
      by_cases c2 : q_v T.2.1.1.2 y = true
      · rw [if_pos c2, if_pos c2, k_mwithin]
        simp only [Option.bind_some, q_if]
        by_cases c3 : q_w 0 1 z = true
        · rw [if_pos c3, if_pos c3]
          simp (disch := decide) only [q_ua, q_uq, hM.2.2.1.1]
          rw [show (8 : Int32) = nI 8 from rfl, q_nI_if (by omega) (by decide)]
          by_cases c4 : T.2.2.1.1 = 8
          · rw [if_pos c4, if_pos c4]
          · rw [if_neg c4, if_neg c4, q_in (show T.2.2.1.1 < 8 by omega) (by decide), z_g_t, z_g_t, z_g_t, q_cl (by omega), nI_1, nI_pred]
        · rw [if_neg c3, if_neg c3]
      · rw [if_neg c2, if_neg c2]
    · rw [if_neg c1, if_neg c1]
  by_cases c1 : q_v T.2.1.1.1 x = true
  · by_cases c2 : q_v T.2.1.1.2 y = true
    · by_cases c3 : q_w 0 1 z = true
      · by_cases c4 : T.2.2.1.1 = 8
        · refine ⟨-4, 0, T, q_cop_same (fun d m hC => ?_), q_mop_same (fun d m hM => ?_), hok⟩
          · rw [cpre d m hC, if_pos c1, if_pos c2, if_pos c3, if_neg (by omega)]
          · rw [mpre d m hM, if_pos c1, if_pos c2, if_pos c3, if_pos c4]
        · obtain ⟨s, hs, rfl⟩ := q_v_t c1 (by omega)
          obtain ⟨k, hk, rfl⟩ := q_v_t c2 (by omega)
          obtain ⟨v, -, hv, rfl⟩ := q_w_nI (a := 0) (b := 1) c3 (by decide) (by decide)
          have hvb : nI v = q_b (decide (v = 1)) := by
            rcases (show v = 0 ∨ v = 1 by omega) with rfl | rfl <;> decide
          refine ⟨nI T.2.2.1.1, 0, q_note T s k (decide (v = 1)), fun d m hC => ⟨_, ?_, q_note_C hC h6 s k _, fun a ha => by rw [z_up_ne (by omega), z_up_ne (by omega), z_up_ne (by omega), z_up_ne (by omega)]⟩, fun d m hM => ⟨_, ?_, q_note_M hM s k _, fun a ha => by rw [z_up_ne (by omega), z_up_ne (by omega), z_up_ne (by omega), z_up_ne (by omega)]⟩, ⟨hok.1, ⟨by show T.2.2.1.1 + 1 ≤ 8; omega, fun r hr => ?_⟩, hok.2.2⟩⟩
          · rw [cpre d m hC, if_pos c1, if_pos c2, if_pos c3, if_pos (by omega)]
            rcases (show v = 0 ∨ v = 1 by omega) with rfl | rfl
            · rw [if_neg (by decide)]
              have := k_note hC (by omega) (d + 18) s k (decide (0 = 1))
              rw [show (Value.int 0) = Value.int (q_b (decide (0 = 1))) from rfl, this]
              rfl
            · rw [if_pos (by decide)]
              have := k_note hC (by omega) (d + 18) s k (decide (1 = 1))
              rw [show (Value.int 1) = Value.int (q_b (decide (1 = 1))) from rfl, this]
              rfl
          · rw [mpre d m hM, if_pos c1, if_pos c2, if_pos c3, if_neg c4, ← hvb]
          · have hr : r < T.2.2.1.1 + 1 := hr
            show (if r = T.2.2.1.1 then s else T.2.2.1.2.1 r) < T.2.1.1.1 ∧ (if r = T.2.2.1.1 then k else T.2.2.1.2.2.1 r) < T.2.1.1.2
            by_cases hq : r = T.2.2.1.1
            · rw [if_pos hq, if_pos hq]
              exact ⟨hs, hk⟩
            · rw [if_neg hq, if_neg hq]
              exact hok.2.1.2 r (by omega)
      · refine ⟨-2, 0, T, q_cop_same (fun d m hC => ?_), q_mop_same (fun d m hM => ?_), hok⟩
        · rw [cpre d m hC, if_pos c1, if_pos c2, if_neg c3]
        · rw [mpre d m hM, if_pos c1, if_pos c2, if_neg c3]
    · refine ⟨-1, 0, T, q_cop_same (fun d m hC => ?_), q_mop_same (fun d m hM => ?_), hok⟩
      · rw [cpre d m hC, if_pos c1, if_neg c2]
      · rw [mpre d m hM, if_pos c1, if_neg c2]
  · refine ⟨-1, 0, T, q_cop_same (fun d m hC => ?_), q_mop_same (fun d m hM => ?_), hok⟩
    · rw [cpre d m hC, if_neg c1]
    · rw [mpre d m hM, if_neg c1]
end
section
/-! 24 lose -/
def q_setHas (T : q_T) (k : Nat) (b : Bool) : q_T := (T.1, T.2.1, T.2.2.1, ((fun j => if j = k then b else T.2.2.2.1 j), T.2.2.2.2))
theorem q_setHas_C {T : q_T} {m : z_M} (hC : q_C m T) (hn : T.2.1.1.2 ≤ 6) {k : Nat} (hk : k < 4) (b : Bool) : q_C (z_up m (51 + 2 * k) 1 (q_b b)) (q_setHas T k b) := by
  refine ⟨hC.1.of (z_up_ne (by omega)) (z_up_ne (by omega)), hC.2.1.of hn (fun a h1 h2 => z_up_ne (by omega)), hC.2.2.1.of (fun a h1 h2 => z_up_ne (by omega)), fun j hj => ?_⟩
  obtain ⟨p1, p2, p3, p4⟩ := hC.2.2.2 j hj
  refine ⟨?_, by rw [q_uk (by decide)]; exact p2, by rw [q_uk (by decide)]; exact p3, fun i hi => by rw [q_ua (by omega)]; exact p4 i hi⟩
  show _ = q_b (if j = k then b else T.2.2.2.1 j)
  by_cases hq : j = k
  · subst hq
    rw [q_uq, if_pos rfl, q_zb_b]
  · rw [if_neg hq, q_ua (by omega)]
    exact p1
theorem p_lose (x : Int32) : q_pr 84 165 [.int x] := by
  intro T hok
  have h6 := hok.1.2.1
  by_cases hw : q_w 0 3 x = true
  · obtain ⟨k, -, hk3, rfl⟩ := q_w_nI (a := 0) (b := 3) hw (by decide) (by decide)
    have hk : k < 4 := by omega
    refine ⟨q_b (T.2.2.2.1 k), 0, q_setHas T k false, fun d m hC => ⟨_, ?_, q_setHas_C hC h6 hk false, fun a ha => z_up_ne (by omega)⟩, fun d m hM => ⟨z_up m 60 k (-9), ?_, ?_, fun a ha => z_up_ne (by omega)⟩, hok⟩
    · rw [c_X9_lose, k_isSheet]
      simp only [Option.bind_some, q_if]
      rw [if_pos hw, q_in hk (by decide), z_g_t, z_g_t, q_cl (by omega), (q_s hk).2.1, z_g_t, show z_isb 0 = true from by decide, Bool.and_self, z_g_t, (hC.2.2.2 k hk).1, q_if]
      cases T.2.2.2.1 k <;> rfl
    · rw [c_X10_lose, k_misSheet]
      simp only [Option.bind_some, q_if]
      rw [if_pos hw, q_in hk (by decide), z_g_t, z_g_t, z_g_t, q_cl (by omega), (hM.2.2.2 k hk).1]
      have h2 := (hok.2.2 k hk).1
      cases hq : T.2.2.2.1 k with
      | true =>
        rw [if_pos rfl, if_neg]
        · rfl
        · have : ∀ v, v ≤ 2 → nI v ≠ (-9 : Int32) := by decide +kernel
          exact this _ h2
      | false =>
        rw [if_pos (show (if false = true then nI (T.2.2.2.2.1 k) else (-9 : Int32)) = -9 from rfl)]
        rfl
    · refine ⟨hM.1.of (q_ua (by decide)) (q_ua (by decide)) (q_ua (by decide)), hM.2.1.of (q_ua (by decide)) (q_ua (by decide)) (q_ua (by decide)) (q_ua (by decide)) (fun a h1 h2 => z_up_ne (by omega)), hM.2.2.1.of (q_ua (by decide)) (fun a h1 h2 => z_up_ne (by omega)), fun j hj => ?_⟩
      obtain ⟨p1, p2, p3⟩ := hM.2.2.2 j hj
      refine ⟨?_, by rw [q_ua (by decide)]; exact p2, fun i hi => by rw [q_ua (by decide)]; exact p3 i hi⟩
      show _ = if (if j = k then false else T.2.2.2.1 j) = true then nI (T.2.2.2.2.1 j) else -9
      by_cases hq : j = k
      · subst hq
        rw [q_uq, if_pos rfl]
        rfl
      · rw [if_neg hq, q_uk hq]
        exact p1
  · refine ⟨-1, 0, T, q_cop_same (fun d m hC => ?_), q_mop_same (fun d m hM => ?_), hok⟩
    · rw [c_X9_lose, k_isSheet]
      simp only [Option.bind_some, q_if]
      rw [if_neg hw]
    · rw [c_X10_lose, k_misSheet]
      simp only [Option.bind_some, q_if]
      rw [if_neg hw]
end
section
/-! 25 put, 26 cell -/
theorem q_w_len {n : Nat} (hn : n ≤ 60) (x : Int32) : q_w 0 (nI n - 1) x = q_v n x := by
  have e1 : (0 ≤ x) ↔ (0 ≤ x.toInt) := by
    rw [Int32.le_iff_toInt_le]
    exact Iff.rfl
  have e2 : (x ≤ nI n - 1) ↔ (x.toInt < (n : Int)) := by
    rw [Int32.le_iff_toInt_le, show (1 : Int32) = nI 1 from rfl, pk_sub_toInt (by omega) (by decide)]
    omega
  unfold q_w q_v
  simp only [e1, e2]
theorem k_faultAt {T : q_T} {m : z_M} (hC : q_C m T) (hok : q_okP T.2.2.2) {k : Nat} (hk : k < 4) (d : Nat) (x : Int32) : z_go z_SH z_P (d + 1) 35 [.ref (51 + 2 * k), .int x] m = some (if T.2.2.2.1 k = true then (if q_v (T.2.2.2.2.2.1 k) x = true then 0 else 3) else 1, 0, m) := by
  obtain ⟨p1, p2, p3, p4⟩ := hC.2.2.2 k hk
  have hl := (hok k hk).2
  rw [c_X4_faultAt d (q_s hk).2.2.2.2.2, p1, p3, q_if, q_v_if (by omega)]
  cases T.2.2.2.1 k with
  | true =>
    simp only [if_true]
    split <;> rfl
  | false => rfl
theorem k_faultAs {T : q_T} {m : z_M} (hC : q_C m T) (hok : q_okP T.2.2.2) {k : Nat} (hk : k < 4) (d : Nat) (x : Int32) : z_go z_SH z_P (d + 1) 34 [.ref (51 + 2 * k), .int x] m = some (if T.2.2.2.1 k = true then (if nI (T.2.2.2.2.1 k) = x then 0 else 2) else 1, 0, m) := by
  obtain ⟨p1, p2, p3, p4⟩ := hC.2.2.2 k hk
  rw [c_X4_faultAs d (q_s hk).2.2.2.2.2, p1, p2, q_if]
  cases T.2.2.2.1 k with
  | true =>
    simp only [if_true]
    split <;> rfl
  | false => rfl
def q_cut (ln : Nat) (v : Int32) : Int32 := if ln = 0 then v.toInt8.toInt32 else if ln = 1 then v.toInt16.toInt32 else v
def q_setCe (T : q_T) (k i : Nat) (v : Int32) : q_T := (T.1, T.2.1, T.2.2.1, (T.2.2.2.1, T.2.2.2.2.1, T.2.2.2.2.2.1, (fun j q => if j = k ∧ q = i then v else T.2.2.2.2.2.2 j q)))
theorem q_setCe_C {T : q_T} {m : z_M} (hC : q_C m T) (hn : T.2.1.1.2 ≤ 6) {k i : Nat} (hk : k < 4) (v : Int32) : q_C (z_up m (52 + 2 * k) i v) (q_setCe T k i v) := by
  refine ⟨hC.1.of (z_up_ne (by omega)) (z_up_ne (by omega)), hC.2.1.of hn (fun a h1 h2 => z_up_ne (by omega)), hC.2.2.1.of (fun a h1 h2 => z_up_ne (by omega)), fun j hj => ?_⟩
  obtain ⟨p1, p2, p3, p4⟩ := hC.2.2.2 j hj
  refine ⟨by rw [q_ua (by omega)]; exact p1, by rw [q_ua (by omega)]; exact p2, by rw [q_ua (by omega)]; exact p3, fun q hq => ?_⟩
  show _ = if j = k ∧ q = i then v else T.2.2.2.2.2.2 j q
  by_cases h : j = k ∧ q = i
  · obtain ⟨rfl, rfl⟩ := h
    rw [q_uq, if_pos ⟨rfl, rfl⟩]
  · rw [if_neg h]
    by_cases h1 : j = k
    · rw [q_uk (by omega)]
      exact p4 q hq
    · rw [q_ua (by omega)]
      exact p4 q hq
theorem q_setCe_M {T : q_T} {m : z_M} (hM : q_M m T) {k i : Nat} (hk : k < 4) (hi : i < 60) (v : Int32) : q_M (z_up m 62 (60 * k + i) v) (q_setCe T k i v) := by
  refine ⟨hM.1.of (q_ua (by decide)) (q_ua (by decide)) (q_ua (by decide)), hM.2.1.of (q_ua (by decide)) (q_ua (by decide)) (q_ua (by decide)) (q_ua (by decide)) (fun a h1 h2 => z_up_ne (by omega)), hM.2.2.1.of (q_ua (by decide)) (fun a h1 h2 => z_up_ne (by omega)), fun j hj => ?_⟩
  obtain ⟨p1, p2, p3⟩ := hM.2.2.2 j hj
  refine ⟨by rw [q_ua (by decide)]; exact p1, by rw [q_ua (by decide)]; exact p2, fun q hq => ?_⟩
  show _ = if j = k ∧ q = i then v else T.2.2.2.2.2.2 j q
  by_cases h : j = k ∧ q = i
  · obtain ⟨rfl, rfl⟩ := h
    rw [q_uq, if_pos ⟨rfl, rfl⟩]
  · rw [if_neg h, q_uk (by omega)]
    exact p3 q hq
theorem k_write {T : q_T} {m : z_M} (hC : q_C m T) (hok : q_okP T.2.2.2) {k i : Nat} (hk : k < 4) (hi : i < 60) (d : Nat) (v : Int32) : z_go z_SH z_P (d + 1) 33 [.ref (51 + 2 * k), .int (nI i), .int v] m = some (0, 0, z_up m (52 + 2 * k) i (q_cut (T.2.2.2.2.1 k) v)) := by
  obtain ⟨p1, p2, p3, p4⟩ := hC.2.2.2 k hk
  have hl := (hok k hk).1
  rw [c_X4_write d (q_s hk).2.2.2.2.2, p2, q_in hi (by decide), z_g_t, z_g_t, z_g_t, q_cl (by omega), show 51 + 2 * k + 1 = 52 + 2 * k by omega, show (0 : Int32) = nI 0 from rfl, show (1 : Int32) = nI 1 from rfl, q_nI_if (by omega) (by decide), q_nI_if (by omega) (by decide)]
  unfold q_cut
  split
  · rfl
  · split <;> rfl
theorem q_n9 : ∀ v, v ≤ 2 → nI v ≠ (-9 : Int32) := by decide +kernel
theorem q_ix {k i : Nat} : (60 : Int32) * nI k + nI i = nI (60 * k + i) := by
  rw [show (60 : Int32) = nI 60 from rfl, pk_mul, nI_add]
theorem p_put (x y v : Int32) : q_pr 85 166 [.int x, .int y, .int v] := by
  intro T hok
  have h6 := hok.1.2.1
  have c0 : ∀ m : z_M, q_C m T → q_C (z_up m 0 10 0) (q_setFt T 0) := fun m hC => q_setFt_C hC h6 0
  have m0 : ∀ m : z_M, q_M m T → q_M (z_up m 59 0 0) (q_setFt T 0) := fun m hM => q_setFt_M hM 0
  by_cases hw : q_w 0 3 x = true
  · obtain ⟨k, -, hk3, rfl⟩ := q_w_nI (a := 0) (b := 3) hw (by decide) (by decide)
    have hk : k < 4 := by omega
    obtain ⟨hl2, hl60⟩ := hok.2.2 k hk
    have cpre : ∀ (d : Nat) (m : z_M), q_C m T → z_go z_SH z_P (d + 20) 85 [.ref 0, .int (nI k), .int y, .int v] m = if (if T.2.2.2.1 k = true then (if q_v (T.2.2.2.2.2.1 k) y = true then 0 else 3) else 1) = (0 : Int32) then (Option.bind (z_go z_SH z_P (d + 19) 33 [.ref (51 + 2 * k), .int y, .int v] (z_up m 0 10 0)) (fun r3 => some (1, 0, r3.2.2))) else some (-10 - (if T.2.2.2.1 k = true then (if q_v (T.2.2.2.2.2.1 k) y = true then 0 else 3) else 1), 0, z_up (z_up m 0 10 0) 0 10 (if T.2.2.2.1 k = true then (if q_v (T.2.2.2.2.2.1 k) y = true then 0 else 3) else 1)) := by
      intro d m hC
      rw [c_X9_put, k_isSheet]
      simp only [Option.bind_some, q_if]
      rw [if_pos hw]
      simp only [q_in hk (show 4 < 2147483648 by decide), z_g_t, q_cl (show k < 2147483648 by omega), (q_s hk).1]
      rw [k_faultAt (c0 m hC) hok.2.2 hk]
      simp only [Option.bind_some]
      rw [c_X9_failed]
      rfl
    have mpre : ∀ (d : Nat) (m : z_M), q_M m T → z_go z_SH z_P (d + 20) 166 [.ref 59, .int (nI k), .int y, .int v] m = if T.2.2.2.1 k = true then (if q_v (T.2.2.2.2.2.1 k) y = true then (if T.2.2.2.2.1 k = 0 then (z_g (z_in 240 ((60 * nI k) + y)) (some (1, 0, z_up (z_up m 59 0 0) 62 ((60 * nI k) + y).toNatClampNeg v.toInt8.toInt32))) else (if T.2.2.2.2.1 k = 1 then (z_g (z_in 240 ((60 * nI k) + y)) (some (1, 0, z_up (z_up m 59 0 0) 62 ((60 * nI k) + y).toNatClampNeg v.toInt16.toInt32))) else (z_g (z_in 240 ((60 * nI k) + y)) (some (1, 0, z_up (z_up m 59 0 0) 62 ((60 * nI k) + y).toNatClampNeg v))))) else some (-13, 0, z_up (z_up m 59 0 0) 59 0 3)) else some (-11, 0, z_up (z_up m 59 0 0) 59 0 1) := by
      intro d m hM
      obtain ⟨r1, r2, r3⟩ := (m0 m hM).2.2.2 k hk
      have r1 : z_up m 59 0 0 60 k = (if T.2.2.2.1 k = true then nI (T.2.2.2.2.1 k) else -9) := r1
      have r2 : z_up m 59 0 0 61 k = nI (T.2.2.2.2.2.1 k) := r2
      rw [c_X10_put, k_misSheet]
      simp only [Option.bind_some, q_if]
      rw [if_pos hw, q_in hk (by decide), z_g_t, q_cl (by omega), r1, r2, k_mwithin, q_w_len hl60]
      simp only [Option.bind_some, q_if, z_g_t]
      cases hq : T.2.2.2.1 k with
      | true =>
        simp only [if_true]
        rw [if_neg (q_n9 _ hl2), r1, hq]
        simp only [if_true]
        rw [show (0 : Int32) = nI 0 from rfl, show (1 : Int32) = nI 1 from rfl, q_nI_if (by omega) (by decide), q_nI_if (by omega) (by decide)]
        by_cases hv : q_v (T.2.2.2.2.2.1 k) y = true
        · rw [if_pos hv, if_pos hv]
        · rw [if_neg hv, if_neg hv, c_X10_fails]
          rfl
      | false =>
        rw [if_pos (show (if false = true then nI (T.2.2.2.2.1 k) else (-9 : Int32)) = -9 from rfl), c_X10_fails]
        rfl
    cases hq : T.2.2.2.1 k with
    | false =>
      refine ⟨-11, 0, q_setFt (q_setFt T 0) 1, fun d m hC => ⟨z_up (z_up m 0 10 0) 0 10 1, ?_, q_setFt_C (c0 m hC) h6 1, fun a ha => (z_up_ne (by omega)).trans (z_up_ne (by omega))⟩, fun d m hM => ⟨z_up (z_up m 59 0 0) 59 0 1, ?_, q_setFt_M (m0 m hM) 1, fun a ha => (z_up_ne (by omega)).trans (z_up_ne (by omega))⟩, hok⟩
      · rw [cpre d m hC, hq]
        simp only [Bool.false_eq_true, if_false]
        rw [if_neg (by decide), show (-10 : Int32) - 1 = -11 from by decide]
      · rw [mpre d m hM, hq]
        simp only [Bool.false_eq_true, if_false]
    | true =>
      by_cases hv : q_v (T.2.2.2.2.2.1 k) y = true
      · obtain ⟨i, hi, rfl⟩ := q_v_t hv (by omega)
        have hi60 : i < 60 := by omega
        refine ⟨1, 0, q_setCe (q_setFt T 0) k i (q_cut (T.2.2.2.2.1 k) v), fun d m hC => ⟨z_up (z_up m 0 10 0) (52 + 2 * k) i (q_cut (T.2.2.2.2.1 k) v), ?_, q_setCe_C (c0 m hC) h6 hk _, fun a ha => (z_up_ne (by omega)).trans (z_up_ne (by omega))⟩, fun d m hM => ⟨z_up (z_up m 59 0 0) 62 (60 * k + i) (q_cut (T.2.2.2.2.1 k) v), ?_, q_setCe_M (m0 m hM) hk hi60 _, fun a ha => (z_up_ne (by omega)).trans (z_up_ne (by omega))⟩, hok⟩
        · rw [cpre d m hC, hq]
          simp only [if_true]
          rw [if_pos (by rw [if_pos hv]), k_write (c0 m hC) hok.2.2 hk hi60]
          rfl
        · rw [mpre d m hM, hq]
          simp only [if_true]
          rw [if_pos hv, q_ix, q_in (show 60 * k + i < 240 by omega) (by decide), z_g_t, z_g_t, z_g_t, q_cl (by omega)]
          unfold q_cut
          split
          · rfl
          · split <;> rfl
      · refine ⟨-13, 0, q_setFt (q_setFt T 0) 3, fun d m hC => ⟨z_up (z_up m 0 10 0) 0 10 3, ?_, q_setFt_C (c0 m hC) h6 3, fun a ha => (z_up_ne (by omega)).trans (z_up_ne (by omega))⟩, fun d m hM => ⟨z_up (z_up m 59 0 0) 59 0 3, ?_, q_setFt_M (m0 m hM) 3, fun a ha => (z_up_ne (by omega)).trans (z_up_ne (by omega))⟩, hok⟩
        · rw [cpre d m hC, hq]
          simp only [if_true]
          rw [if_neg hv, if_neg (by decide), show (-10 : Int32) - 3 = -13 from by decide]
        · rw [mpre d m hM, hq]
          simp only [if_true]
          rw [if_neg hv]
  · refine ⟨-1, 0, q_setFt T 0, fun d m hC => ⟨z_up m 0 10 0, ?_, c0 m hC, fun a ha => z_up_ne (by omega)⟩, fun d m hM => ⟨z_up m 59 0 0, ?_, m0 m hM, fun a ha => z_up_ne (by omega)⟩, hok⟩
    · rw [c_X9_put, k_isSheet]
      simp only [Option.bind_some, q_if]
      rw [if_neg hw]
    · rw [c_X10_put, k_misSheet]
      simp only [Option.bind_some, q_if]
      rw [if_neg hw]
end
section
theorem p_cell (x y z : Int32) : q_pr 86 167 [.int x, .int y, .int z] := by
  intro T hok
  have h6 := hok.1.2.1
  have c0 : ∀ m : z_M, q_C m T → q_C (z_up m 0 10 0) (q_setFt T 0) := fun m hC => q_setFt_C hC h6 0
  have m0 : ∀ m : z_M, q_M m T → q_M (z_up m 59 0 0) (q_setFt T 0) := fun m hM => q_setFt_M hM 0
  by_cases hw : q_w 0 3 x = true
  · by_cases hz : q_w 0 2 z = true
    · obtain ⟨k, -, hk3, rfl⟩ := q_w_nI (a := 0) (b := 3) hw (by decide) (by decide)
      have hk : k < 4 := by omega
      obtain ⟨hl2, hl60⟩ := hok.2.2 k hk
      have cpre : ∀ (d : Nat) (m : z_M), q_C m T → z_go z_SH z_P (d + 20) 86 [.ref 0, .int (nI k), .int y, .int z] m = if T.2.2.2.1 k = true then (if nI (T.2.2.2.2.1 k) = z then (if q_v (T.2.2.2.2.2.1 k) y = true then z_g (z_ina z_SH (52 + 2 * k) 0 y) (some (0, (z_up m 0 10 0 (52 + 2 * k) y.toNatClampNeg).toInt64, z_up m 0 10 0)) else some (0, z_lost, z_up (z_up m 0 10 0) 0 10 3)) else some (0, z_lost, z_up (z_up m 0 10 0) 0 10 2)) else some (0, z_lost, z_up (z_up m 0 10 0) 0 10 1) := by
        intro d m hC
        rw [c_X9_cell, k_isSheet]
        simp only [Option.bind_some, q_if]
        rw [if_pos hw, k_within]
        simp only [Option.bind_some, q_if]
        rw [if_pos hz]
        simp only [q_in hk (show 4 < 2147483648 by decide), z_g_t, q_cl (show k < 2147483648 by omega), (q_s hk).1, (q_s hk).2.2.2.2.1]
        rw [k_faultAs (c0 m hC) hok.2.2 hk]
        simp only [Option.bind_some]
        rw [k_faultAt (c0 m hC) hok.2.2 hk]
        simp only [Option.bind_some]
        show (if (if T.2.2.2.1 k = true then (if nI (T.2.2.2.2.1 k) = z then 0 else 2) else 1) = (0 : Int32) then (if (if T.2.2.2.1 k = true then (if q_v (T.2.2.2.2.2.1 k) y = true then 0 else 3) else 1) = (0 : Int32) then _ else _) else _) = _
        cases hq : T.2.2.2.1 k with
        | false =>
          have hq' : (q_setFt T 0).2.2.2.1 k = false := hq
          simp [hq']
        | true =>
          have hq' : (q_setFt T 0).2.2.2.1 k = true := hq
          simp only [hq', if_true]
          by_cases h1 : nI (T.2.2.2.2.1 k) = z
          · have h1' : nI ((q_setFt T 0).2.2.2.2.1 k) = z := h1
            simp only [h1, h1', if_true]
            by_cases h2 : q_v (T.2.2.2.2.2.1 k) y = true
            · have h2' : q_v ((q_setFt T 0).2.2.2.2.2.1 k) y = true := h2
              simp only [h2, h2', if_true]
            · have h2' : ¬ q_v ((q_setFt T 0).2.2.2.2.2.1 k) y = true := h2
              simp only [h2, h2', if_false]
              rw [if_neg (by decide)]
              rfl
          · have h1' : ¬ nI ((q_setFt T 0).2.2.2.2.1 k) = z := h1
            simp only [h1, h1', if_false]
            rw [if_neg (by decide), if_neg (by decide)]
      have mpre : ∀ (d : Nat) (m : z_M), q_M m T → z_go z_SH z_P (d + 20) 167 [.ref 59, .int (nI k), .int y, .int z] m = if T.2.2.2.1 k = true then (if nI (T.2.2.2.2.1 k) = z then (if q_v (T.2.2.2.2.2.1 k) y = true then z_g (z_in 240 (60 * nI k + y)) (some (0, (z_up m 59 0 0 62 (60 * nI k + y).toNatClampNeg).toInt64, z_up m 59 0 0)) else some (0, z_lost, z_up (z_up m 59 0 0) 59 0 3)) else some (0, z_lost, z_up (z_up m 59 0 0) 59 0 2)) else some (0, z_lost, z_up (z_up m 59 0 0) 59 0 1) := by
        intro d m hM
        obtain ⟨r1, r2, r3⟩ := (m0 m hM).2.2.2 k hk
        have r1 : z_up m 59 0 0 60 k = (if T.2.2.2.1 k = true then nI (T.2.2.2.2.1 k) else -9) := r1
        have r2 : z_up m 59 0 0 61 k = nI (T.2.2.2.2.2.1 k) := r2
        rw [c_X10_cell, k_misSheet]
        simp only [Option.bind_some, q_if]
        rw [if_pos hw, k_misSort]
        simp only [Option.bind_some, q_if]
        rw [if_pos hz]
        simp only [q_in hk (show 4 < 2147483648 by decide), z_g_t, q_cl (show k < 2147483648 by omega), r1, r2]
        rw [k_mwithin, q_w_len hl60]
        simp only [Option.bind_some, q_if]
        simp only [c_X10_lost, Option.bind_some]
        cases hq : T.2.2.2.1 k with
        | false => simp
        | true =>
          simp only [if_true, if_neg (q_n9 _ hl2)]
      cases hq : T.2.2.2.1 k with
      | false =>
        refine ⟨0, z_lost, q_setFt (q_setFt T 0) 1, fun d m hC => ⟨z_up (z_up m 0 10 0) 0 10 1, ?_, q_setFt_C (c0 m hC) h6 1, fun a ha => (z_up_ne (by omega)).trans (z_up_ne (by omega))⟩, fun d m hM => ⟨z_up (z_up m 59 0 0) 59 0 1, ?_, q_setFt_M (m0 m hM) 1, fun a ha => (z_up_ne (by omega)).trans (z_up_ne (by omega))⟩, hok⟩
        · rw [cpre d m hC, hq, if_neg (by decide)]
        · rw [mpre d m hM, hq, if_neg (by decide)]
      | true =>
        by_cases h1 : nI (T.2.2.2.2.1 k) = z
        · by_cases h2 : q_v (T.2.2.2.2.2.1 k) y = true
          · obtain ⟨i, hi, rfl⟩ := q_v_t h2 (by omega)
            have hi60 : i < 60 := by omega
            refine ⟨0, (T.2.2.2.2.2.2 k i).toInt64, q_setFt T 0, fun d m hC => ⟨z_up m 0 10 0, ?_, c0 m hC, fun a ha => z_up_ne (by omega)⟩, fun d m hM => ⟨z_up m 59 0 0, ?_, m0 m hM, fun a ha => z_up_ne (by omega)⟩, hok⟩
            · rw [cpre d m hC, if_pos hq, if_pos h1, if_pos h2, q_sa hk hi60, z_g_t, q_cl (by omega), show z_up m 0 10 0 (52 + 2 * k) i = T.2.2.2.2.2.2 k i from ((c0 m hC).2.2.2 k hk).2.2.2 i hi60]
            · rw [mpre d m hM, if_pos hq, if_pos h1, if_pos h2, q_ix, q_in (show 60 * k + i < 240 by omega) (by decide), z_g_t, q_cl (by omega), show z_up m 59 0 0 62 (60 * k + i) = T.2.2.2.2.2.2 k i from ((m0 m hM).2.2.2 k hk).2.2 i hi60]
          · refine ⟨0, z_lost, q_setFt (q_setFt T 0) 3, fun d m hC => ⟨z_up (z_up m 0 10 0) 0 10 3, ?_, q_setFt_C (c0 m hC) h6 3, fun a ha => (z_up_ne (by omega)).trans (z_up_ne (by omega))⟩, fun d m hM => ⟨z_up (z_up m 59 0 0) 59 0 3, ?_, q_setFt_M (m0 m hM) 3, fun a ha => (z_up_ne (by omega)).trans (z_up_ne (by omega))⟩, hok⟩
            · rw [cpre d m hC, if_pos hq, if_pos h1, if_neg h2]
            · rw [mpre d m hM, if_pos hq, if_pos h1, if_neg h2]
        · refine ⟨0, z_lost, q_setFt (q_setFt T 0) 2, fun d m hC => ⟨z_up (z_up m 0 10 0) 0 10 2, ?_, q_setFt_C (c0 m hC) h6 2, fun a ha => (z_up_ne (by omega)).trans (z_up_ne (by omega))⟩, fun d m hM => ⟨z_up (z_up m 59 0 0) 59 0 2, ?_, q_setFt_M (m0 m hM) 2, fun a ha => (z_up_ne (by omega)).trans (z_up_ne (by omega))⟩, hok⟩
          · rw [cpre d m hC, if_pos hq, if_neg h1]
          · rw [mpre d m hM, if_pos hq, if_neg h1]
    · refine ⟨0, z_lost, q_setFt T 0, fun d m hC => ⟨z_up m 0 10 0, ?_, c0 m hC, fun a ha => z_up_ne (by omega)⟩, fun d m hM => ⟨z_up m 59 0 0, ?_, m0 m hM, fun a ha => z_up_ne (by omega)⟩, hok⟩
      · rw [c_X9_cell, k_isSheet]
        simp only [Option.bind_some, q_if]
        rw [if_pos hw, k_within]
        simp only [Option.bind_some, q_if]
        rw [if_neg hz]
      · rw [c_X10_cell, k_misSheet]
        simp only [Option.bind_some, q_if]
        rw [if_pos hw, k_misSort]
        simp only [Option.bind_some, q_if]
        rw [if_neg hz]
  · refine ⟨0, z_lost, q_setFt T 0, fun d m hC => ⟨z_up m 0 10 0, ?_, c0 m hC, fun a ha => z_up_ne (by omega)⟩, fun d m hM => ⟨z_up m 59 0 0, ?_, m0 m hM, fun a ha => z_up_ne (by omega)⟩, hok⟩
    · rw [c_X9_cell, k_isSheet]
      simp only [Option.bind_some, q_if]
      rw [if_neg hw]
    · rw [c_X10_cell, k_misSheet]
      simp only [Option.bind_some, q_if]
      rw [if_neg hw]
/-! 23 sheet -/
def q_row (T : q_T) (k ln n : Nat) (g : Nat → Int32) : q_T := (T.1, T.2.1, T.2.2.1, ((fun j => if j = k then true else T.2.2.2.1 j), (fun j => if j = k then ln else T.2.2.2.2.1 j), (fun j => if j = k then n else T.2.2.2.2.2.1 j), (fun j i => if j = k then g i else T.2.2.2.2.2.2 j i)))
theorem k_renew (d k : Nat) (hk : k < 4) : ∀ (n F i : Nat) (m : z_M), i + n = 60 → ∃ m1, z_lp z_SH 0 (fun _ => 0) (z_go z_SH z_P d) me_X4_renew (F + n + 1) 17 [some (.ref (51 + 2 * k)), none, none, some (.int (nI i))] [] m = some (0, 0, m1) ∧ (∀ j, i ≤ j → j < 60 → m1 (52 + 2 * k) j = 0) ∧ (∀ j, j < i → m1 (52 + 2 * k) j = m (52 + 2 * k) j) ∧ ∀ a, a ≠ 52 + 2 * k → m1 a = m a := by
  intro n
  induction n with
  | zero =>
    intro F i m h
    refine ⟨m, ?_, fun j h1 h2 => by omega, fun _ _ => rfl, fun _ _ => rfl⟩
    rw [e_X4_renew_17 _ _ _ _ (q_s hk).2.2.2.2.2, show (60 : Int32) = nI 60 from rfl, q_nI_le (by decide) (by omega), if_pos (by omega)]
  | succ n ih =>
    intro F i m h
    obtain ⟨m1, e1, g1, g2, g3⟩ := ih F (i + 1) (z_up m (52 + 2 * k) i 0) (by omega)
    refine ⟨m1, ?_, fun j h1 h2 => ?_, fun j hj => ?_, fun a ha => (g3 a ha).trans (z_up_ne ha)⟩
    · rw [show F + (n + 1) + 1 = (F + n + 1) + 1 by omega, e_X4_renew_17 _ _ _ _ (q_s hk).2.2.2.2.2, show (60 : Int32) = nI 60 from rfl, q_nI_le (by decide) (by omega), if_neg (by omega), q_in (show i < 60 by omega) (by decide), z_g_t, q_cl (by omega), nI_1, show 51 + 2 * k + 1 = 52 + 2 * k by omega]
      exact e1
    · by_cases hq : j = i
      · subst hq
        rw [g2 j (by omega), q_uq]
      · exact g1 j (by omega) h2
    · rw [g2 j (by omega), q_uk (by omega)]
theorem k_msheet (d k : Nat) (hk : k < 4) : ∀ (n F i : Nat) (m : z_M), i + n = 60 → ∃ m1, z_lp z_SH 0 (fun _ => 0) (z_go z_SH z_P d) me_X10_sheet (F + n + 1) 57 [some (.ref 59), some (.int (nI k)), none, none, some (.int (nI i))] [] m = some (1, 0, m1) ∧ (∀ j, i ≤ j → j < 60 → m1 62 (60 * k + j) = 0) ∧ (∀ q, (q < 60 * k + i ∨ 60 * k + 60 ≤ q) → m1 62 q = m 62 q) ∧ ∀ a, a ≠ 62 → m1 a = m a := by
  intro n
  induction n with
  | zero =>
    intro F i m h
    refine ⟨m, ?_, fun j h1 h2 => by omega, fun _ _ => rfl, fun _ _ => rfl⟩
    rw [e_X10_sheet_57, show (60 : Int32) = nI 60 from rfl, q_nI_le (by decide) (by omega), if_pos (by omega)]
  | succ n ih =>
    intro F i m h
    obtain ⟨m1, e1, g1, g2, g3⟩ := ih F (i + 1) (z_up m 62 (60 * k + i) 0) (by omega)
    refine ⟨m1, ?_, fun j h1 h2 => ?_, fun q hq => ?_, fun a ha => (g3 a ha).trans (z_up_ne ha)⟩
    · rw [show F + (n + 1) + 1 = (F + n + 1) + 1 by omega, e_X10_sheet_57, q_ix, show (60 : Int32) = nI 60 from rfl, q_nI_le (by decide) (by omega), if_neg (by omega), q_in (show 60 * k + i < 240 by omega) (by decide), z_g_t, q_cl (by omega), nI_1]
      exact e1
    · by_cases hq : j = i
      · subst hq
        rw [g2 _ (by omega), q_uq]
      · exact g1 j (by omega) h2
    · rw [g2 q (by omega), q_uk (by omega)]
theorem p_sheet (x y z : Int32) : q_pr 83 164 [.int x, .int y, .int z] := by
  intro T hok
  have h6 := hok.1.2.1
  have c0 : ∀ m : z_M, q_C m T → q_C (z_up m 0 10 0) (q_setFt T 0) := fun m hC => q_setFt_C hC h6 0
  have m0 : ∀ m : z_M, q_M m T → q_M (z_up m 59 0 0) (q_setFt T 0) := fun m hM => q_setFt_M hM 0
  by_cases hw : q_w 0 3 x = true
  · by_cases hy : q_w 0 2 y = true
    · by_cases h1 : z ≤ 60
      · by_cases h2 : 0 ≤ z
        · obtain ⟨k, -, hk3, rfl⟩ := q_w_nI (a := 0) (b := 3) hw (by decide) (by decide)
          obtain ⟨ln, -, hln, rfl⟩ := q_w_nI (a := 0) (b := 2) hy (by decide) (by decide)
          obtain ⟨n, -, hn, rfl⟩ : ∃ v, 0 ≤ v ∧ v ≤ 60 ∧ z = nI v := q_w_nI (a := 0) (b := 60) (by unfold q_w; simp only [Bool.and_eq_true, decide_eq_true_eq]; exact ⟨h2, h1⟩) (by decide) (by decide)
          have hk : k < 4 := by omega
          refine ⟨1, 0, q_row (q_setFt T 0) k ln n (fun _ => 0), fun d m hC => ?_, fun d m hM => ?_, ?_⟩
          · obtain ⟨m1, e1, g1, -, g3⟩ := k_renew (d + 18) k hk 60 (199999 - 61) 0 (z_up (z_up (z_up (z_up m 0 10 0) (51 + 2 * k) 1 1) (51 + 2 * k) 2 (nI ln)) (51 + 2 * k) 3 (nI n)) (by decide)
            have fr : ∀ a, a ≠ 51 + 2 * k → a ≠ 52 + 2 * k → m1 a = z_up m 0 10 0 a := fun a ha hb => by rw [g3 a hb, z_up_ne ha, z_up_ne ha, z_up_ne ha]
            refine ⟨m1, ?_, ?_, fun a ha => (fr a (by omega) (by omega)).trans (z_up_ne (by omega))⟩
            · rw [c_X9_sheet, k_isSheet]
              simp only [Option.bind_some, q_if]
              rw [if_pos hw, k_within]
              simp only [Option.bind_some, q_if]
              rw [if_pos hy, if_pos h1, if_pos h2]
              simp only [q_in hk (show 4 < 2147483648 by decide), z_g_t, q_cl (show k < 2147483648 by omega), (q_s hk).1]
              rw [c_X4_renew _ (q_s hk).2.2.2.2.2]
              have e1 : z_lp z_SH 0 (fun _ => 0) (z_go z_SH z_P (d + 18)) me_X4_renew 199999 17 [some (.ref (51 + 2 * k)), none, none, some (.int 0)] [] (z_up (z_up (z_up (z_up m 0 10 0) (51 + 2 * k) 1 1) (51 + 2 * k) 2 (nI ln)) (51 + 2 * k) 3 (nI n)) = some (0, 0, m1) := e1
              rw [e1]
              rfl
            · have hc := c0 m hC
              refine ⟨hc.1.of (fr 0 (by omega) (by omega)) (fr 2 (by omega) (by omega)), hc.2.1.of h6 (fun a h1 h2 => fr a (by omega) (by omega)), hc.2.2.1.of (fun a h1 h2 => fr a (by omega) (by omega)), fun j hj => ?_⟩
              show z_b (m1 (51 + 2 * j) 1) = q_b (if j = k then true else T.2.2.2.1 j) ∧ m1 (51 + 2 * j) 2 = nI (if j = k then ln else T.2.2.2.2.1 j) ∧ m1 (51 + 2 * j) 3 = nI (if j = k then n else T.2.2.2.2.2.1 j) ∧ ∀ i, i < 60 → m1 (52 + 2 * j) i = if j = k then 0 else T.2.2.2.2.2.2 j i
              by_cases hq : j = k
              · subst hq
                simp only [if_true]
                rw [g3 (51 + 2 * j) (by omega)]
                exact ⟨by rw [q_uk (by decide), q_uk (by decide), q_uq]; rfl, by rw [q_uk (by decide), q_uq], by rw [q_uq], fun i hi => g1 i (by omega) hi⟩
              · simp only [hq, if_false]
                rw [fr (51 + 2 * j) (by omega) (by omega), fr (52 + 2 * j) (by omega) (by omega)]
                exact hc.2.2.2 j hj
          · obtain ⟨m1, e1, g1, g2, g3⟩ := k_msheet (d + 19) k hk 60 (199999 - 61) 0 (z_up (z_up (z_up m 59 0 0) 60 k (nI ln)) 61 k (nI n)) (by decide)
            refine ⟨m1, ?_, ?_, fun a ha => by rw [g3 a (by omega), z_up_ne (by omega), z_up_ne (by omega), z_up_ne (by omega)]⟩
            · rw [c_X10_sheet, k_misSheet]
              simp only [Option.bind_some, q_if]
              rw [if_pos hw, k_misSort]
              simp only [Option.bind_some, q_if]
              rw [if_pos hy, if_pos h1, if_pos h2]
              simp only [q_in hk (show 4 < 2147483648 by decide), z_g_t, q_cl (show k < 2147483648 by omega)]
              exact e1
            · have hc := m0 m hM
              have fr : ∀ a, a ≠ 60 → a ≠ 61 → a ≠ 62 → m1 a = z_up m 59 0 0 a := fun a h1 h2 h3 => by rw [g3 a h3, z_up_ne h2, z_up_ne h1]
              refine ⟨hc.1.of (by rw [fr 59 (by decide) (by decide) (by decide)]) (by rw [fr 59 (by decide) (by decide) (by decide)]) (by rw [fr 59 (by decide) (by decide) (by decide)]), hc.2.1.of (by rw [fr 59 (by decide) (by decide) (by decide)]) (by rw [fr 59 (by decide) (by decide) (by decide)]) (by rw [fr 59 (by decide) (by decide) (by decide)]) (by rw [fr 59 (by decide) (by decide) (by decide)]) (fun a h1 h2 => fr a (by omega) (by omega) (by omega)), hc.2.2.1.of (by rw [fr 59 (by decide) (by decide) (by decide)]) (fun a h1 h2 => fr a (by omega) (by omega) (by omega)), fun j hj => ?_⟩
              show m1 60 j = (if (if j = k then true else T.2.2.2.1 j) = true then nI (if j = k then ln else T.2.2.2.2.1 j) else -9) ∧ m1 61 j = nI (if j = k then n else T.2.2.2.2.2.1 j) ∧ ∀ i, i < 60 → m1 62 (60 * j + i) = if j = k then 0 else T.2.2.2.2.2.2 j i
              obtain ⟨r1, r2, r3⟩ := hc.2.2.2 j hj
              rw [g3 60 (by decide), g3 61 (by decide)]
              by_cases hq : j = k
              · subst hq
                simp only [if_true]
                exact ⟨by rw [q_ua (by decide), q_uq], by rw [q_uq], fun i hi => g1 i (by omega) hi⟩
              · simp only [hq, if_false]
                refine ⟨by rw [q_ua (by decide), q_uk hq]; exact r1, by rw [q_uk hq, q_ua (by decide)]; exact r2, fun i hi => ?_⟩
                rw [g2 (60 * j + i) (by omega), q_ua (by decide), q_ua (by decide)]
                exact r3 i hi
          · refine ⟨hok.1, hok.2.1, fun j hj => ?_⟩
            show (if j = k then ln else T.2.2.2.2.1 j) ≤ 2 ∧ (if j = k then n else T.2.2.2.2.2.1 j) ≤ 60
            by_cases hq : j = k
            · rw [if_pos hq, if_pos hq]
              exact ⟨hln, hn⟩
            · rw [if_neg hq, if_neg hq]
              exact hok.2.2 j hj
        · refine ⟨-14, 0, q_setFt (q_setFt T 0) 4, fun d m hC => ⟨z_up (z_up m 0 10 0) 0 10 4, ?_, q_setFt_C (c0 m hC) h6 4, fun a ha => (z_up_ne (by omega)).trans (z_up_ne (by omega))⟩, fun d m hM => ⟨z_up (z_up m 59 0 0) 59 0 4, ?_, q_setFt_M (m0 m hM) 4, fun a ha => (z_up_ne (by omega)).trans (z_up_ne (by omega))⟩, hok⟩
          · rw [c_X9_sheet, k_isSheet]
            simp only [Option.bind_some, q_if]
            rw [if_pos hw, k_within]
            simp only [Option.bind_some, q_if]
            rw [if_pos hy, if_pos h1, if_neg h2, c_X9_failed]
            rfl
          · rw [c_X10_sheet, k_misSheet]
            simp only [Option.bind_some, q_if]
            rw [if_pos hw, k_misSort]
            simp only [Option.bind_some, q_if]
            rw [if_pos hy, if_pos h1, if_neg h2, c_X10_fails]
            rfl
      · refine ⟨-2, 0, q_setFt T 0, fun d m hC => ⟨z_up m 0 10 0, ?_, c0 m hC, fun a ha => z_up_ne (by omega)⟩, fun d m hM => ⟨z_up m 59 0 0, ?_, m0 m hM, fun a ha => z_up_ne (by omega)⟩, hok⟩
        · rw [c_X9_sheet, k_isSheet]
          simp only [Option.bind_some, q_if]
          rw [if_pos hw, k_within]
          simp only [Option.bind_some, q_if]
          rw [if_pos hy, if_neg h1]
        · rw [c_X10_sheet, k_misSheet]
          simp only [Option.bind_some, q_if]
          rw [if_pos hw, k_misSort]
          simp only [Option.bind_some, q_if]
          rw [if_pos hy, if_neg h1]
    · refine ⟨-2, 0, q_setFt T 0, fun d m hC => ⟨z_up m 0 10 0, ?_, c0 m hC, fun a ha => z_up_ne (by omega)⟩, fun d m hM => ⟨z_up m 59 0 0, ?_, m0 m hM, fun a ha => z_up_ne (by omega)⟩, hok⟩
      · rw [c_X9_sheet, k_isSheet]
        simp only [Option.bind_some, q_if]
        rw [if_pos hw, k_within]
        simp only [Option.bind_some, q_if]
        rw [if_neg hy]
      · rw [c_X10_sheet, k_misSheet]
        simp only [Option.bind_some, q_if]
        rw [if_pos hw, k_misSort]
        simp only [Option.bind_some, q_if]
        rw [if_neg hy]
  · refine ⟨-1, 0, q_setFt T 0, fun d m hC => ⟨z_up m 0 10 0, ?_, c0 m hC, fun a ha => z_up_ne (by omega)⟩, fun d m hM => ⟨z_up m 59 0 0, ?_, m0 m hM, fun a ha => z_up_ne (by omega)⟩, hok⟩
    · rw [c_X9_sheet, k_isSheet]
      simp only [Option.bind_some, q_if]
      rw [if_neg hw]
    · rw [c_X10_sheet, k_misSheet]
      simp only [Option.bind_some, q_if]
      rw [if_neg hw]
end
section
theorem zz_end : True := trivial
end
