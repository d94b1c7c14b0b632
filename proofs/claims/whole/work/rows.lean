section
-- ===== PART A: goes FIRST, ahead of the names: the tables' words, and 'selects' of the private methods out of them =====
/-- a private method of a class that the tables say can be made, by its rows of tables_1 -/
def lw_okq (q : MethodName × Nat) : Prop := (q.1.cls ≠ "java/lang/invoke/MethodHandle" ∧ q.1.cls ≠ "java/lang/invoke/VarHandle") ∧ Cond.instantiable q.1.cls q.2 ∈ tables_1 ∧ Cond.privateMethod q.1 ∈ tables_1 ∧ Cond.instanceMethod q.1 ∈ tables_1
theorem lw_p0 : lw_okq (⟨"TrickHouses", "sheetOf", "(I)LTrickHouses$Sheet;"⟩, 9) := ⟨⟨by decide +kernel, by decide +kernel⟩, List.mem_of_getElem? (i := 15) (by decide +kernel), List.mem_of_getElem? (i := 283) (by decide +kernel), List.mem_of_getElem? (i := 284) (by decide +kernel)⟩
theorem lw_p1 : lw_okq (⟨"TrickHouses", "failed", "(I)I"⟩, 9) := ⟨⟨by decide +kernel, by decide +kernel⟩, List.mem_of_getElem? (i := 15) (by decide +kernel), List.mem_of_getElem? (i := 298) (by decide +kernel), List.mem_of_getElem? (i := 299) (by decide +kernel)⟩
theorem lw_p2 : lw_okq (⟨"TrickHouses$Text", "codeAt", "(I)I"⟩, 4) := ⟨⟨by decide +kernel, by decide +kernel⟩, List.mem_of_getElem? (i := 49) (by decide +kernel), List.mem_of_getElem? (i := 313) (by decide +kernel), List.mem_of_getElem? (i := 314) (by decide +kernel)⟩
theorem lw_p3 : lw_okq (⟨"TrickHouses$Text", "goodOfHouse", "(I)I"⟩, 4) := ⟨⟨by decide +kernel, by decide +kernel⟩, List.mem_of_getElem? (i := 49) (by decide +kernel), List.mem_of_getElem? (i := 318) (by decide +kernel), List.mem_of_getElem? (i := 319) (by decide +kernel)⟩
theorem lw_p4 : lw_okq (⟨"TrickHouses$Text", "kindAt", "(I)I"⟩, 4) := ⟨⟨by decide +kernel, by decide +kernel⟩, List.mem_of_getElem? (i := 49) (by decide +kernel), List.mem_of_getElem? (i := 322) (by decide +kernel), List.mem_of_getElem? (i := 323) (by decide +kernel)⟩
theorem lw_p5 : lw_okq (⟨"TrickHouses$Text", "digitAt", "(I)I"⟩, 4) := ⟨⟨by decide +kernel, by decide +kernel⟩, List.mem_of_getElem? (i := 49) (by decide +kernel), List.mem_of_getElem? (i := 326) (by decide +kernel), List.mem_of_getElem? (i := 327) (by decide +kernel)⟩
theorem lw_p6 : lw_okq (⟨"TrickHouses$Text", "goodOfGuest", "(I)I"⟩, 4) := ⟨⟨by decide +kernel, by decide +kernel⟩, List.mem_of_getElem? (i := 49) (by decide +kernel), List.mem_of_getElem? (i := 330) (by decide +kernel), List.mem_of_getElem? (i := 331) (by decide +kernel)⟩
theorem lw_p7 : lw_okq (⟨"TrickHouses$Text", "placeOfHouse", "(I)I"⟩, 4) := ⟨⟨by decide +kernel, by decide +kernel⟩, List.mem_of_getElem? (i := 49) (by decide +kernel), List.mem_of_getElem? (i := 342) (by decide +kernel), List.mem_of_getElem? (i := 343) (by decide +kernel)⟩
theorem lw_p8 : lw_okq (⟨"TrickHouses", "refusalOfPairs", "(LTrickHouses$Sheet;II)I"⟩, 9) := ⟨⟨by decide +kernel, by decide +kernel⟩, List.mem_of_getElem? (i := 15) (by decide +kernel), List.mem_of_getElem? (i := 395) (by decide +kernel), List.mem_of_getElem? (i := 396) (by decide +kernel)⟩
theorem lw_p9 : lw_okq (⟨"TrickHouses$Walk", "enter", "(II)Z"⟩, 6) := ⟨⟨by decide +kernel, by decide +kernel⟩, List.mem_of_getElem? (i := 117) (by decide +kernel), List.mem_of_getElem? (i := 418) (by decide +kernel), List.mem_of_getElem? (i := 419) (by decide +kernel)⟩
theorem lw_p10 : lw_okq (⟨"TrickHouses", "ofVisits", "(I)I"⟩, 9) := ⟨⟨by decide +kernel, by decide +kernel⟩, List.mem_of_getElem? (i := 15) (by decide +kernel), List.mem_of_getElem? (i := 423) (by decide +kernel), List.mem_of_getElem? (i := 424) (by decide +kernel)⟩
theorem lw_p11 : lw_okq (⟨"TrickHouses", "isOrder", "(LTrickHouses$Sheet;II)Z"⟩, 9) := ⟨⟨by decide +kernel, by decide +kernel⟩, List.mem_of_getElem? (i := 15) (by decide +kernel), List.mem_of_getElem? (i := 431) (by decide +kernel), List.mem_of_getElem? (i := 432) (by decide +kernel)⟩
theorem lw_p12 : lw_okq (⟨"TrickHouses$Search", "goInOrder", "()I"⟩, 8) := ⟨⟨by decide +kernel, by decide +kernel⟩, List.mem_of_getElem? (i := 149) (by decide +kernel), List.mem_of_getElem? (i := 479) (by decide +kernel), List.mem_of_getElem? (i := 480) (by decide +kernel)⟩
theorem lw_p13 : lw_okq (⟨"TrickHouses$Search", "keep", "(I)V"⟩, 8) := ⟨⟨by decide +kernel, by decide +kernel⟩, List.mem_of_getElem? (i := 149) (by decide +kernel), List.mem_of_getElem? (i := 486) (by decide +kernel), List.mem_of_getElem? (i := 487) (by decide +kernel)⟩
theorem lw_p14 : lw_okq (⟨"TrickHouses$Orders", "lastRise", "()I"⟩, 2) := ⟨⟨by decide +kernel, by decide +kernel⟩, List.mem_of_getElem? (i := 155) (by decide +kernel), List.mem_of_getElem? (i := 495) (by decide +kernel), List.mem_of_getElem? (i := 496) (by decide +kernel)⟩
theorem lw_p15 : lw_okq (⟨"TrickHouses$Orders", "lastAbove", "(I)I"⟩, 2) := ⟨⟨by decide +kernel, by decide +kernel⟩, List.mem_of_getElem? (i := 155) (by decide +kernel), List.mem_of_getElem? (i := 499) (by decide +kernel), List.mem_of_getElem? (i := 500) (by decide +kernel)⟩
def lw_privs_1 : List (MethodName × Nat) := [(⟨"TrickHouses", "sheetOf", "(I)LTrickHouses$Sheet;"⟩, 9), (⟨"TrickHouses", "failed", "(I)I"⟩, 9), (⟨"TrickHouses$Text", "codeAt", "(I)I"⟩, 4), (⟨"TrickHouses$Text", "goodOfHouse", "(I)I"⟩, 4), (⟨"TrickHouses$Text", "kindAt", "(I)I"⟩, 4), (⟨"TrickHouses$Text", "digitAt", "(I)I"⟩, 4), (⟨"TrickHouses$Text", "goodOfGuest", "(I)I"⟩, 4), (⟨"TrickHouses$Text", "placeOfHouse", "(I)I"⟩, 4), (⟨"TrickHouses", "refusalOfPairs", "(LTrickHouses$Sheet;II)I"⟩, 9), (⟨"TrickHouses$Walk", "enter", "(II)Z"⟩, 6), (⟨"TrickHouses", "ofVisits", "(I)I"⟩, 9), (⟨"TrickHouses", "isOrder", "(LTrickHouses$Sheet;II)Z"⟩, 9), (⟨"TrickHouses$Search", "goInOrder", "()I"⟩, 8), (⟨"TrickHouses$Search", "keep", "(I)V"⟩, 8), (⟨"TrickHouses$Orders", "lastRise", "()I"⟩, 2), (⟨"TrickHouses$Orders", "lastAbove", "(I)I"⟩, 2)]
theorem lw_r1 : ∀ q ∈ lw_privs_1, lw_okq q := List.forall_mem_cons.mpr ⟨lw_p0, List.forall_mem_cons.mpr ⟨lw_p1, List.forall_mem_cons.mpr ⟨lw_p2, List.forall_mem_cons.mpr ⟨lw_p3, List.forall_mem_cons.mpr ⟨lw_p4, List.forall_mem_cons.mpr ⟨lw_p5, List.forall_mem_cons.mpr ⟨lw_p6, List.forall_mem_cons.mpr ⟨lw_p7, List.forall_mem_cons.mpr ⟨lw_p8, List.forall_mem_cons.mpr ⟨lw_p9, List.forall_mem_cons.mpr ⟨lw_p10, List.forall_mem_cons.mpr ⟨lw_p11, List.forall_mem_cons.mpr ⟨lw_p12, List.forall_mem_cons.mpr ⟨lw_p13, List.forall_mem_cons.mpr ⟨lw_p14, List.forall_mem_cons.mpr ⟨lw_p15, fun _ h => absurd h List.not_mem_nil⟩⟩⟩⟩⟩⟩⟩⟩⟩⟩⟩⟩⟩⟩⟩⟩
theorem lw_p16 : lw_okq (⟨"TrickHouses$Orders", "swap", "(II)V"⟩, 2) := ⟨⟨by decide +kernel, by decide +kernel⟩, List.mem_of_getElem? (i := 155) (by decide +kernel), List.mem_of_getElem? (i := 503) (by decide +kernel), List.mem_of_getElem? (i := 504) (by decide +kernel)⟩
theorem lw_p17 : lw_okq (⟨"TrickHouses$Search", "judgeMates", "()V"⟩, 8) := ⟨⟨by decide +kernel, by decide +kernel⟩, List.mem_of_getElem? (i := 149) (by decide +kernel), List.mem_of_getElem? (i := 519) (by decide +kernel), List.mem_of_getElem? (i := 520) (by decide +kernel)⟩
theorem lw_p18 : lw_okq (⟨"TrickHouses$Readings", "allAreSo", "()Z"⟩, 7) := ⟨⟨by decide +kernel, by decide +kernel⟩, List.mem_of_getElem? (i := 220) (by decide +kernel), List.mem_of_getElem? (i := 572) (by decide +kernel), List.mem_of_getElem? (i := 573) (by decide +kernel)⟩
theorem lw_p19 : lw_okq (⟨"TrickHouses", "bodyOfLearning", "(I)I"⟩, 9) := ⟨⟨by decide +kernel, by decide +kernel⟩, List.mem_of_getElem? (i := 15) (by decide +kernel), List.mem_of_getElem? (i := 631) (by decide +kernel), List.mem_of_getElem? (i := 632) (by decide +kernel)⟩
theorem lw_p20 : lw_okq (⟨"TrickHouses", "leave", "(I)V"⟩, 9) := ⟨⟨by decide +kernel, by decide +kernel⟩, List.mem_of_getElem? (i := 15) (by decide +kernel), List.mem_of_getElem? (i := 635) (by decide +kernel), List.mem_of_getElem? (i := 636) (by decide +kernel)⟩
theorem lw_p21 : lw_okq (⟨"TrickHouses", "bodyOfDouble", "(I)I"⟩, 9) := ⟨⟨by decide +kernel, by decide +kernel⟩, List.mem_of_getElem? (i := 15) (by decide +kernel), List.mem_of_getElem? (i := 639) (by decide +kernel), List.mem_of_getElem? (i := 640) (by decide +kernel)⟩
theorem lw_p22 : lw_okq (⟨"TrickHouses", "bodyOfHouse", "(I)I"⟩, 9) := ⟨⟨by decide +kernel, by decide +kernel⟩, List.mem_of_getElem? (i := 15) (by decide +kernel), List.mem_of_getElem? (i := 643) (by decide +kernel), List.mem_of_getElem? (i := 644) (by decide +kernel)⟩
theorem lw_p23 : lw_okq (⟨"TrickHouses", "ownKnock", "()I"⟩, 9) := ⟨⟨by decide +kernel, by decide +kernel⟩, List.mem_of_getElem? (i := 15) (by decide +kernel), List.mem_of_getElem? (i := 651) (by decide +kernel), List.mem_of_getElem? (i := 652) (by decide +kernel)⟩
theorem lw_p24 : lw_okq (⟨"TrickHouses", "lentKnock", "(I)I"⟩, 9) := ⟨⟨by decide +kernel, by decide +kernel⟩, List.mem_of_getElem? (i := 15) (by decide +kernel), List.mem_of_getElem? (i := 655) (by decide +kernel), List.mem_of_getElem? (i := 656) (by decide +kernel)⟩
theorem lw_p25 : lw_okq (⟨"TrickHousesModel", "against", "(IIII)I"⟩, 26) := ⟨⟨by decide +kernel, by decide +kernel⟩, List.mem_of_getElem? (i := 675) (by decide +kernel), List.mem_of_getElem? (i := 773) (by decide +kernel), List.mem_of_getElem? (i := 774) (by decide +kernel)⟩
theorem lw_p26 : lw_okq (⟨"TrickHousesModel", "fails", "(I)I"⟩, 26) := ⟨⟨by decide +kernel, by decide +kernel⟩, List.mem_of_getElem? (i := 675) (by decide +kernel), List.mem_of_getElem? (i := 777) (by decide +kernel), List.mem_of_getElem? (i := 778) (by decide +kernel)⟩
theorem lw_p27 : lw_okq (⟨"TrickHousesModel", "readWay", "(I)Z"⟩, 26) := ⟨⟨by decide +kernel, by decide +kernel⟩, List.mem_of_getElem? (i := 675) (by decide +kernel), List.mem_of_getElem? (i := 781) (by decide +kernel), List.mem_of_getElem? (i := 782) (by decide +kernel)⟩
theorem lw_p28 : lw_okq (⟨"TrickHousesModel", "isSign", "(II)Z"⟩, 26) := ⟨⟨by decide +kernel, by decide +kernel⟩, List.mem_of_getElem? (i := 675) (by decide +kernel), List.mem_of_getElem? (i := 785) (by decide +kernel), List.mem_of_getElem? (i := 786) (by decide +kernel)⟩
theorem lw_p29 : lw_okq (⟨"TrickHousesModel", "readOneHouse", "(I)Z"⟩, 26) := ⟨⟨by decide +kernel, by decide +kernel⟩, List.mem_of_getElem? (i := 675) (by decide +kernel), List.mem_of_getElem? (i := 789) (by decide +kernel), List.mem_of_getElem? (i := 790) (by decide +kernel)⟩
theorem lw_p30 : lw_okq (⟨"TrickHousesModel", "digit", "(III)I"⟩, 26) := ⟨⟨by decide +kernel, by decide +kernel⟩, List.mem_of_getElem? (i := 675) (by decide +kernel), List.mem_of_getElem? (i := 793) (by decide +kernel), List.mem_of_getElem? (i := 794) (by decide +kernel)⟩
theorem lw_p31 : lw_okq (⟨"TrickHousesModel", "readGuest", "(I)Z"⟩, 26) := ⟨⟨by decide +kernel, by decide +kernel⟩, List.mem_of_getElem? (i := 675) (by decide +kernel), List.mem_of_getElem? (i := 797) (by decide +kernel), List.mem_of_getElem? (i := 798) (by decide +kernel)⟩
def lw_privs_2 : List (MethodName × Nat) := [(⟨"TrickHouses$Orders", "swap", "(II)V"⟩, 2), (⟨"TrickHouses$Search", "judgeMates", "()V"⟩, 8), (⟨"TrickHouses$Readings", "allAreSo", "()Z"⟩, 7), (⟨"TrickHouses", "bodyOfLearning", "(I)I"⟩, 9), (⟨"TrickHouses", "leave", "(I)V"⟩, 9), (⟨"TrickHouses", "bodyOfDouble", "(I)I"⟩, 9), (⟨"TrickHouses", "bodyOfHouse", "(I)I"⟩, 9), (⟨"TrickHouses", "ownKnock", "()I"⟩, 9), (⟨"TrickHouses", "lentKnock", "(I)I"⟩, 9), (⟨"TrickHousesModel", "against", "(IIII)I"⟩, 26), (⟨"TrickHousesModel", "fails", "(I)I"⟩, 26), (⟨"TrickHousesModel", "readWay", "(I)Z"⟩, 26), (⟨"TrickHousesModel", "isSign", "(II)Z"⟩, 26), (⟨"TrickHousesModel", "readOneHouse", "(I)Z"⟩, 26), (⟨"TrickHousesModel", "digit", "(III)I"⟩, 26), (⟨"TrickHousesModel", "readGuest", "(I)Z"⟩, 26)]
theorem lw_r2 : ∀ q ∈ lw_privs_2, lw_okq q := List.forall_mem_cons.mpr ⟨lw_p16, List.forall_mem_cons.mpr ⟨lw_p17, List.forall_mem_cons.mpr ⟨lw_p18, List.forall_mem_cons.mpr ⟨lw_p19, List.forall_mem_cons.mpr ⟨lw_p20, List.forall_mem_cons.mpr ⟨lw_p21, List.forall_mem_cons.mpr ⟨lw_p22, List.forall_mem_cons.mpr ⟨lw_p23, List.forall_mem_cons.mpr ⟨lw_p24, List.forall_mem_cons.mpr ⟨lw_p25, List.forall_mem_cons.mpr ⟨lw_p26, List.forall_mem_cons.mpr ⟨lw_p27, List.forall_mem_cons.mpr ⟨lw_p28, List.forall_mem_cons.mpr ⟨lw_p29, List.forall_mem_cons.mpr ⟨lw_p30, List.forall_mem_cons.mpr ⟨lw_p31, fun _ h => absurd h List.not_mem_nil⟩⟩⟩⟩⟩⟩⟩⟩⟩⟩⟩⟩⟩⟩⟩⟩
theorem lw_p32 : lw_okq (⟨"TrickHousesModel", "isHouse", "(I)Z"⟩, 26) := ⟨⟨by decide +kernel, by decide +kernel⟩, List.mem_of_getElem? (i := 675) (by decide +kernel), List.mem_of_getElem? (i := 805) (by decide +kernel), List.mem_of_getElem? (i := 806) (by decide +kernel)⟩
theorem lw_p33 : lw_okq (⟨"TrickHousesModel", "isGuest", "(I)Z"⟩, 26) := ⟨⟨by decide +kernel, by decide +kernel⟩, List.mem_of_getElem? (i := 675) (by decide +kernel), List.mem_of_getElem? (i := 813) (by decide +kernel), List.mem_of_getElem? (i := 814) (by decide +kernel)⟩
theorem lw_p34 : lw_okq (⟨"TrickHousesModel", "used", "(III)I"⟩, 26) := ⟨⟨by decide +kernel, by decide +kernel⟩, List.mem_of_getElem? (i := 675) (by decide +kernel), List.mem_of_getElem? (i := 832) (by decide +kernel), List.mem_of_getElem? (i := 833) (by decide +kernel)⟩
theorem lw_p35 : lw_okq (⟨"TrickHousesModel", "allGuests", "()I"⟩, 26) := ⟨⟨by decide +kernel, by decide +kernel⟩, List.mem_of_getElem? (i := 675) (by decide +kernel), List.mem_of_getElem? (i := 840) (by decide +kernel), List.mem_of_getElem? (i := 841) (by decide +kernel)⟩
theorem lw_p36 : lw_okq (⟨"TrickHousesModel", "visitAll", "(III)I"⟩, 26) := ⟨⟨by decide +kernel, by decide +kernel⟩, List.mem_of_getElem? (i := 675) (by decide +kernel), List.mem_of_getElem? (i := 844) (by decide +kernel), List.mem_of_getElem? (i := 845) (by decide +kernel)⟩
theorem lw_p37 : lw_okq (⟨"TrickHousesModel", "begin", "()V"⟩, 26) := ⟨⟨by decide +kernel, by decide +kernel⟩, List.mem_of_getElem? (i := 675) (by decide +kernel), List.mem_of_getElem? (i := 848) (by decide +kernel), List.mem_of_getElem? (i := 849) (by decide +kernel)⟩
theorem lw_p38 : lw_okq (⟨"TrickHousesModel", "visit", "(II)Z"⟩, 26) := ⟨⟨by decide +kernel, by decide +kernel⟩, List.mem_of_getElem? (i := 675) (by decide +kernel), List.mem_of_getElem? (i := 852) (by decide +kernel), List.mem_of_getElem? (i := 853) (by decide +kernel)⟩
theorem lw_p39 : lw_okq (⟨"TrickHousesModel", "gearOfAll", "(I)I"⟩, 26) := ⟨⟨by decide +kernel, by decide +kernel⟩, List.mem_of_getElem? (i := 675) (by decide +kernel), List.mem_of_getElem? (i := 856) (by decide +kernel), List.mem_of_getElem? (i := 857) (by decide +kernel)⟩
theorem lw_p40 : lw_okq (⟨"TrickHousesModel", "goThrough", "(I)V"⟩, 26) := ⟨⟨by decide +kernel, by decide +kernel⟩, List.mem_of_getElem? (i := 675) (by decide +kernel), List.mem_of_getElem? (i := 864) (by decide +kernel), List.mem_of_getElem? (i := 865) (by decide +kernel)⟩
theorem lw_p41 : lw_okq (⟨"TrickHousesModel", "passesEach", "(I)Z"⟩, 26) := ⟨⟨by decide +kernel, by decide +kernel⟩, List.mem_of_getElem? (i := 675) (by decide +kernel), List.mem_of_getElem? (i := 875) (by decide +kernel), List.mem_of_getElem? (i := 876) (by decide +kernel)⟩
theorem lw_p42 : lw_okq (⟨"TrickHousesModel", "beginRows", "()V"⟩, 26) := ⟨⟨by decide +kernel, by decide +kernel⟩, List.mem_of_getElem? (i := 675) (by decide +kernel), List.mem_of_getElem? (i := 887) (by decide +kernel), List.mem_of_getElem? (i := 888) (by decide +kernel)⟩
theorem lw_p43 : lw_okq (⟨"TrickHousesModel", "goRow", "()V"⟩, 26) := ⟨⟨by decide +kernel, by decide +kernel⟩, List.mem_of_getElem? (i := 675) (by decide +kernel), List.mem_of_getElem? (i := 891) (by decide +kernel), List.mem_of_getElem? (i := 892) (by decide +kernel)⟩
theorem lw_p44 : lw_okq (⟨"TrickHousesModel", "throughNow", "()I"⟩, 26) := ⟨⟨by decide +kernel, by decide +kernel⟩, List.mem_of_getElem? (i := 675) (by decide +kernel), List.mem_of_getElem? (i := 895) (by decide +kernel), List.mem_of_getElem? (i := 896) (by decide +kernel)⟩
theorem lw_p45 : lw_okq (⟨"TrickHousesModel", "nextRow", "()Z"⟩, 26) := ⟨⟨by decide +kernel, by decide +kernel⟩, List.mem_of_getElem? (i := 675) (by decide +kernel), List.mem_of_getElem? (i := 899) (by decide +kernel), List.mem_of_getElem? (i := 900) (by decide +kernel)⟩
theorem lw_p46 : lw_okq (⟨"TrickHousesModel", "swap", "(II)V"⟩, 26) := ⟨⟨by decide +kernel, by decide +kernel⟩, List.mem_of_getElem? (i := 675) (by decide +kernel), List.mem_of_getElem? (i := 903) (by decide +kernel), List.mem_of_getElem? (i := 904) (by decide +kernel)⟩
theorem lw_p47 : lw_okq (⟨"TrickHousesModel", "layMates", "(I)Z"⟩, 26) := ⟨⟨by decide +kernel, by decide +kernel⟩, List.mem_of_getElem? (i := 675) (by decide +kernel), List.mem_of_getElem? (i := 911) (by decide +kernel), List.mem_of_getElem? (i := 912) (by decide +kernel)⟩
def lw_privs_3 : List (MethodName × Nat) := [(⟨"TrickHousesModel", "isHouse", "(I)Z"⟩, 26), (⟨"TrickHousesModel", "isGuest", "(I)Z"⟩, 26), (⟨"TrickHousesModel", "used", "(III)I"⟩, 26), (⟨"TrickHousesModel", "allGuests", "()I"⟩, 26), (⟨"TrickHousesModel", "visitAll", "(III)I"⟩, 26), (⟨"TrickHousesModel", "begin", "()V"⟩, 26), (⟨"TrickHousesModel", "visit", "(II)Z"⟩, 26), (⟨"TrickHousesModel", "gearOfAll", "(I)I"⟩, 26), (⟨"TrickHousesModel", "goThrough", "(I)V"⟩, 26), (⟨"TrickHousesModel", "passesEach", "(I)Z"⟩, 26), (⟨"TrickHousesModel", "beginRows", "()V"⟩, 26), (⟨"TrickHousesModel", "goRow", "()V"⟩, 26), (⟨"TrickHousesModel", "throughNow", "()I"⟩, 26), (⟨"TrickHousesModel", "nextRow", "()Z"⟩, 26), (⟨"TrickHousesModel", "swap", "(II)V"⟩, 26), (⟨"TrickHousesModel", "layMates", "(I)Z"⟩, 26)]
theorem lw_r3 : ∀ q ∈ lw_privs_3, lw_okq q := List.forall_mem_cons.mpr ⟨lw_p32, List.forall_mem_cons.mpr ⟨lw_p33, List.forall_mem_cons.mpr ⟨lw_p34, List.forall_mem_cons.mpr ⟨lw_p35, List.forall_mem_cons.mpr ⟨lw_p36, List.forall_mem_cons.mpr ⟨lw_p37, List.forall_mem_cons.mpr ⟨lw_p38, List.forall_mem_cons.mpr ⟨lw_p39, List.forall_mem_cons.mpr ⟨lw_p40, List.forall_mem_cons.mpr ⟨lw_p41, List.forall_mem_cons.mpr ⟨lw_p42, List.forall_mem_cons.mpr ⟨lw_p43, List.forall_mem_cons.mpr ⟨lw_p44, List.forall_mem_cons.mpr ⟨lw_p45, List.forall_mem_cons.mpr ⟨lw_p46, List.forall_mem_cons.mpr ⟨lw_p47, fun _ h => absurd h List.not_mem_nil⟩⟩⟩⟩⟩⟩⟩⟩⟩⟩⟩⟩⟩⟩⟩⟩
theorem lw_p48 : lw_okq (⟨"TrickHousesModel", "goMates", "()I"⟩, 26) := ⟨⟨by decide +kernel, by decide +kernel⟩, List.mem_of_getElem? (i := 675) (by decide +kernel), List.mem_of_getElem? (i := 915) (by decide +kernel), List.mem_of_getElem? (i := 916) (by decide +kernel)⟩
theorem lw_p49 : lw_okq (⟨"TrickHousesModel", "goAll", "()V"⟩, 26) := ⟨⟨by decide +kernel, by decide +kernel⟩, List.mem_of_getElem? (i := 675) (by decide +kernel), List.mem_of_getElem? (i := 923) (by decide +kernel), List.mem_of_getElem? (i := 924) (by decide +kernel)⟩
theorem lw_p50 : lw_okq (⟨"TrickHousesModel", "areSo", "()Z"⟩, 26) := ⟨⟨by decide +kernel, by decide +kernel⟩, List.mem_of_getElem? (i := 675) (by decide +kernel), List.mem_of_getElem? (i := 943) (by decide +kernel), List.mem_of_getElem? (i := 944) (by decide +kernel)⟩
theorem lw_p51 : lw_okq (⟨"TrickHousesModel", "lost", "(I)J"⟩, 26) := ⟨⟨by decide +kernel, by decide +kernel⟩, List.mem_of_getElem? (i := 675) (by decide +kernel), List.mem_of_getElem? (i := 975) (by decide +kernel), List.mem_of_getElem? (i := 976) (by decide +kernel)⟩
theorem lw_p52 : lw_okq (⟨"TrickHousesModel", "begins", "(I)V"⟩, 26) := ⟨⟨by decide +kernel, by decide +kernel⟩, List.mem_of_getElem? (i := 675) (by decide +kernel), List.mem_of_getElem? (i := 987) (by decide +kernel), List.mem_of_getElem? (i := 988) (by decide +kernel)⟩
def lw_privs_4 : List (MethodName × Nat) := [(⟨"TrickHousesModel", "goMates", "()I"⟩, 26), (⟨"TrickHousesModel", "goAll", "()V"⟩, 26), (⟨"TrickHousesModel", "areSo", "()Z"⟩, 26), (⟨"TrickHousesModel", "lost", "(I)J"⟩, 26), (⟨"TrickHousesModel", "begins", "(I)V"⟩, 26)]
theorem lw_r4 : ∀ q ∈ lw_privs_4, lw_okq q := List.forall_mem_cons.mpr ⟨lw_p48, List.forall_mem_cons.mpr ⟨lw_p49, List.forall_mem_cons.mpr ⟨lw_p50, List.forall_mem_cons.mpr ⟨lw_p51, List.forall_mem_cons.mpr ⟨lw_p52, fun _ h => absurd h List.not_mem_nil⟩⟩⟩⟩⟩
def lw_privs : List (MethodName × Nat) := lw_privs_1 ++ (lw_privs_2 ++ (lw_privs_3 ++ (lw_privs_4)))
def lw_tbl : List Cond := k2_sels lw_privs ++ tables_1
theorem lw_privs_ok : ∀ q ∈ lw_privs, lw_okq q := by
  show ∀ q ∈ lw_privs_1 ++ (lw_privs_2 ++ (lw_privs_3 ++ (lw_privs_4))), lw_okq q
  exact List.forall_mem_append.mpr ⟨lw_r1, List.forall_mem_append.mpr ⟨lw_r2, List.forall_mem_append.mpr ⟨lw_r3, lw_r4⟩⟩⟩
end
section
/-! the words that all methods rest on: the good ones of the tables -/
def TG : List Cond := lw_tbl.filter goodWord
theorem TG_m {w : Cond} (i : Nat) (h : lw_tbl[i]? = some w) (hg : goodWord w = true) : w ∈ TG := List.mem_filter.mpr ⟨List.mem_of_getElem? h, hg⟩
theorem TG_good {w : Cond} (h : w ∈ TG) : goodWord w = true := (List.mem_filter.mp h).2
theorem TG_tbl {w : Cond} (h : w ∈ TG) : w ∈ lw_tbl := (List.mem_filter.mp h).1
theorem TG_in {ws : List Cond} (h : ∀ w ∈ ws, w ∈ TG) : GoodIn TG ws := fun w hw => ⟨h w hw, good_of_word (TG_good (h w hw))⟩
abbrev wm (y : MethodName) (b : ByteArray) (n : Nat) (ret : Option FieldType) : List Cond := .code y b n ret :: TG
/-! names of classes and fields -/
def N_Orders : String := "TrickHouses$Orders"
def T_Orders : u_T := fun k => match k with
  | 0 => ("TrickHouses$Orders", "row", "[I", true)
  | _ => ("TrickHouses$Orders", "size", "I", false)
def y_Orders_t : Nat → FieldType := fun k => match k with
  | 0 => .array .int
  | _ => .int
theorem t_Orders_nm : ∀ a, a < 2 → ∀ b, b < 2 → a ≠ b → (T_Orders a).2.1 ≠ (T_Orders b).2.1 := by decide +kernel
theorem t_Orders_ok : ∀ k, k < 2 → parseFieldDescriptor (T_Orders k).2.2.1 = some (y_Orders_t k) := by decide +kernel
theorem t_Orders_in0 : ∀ w ∈ u_ws N_Orders T_Orders 2, w ∈ lw_tbl := by decide +kernel
theorem t_Orders_good : ∀ w ∈ u_ws N_Orders T_Orders 2, goodWord w = true := by decide +kernel
theorem t_Orders_in : ∀ w ∈ u_ws N_Orders T_Orders 2, w ∈ TG := fun w h => List.mem_filter.mpr ⟨t_Orders_in0 w h, t_Orders_good w h⟩
def N_Readings : String := "TrickHouses$Readings"
def T_Readings : u_T := fun k => match k with
  | 0 => ("TrickHouses$Readings", "road", "LTrickHouses$Way;", true)
  | 1 => ("TrickHouses$Readings", "walk", "LTrickHouses$Walk;", true)
  | 2 => ("TrickHouses$Readings", "guest", "[I", true)
  | 3 => ("TrickHouses$Readings", "house", "[I", true)
  | 4 => ("TrickHouses$Readings", "count", "I", false)
  | 5 => ("TrickHouses$Readings", "fitting", "I", false)
  | _ => ("TrickHouses$Readings", "leastFitting", "I", false)
def y_Readings_t : Nat → FieldType := fun k => match k with
  | 0 => .object "TrickHouses$Way"
  | 1 => .object "TrickHouses$Walk"
  | 2 => .array .int
  | 3 => .array .int
  | 4 => .int
  | 5 => .int
  | _ => .int
theorem t_Readings_nm : ∀ a, a < 7 → ∀ b, b < 7 → a ≠ b → (T_Readings a).2.1 ≠ (T_Readings b).2.1 := by decide +kernel
theorem t_Readings_ok : ∀ k, k < 7 → parseFieldDescriptor (T_Readings k).2.2.1 = some (y_Readings_t k) := by decide +kernel
theorem t_Readings_in0 : ∀ w ∈ u_ws N_Readings T_Readings 7, w ∈ lw_tbl := by decide +kernel
theorem t_Readings_good : ∀ w ∈ u_ws N_Readings T_Readings 7, goodWord w = true := by decide +kernel
theorem t_Readings_in : ∀ w ∈ u_ws N_Readings T_Readings 7, w ∈ TG := fun w h => List.mem_filter.mpr ⟨t_Readings_in0 w h, t_Readings_good w h⟩
def N_Search : String := "TrickHouses$Search"
def T_Search : u_T := fun k => match k with
  | 0 => ("TrickHouses$Search", "road", "LTrickHouses$Way;", true)
  | 1 => ("TrickHouses$Search", "walk", "LTrickHouses$Walk;", true)
  | 2 => ("TrickHouses$Search", "orders", "LTrickHouses$Orders;", true)
  | 3 => ("TrickHouses$Search", "found", "[I", true)
  | 4 => ("TrickHouses$Search", "most", "I", false)
  | 5 => ("TrickHouses$Search", "fewest", "I", false)
  | 6 => ("TrickHouses$Search", "good", "I", false)
  | _ => ("TrickHouses$Search", "all", "I", false)
def y_Search_t : Nat → FieldType := fun k => match k with
  | 0 => .object "TrickHouses$Way"
  | 1 => .object "TrickHouses$Walk"
  | 2 => .object "TrickHouses$Orders"
  | 3 => .array .int
  | 4 => .int
  | 5 => .int
  | 6 => .int
  | _ => .int
theorem t_Search_nm : ∀ a, a < 8 → ∀ b, b < 8 → a ≠ b → (T_Search a).2.1 ≠ (T_Search b).2.1 := by decide +kernel
theorem t_Search_ok : ∀ k, k < 8 → parseFieldDescriptor (T_Search k).2.2.1 = some (y_Search_t k) := by decide +kernel
theorem t_Search_in0 : ∀ w ∈ u_ws N_Search T_Search 8, w ∈ lw_tbl := by decide +kernel
theorem t_Search_good : ∀ w ∈ u_ws N_Search T_Search 8, goodWord w = true := by decide +kernel
theorem t_Search_in : ∀ w ∈ u_ws N_Search T_Search 8, w ∈ TG := fun w h => List.mem_filter.mpr ⟨t_Search_in0 w h, t_Search_good w h⟩
def N_Sheet : String := "TrickHouses$Sheet"
def T_Sheet : u_T := fun k => match k with
  | 0 => ("TrickHouses$Sheet", "cells", "[I", true)
  | 1 => ("TrickHouses$Sheet", "hasRow", "Z", false)
  | 2 => ("TrickHouses$Sheet", "lane", "I", false)
  | _ => ("TrickHouses$Sheet", "length", "I", false)
def y_Sheet_t : Nat → FieldType := fun k => match k with
  | 0 => .array .int
  | 1 => .boolean
  | 2 => .int
  | _ => .int
theorem t_Sheet_nm : ∀ a, a < 4 → ∀ b, b < 4 → a ≠ b → (T_Sheet a).2.1 ≠ (T_Sheet b).2.1 := by decide +kernel
theorem t_Sheet_ok : ∀ k, k < 4 → parseFieldDescriptor (T_Sheet k).2.2.1 = some (y_Sheet_t k) := by decide +kernel
theorem t_Sheet_in0 : ∀ w ∈ u_ws N_Sheet T_Sheet 4, w ∈ lw_tbl := by decide +kernel
theorem t_Sheet_good : ∀ w ∈ u_ws N_Sheet T_Sheet 4, goodWord w = true := by decide +kernel
theorem t_Sheet_in : ∀ w ∈ u_ws N_Sheet T_Sheet 4, w ∈ TG := fun w h => List.mem_filter.mpr ⟨t_Sheet_in0 w h, t_Sheet_good w h⟩
def N_Text : String := "TrickHouses$Text"
def T_Text : u_T := fun k => match k with
  | 0 => ("TrickHouses$Text", "codes", "[I", true)
  | 1 => ("TrickHouses$Text", "count", "I", false)
  | 2 => ("TrickHouses$Text", "houses", "I", false)
  | _ => ("TrickHouses$Text", "guests", "I", false)
def y_Text_t : Nat → FieldType := fun k => match k with
  | 0 => .array .int
  | 1 => .int
  | 2 => .int
  | _ => .int
theorem t_Text_nm : ∀ a, a < 4 → ∀ b, b < 4 → a ≠ b → (T_Text a).2.1 ≠ (T_Text b).2.1 := by decide +kernel
theorem t_Text_ok : ∀ k, k < 4 → parseFieldDescriptor (T_Text k).2.2.1 = some (y_Text_t k) := by decide +kernel
theorem t_Text_in0 : ∀ w ∈ u_ws N_Text T_Text 4, w ∈ lw_tbl := by decide +kernel
theorem t_Text_good : ∀ w ∈ u_ws N_Text T_Text 4, goodWord w = true := by decide +kernel
theorem t_Text_in : ∀ w ∈ u_ws N_Text T_Text 4, w ∈ TG := fun w h => List.mem_filter.mpr ⟨t_Text_in0 w h, t_Text_good w h⟩
def N_Trials : String := "TrickHouses$Trials"
def T_Trials : u_T := fun k => match k with
  | 0 => ("TrickHouses$Trials", "road", "LTrickHouses$Way;", true)
  | 1 => ("TrickHouses$Trials", "walk", "LTrickHouses$Walk;", true)
  | 2 => ("TrickHouses$Trials", "found", "I", false)
  | _ => ("TrickHouses$Trials", "come", "I", false)
def y_Trials_t : Nat → FieldType := fun k => match k with
  | 0 => .object "TrickHouses$Way"
  | 1 => .object "TrickHouses$Walk"
  | 2 => .int
  | _ => .int
theorem t_Trials_nm : ∀ a, a < 4 → ∀ b, b < 4 → a ≠ b → (T_Trials a).2.1 ≠ (T_Trials b).2.1 := by decide +kernel
theorem t_Trials_ok : ∀ k, k < 4 → parseFieldDescriptor (T_Trials k).2.2.1 = some (y_Trials_t k) := by decide +kernel
theorem t_Trials_in0 : ∀ w ∈ u_ws N_Trials T_Trials 4, w ∈ lw_tbl := by decide +kernel
theorem t_Trials_good : ∀ w ∈ u_ws N_Trials T_Trials 4, goodWord w = true := by decide +kernel
theorem t_Trials_in : ∀ w ∈ u_ws N_Trials T_Trials 4, w ∈ TG := fun w h => List.mem_filter.mpr ⟨t_Trials_in0 w h, t_Trials_good w h⟩
def N_Walk : String := "TrickHouses$Walk"
def T_Walk : u_T := fun k => match k with
  | 0 => ("TrickHouses$Walk", "road", "LTrickHouses$Way;", true)
  | 1 => ("TrickHouses$Walk", "knows", "[I", true)
  | 2 => ("TrickHouses$Walk", "lostIn", "[I", true)
  | 3 => ("TrickHouses$Walk", "through", "I", false)
  | 4 => ("TrickHouses$Walk", "gone", "I", false)
  | _ => ("TrickHouses$Walk", "firstLoss", "I", false)
def y_Walk_t : Nat → FieldType := fun k => match k with
  | 0 => .object "TrickHouses$Way"
  | 1 => .array .int
  | 2 => .array .int
  | 3 => .int
  | 4 => .int
  | _ => .int
theorem t_Walk_nm : ∀ a, a < 6 → ∀ b, b < 6 → a ≠ b → (T_Walk a).2.1 ≠ (T_Walk b).2.1 := by decide +kernel
theorem t_Walk_ok : ∀ k, k < 6 → parseFieldDescriptor (T_Walk k).2.2.1 = some (y_Walk_t k) := by decide +kernel
theorem t_Walk_in0 : ∀ w ∈ u_ws N_Walk T_Walk 6, w ∈ lw_tbl := by decide +kernel
theorem t_Walk_good : ∀ w ∈ u_ws N_Walk T_Walk 6, goodWord w = true := by decide +kernel
theorem t_Walk_in : ∀ w ∈ u_ws N_Walk T_Walk 6, w ∈ TG := fun w h => List.mem_filter.mpr ⟨t_Walk_in0 w h, t_Walk_good w h⟩
def N_Way : String := "TrickHouses$Way"
def T_Way : u_T := fun k => match k with
  | 0 => ("TrickHouses$Way", "kind", "[I", true)
  | 1 => ("TrickHouses$Way", "helps", "[I", true)
  | 2 => ("TrickHouses$Way", "helpsToo", "[I", true)
  | 3 => ("TrickHouses$Way", "bars", "[I", true)
  | 4 => ("TrickHouses$Way", "gear", "[I", true)
  | 5 => ("TrickHouses$Way", "houses", "I", false)
  | 6 => ("TrickHouses$Way", "guests", "I", false)
  | _ => ("TrickHouses$Way", "barredByAll", "I", false)
def y_Way_t : Nat → FieldType := fun k => match k with
  | 0 => .array .int
  | 1 => .array .int
  | 2 => .array .int
  | 3 => .array .int
  | 4 => .array .int
  | 5 => .int
  | 6 => .int
  | _ => .int
theorem t_Way_nm : ∀ a, a < 8 → ∀ b, b < 8 → a ≠ b → (T_Way a).2.1 ≠ (T_Way b).2.1 := by decide +kernel
theorem t_Way_ok : ∀ k, k < 8 → parseFieldDescriptor (T_Way k).2.2.1 = some (y_Way_t k) := by decide +kernel
theorem t_Way_in0 : ∀ w ∈ u_ws N_Way T_Way 8, w ∈ lw_tbl := by decide +kernel
theorem t_Way_good : ∀ w ∈ u_ws N_Way T_Way 8, goodWord w = true := by decide +kernel
theorem t_Way_in : ∀ w ∈ u_ws N_Way T_Way 8, w ∈ TG := fun w h => List.mem_filter.mpr ⟨t_Way_in0 w h, t_Way_good w h⟩
def N_Main : String := "TrickHouses"
def T_Main : u_T := fun k => match k with
  | 0 => ("TrickHouses", "sheets", "[LTrickHouses$Sheet;", true)
  | 1 => ("TrickHouses", "text", "LTrickHouses$Text;", true)
  | 2 => ("TrickHouses", "road", "LTrickHouses$Way;", true)
  | 3 => ("TrickHouses", "walk", "LTrickHouses$Walk;", true)
  | 4 => ("TrickHouses", "search", "LTrickHouses$Search;", true)
  | 5 => ("TrickHouses", "trials", "LTrickHouses$Trials;", true)
  | 6 => ("TrickHouses", "readings", "LTrickHouses$Readings;", true)
  | 7 => ("TrickHouses", "traced", "I", false)
  | _ => ("TrickHouses", "latestFault", "I", false)
def y_Main_t : Nat → FieldType := fun k => match k with
  | 0 => .array (.object "TrickHouses$Sheet")
  | 1 => .object "TrickHouses$Text"
  | 2 => .object "TrickHouses$Way"
  | 3 => .object "TrickHouses$Walk"
  | 4 => .object "TrickHouses$Search"
  | 5 => .object "TrickHouses$Trials"
  | 6 => .object "TrickHouses$Readings"
  | 7 => .int
  | _ => .int
theorem t_Main_nm : ∀ a, a < 9 → ∀ b, b < 9 → a ≠ b → (T_Main a).2.1 ≠ (T_Main b).2.1 := by decide +kernel
theorem t_Main_ok : ∀ k, k < 9 → parseFieldDescriptor (T_Main k).2.2.1 = some (y_Main_t k) := by decide +kernel
theorem t_Main_in0 : ∀ w ∈ u_ws N_Main T_Main 9, w ∈ lw_tbl := by decide +kernel
theorem t_Main_good : ∀ w ∈ u_ws N_Main T_Main 9, goodWord w = true := by decide +kernel
theorem t_Main_in : ∀ w ∈ u_ws N_Main T_Main 9, w ∈ TG := fun w h => List.mem_filter.mpr ⟨t_Main_in0 w h, t_Main_good w h⟩
def N_Model : String := "TrickHousesModel"
def T_Model : u_T := fun k => match k with
  | 0 => ("TrickHousesModel", "fault", "I", false)
  | 1 => ("TrickHousesModel", "trace", "I", false)
  | 2 => ("TrickHousesModel", "sorts", "[I", true)
  | 3 => ("TrickHousesModel", "sheetLong", "[I", true)
  | 4 => ("TrickHousesModel", "cells", "[I", true)
  | 5 => ("TrickHousesModel", "houses", "I", false)
  | 6 => ("TrickHousesModel", "guests", "I", false)
  | 7 => ("TrickHousesModel", "kind", "[I", true)
  | 8 => ("TrickHousesModel", "helps", "[I", true)
  | 9 => ("TrickHousesModel", "other", "[I", true)
  | 10 => ("TrickHousesModel", "bars", "[I", true)
  | 11 => ("TrickHousesModel", "gearOf", "[I", true)
  | 12 => ("TrickHousesModel", "barredToo", "I", false)
  | 13 => ("TrickHousesModel", "at", "I", false)
  | 14 => ("TrickHousesModel", "readHouses", "I", false)
  | 15 => ("TrickHousesModel", "readMany", "I", false)
  | 16 => ("TrickHousesModel", "read", "[I", true)
  | 17 => ("TrickHousesModel", "readGear", "[I", true)
  | 18 => ("TrickHousesModel", "lostNow", "I", false)
  | 19 => ("TrickHousesModel", "lostIn", "[I", true)
  | 20 => ("TrickHousesModel", "knows", "[I", true)
  | 21 => ("TrickHousesModel", "row", "[I", true)
  | 22 => ("TrickHousesModel", "found", "[I", true)
  | 23 => ("TrickHousesModel", "readings", "I", false)
  | 24 => ("TrickHousesModel", "readGuestOf", "[I", true)
  | _ => ("TrickHousesModel", "readIn", "[I", true)
def y_Model_t : Nat → FieldType := fun k => match k with
  | 0 => .int
  | 1 => .int
  | 2 => .array .int
  | 3 => .array .int
  | 4 => .array .int
  | 5 => .int
  | 6 => .int
  | 7 => .array .int
  | 8 => .array .int
  | 9 => .array .int
  | 10 => .array .int
  | 11 => .array .int
  | 12 => .int
  | 13 => .int
  | 14 => .int
  | 15 => .int
  | 16 => .array .int
  | 17 => .array .int
  | 18 => .int
  | 19 => .array .int
  | 20 => .array .int
  | 21 => .array .int
  | 22 => .array .int
  | 23 => .int
  | 24 => .array .int
  | _ => .array .int
theorem t_Model_nm : ∀ a, a < 26 → ∀ b, b < 26 → a ≠ b → (T_Model a).2.1 ≠ (T_Model b).2.1 := by decide +kernel
theorem t_Model_ok : ∀ k, k < 26 → parseFieldDescriptor (T_Model k).2.2.1 = some (y_Model_t k) := by decide +kernel
theorem t_Model_in0 : ∀ w ∈ u_ws N_Model T_Model 26, w ∈ lw_tbl := by decide +kernel
theorem t_Model_good : ∀ w ∈ u_ws N_Model T_Model 26, goodWord w = true := by decide +kernel
theorem t_Model_in : ∀ w ∈ u_ws N_Model T_Model 26, w ∈ TG := fun w h => List.mem_filter.mpr ⟨t_Model_in0 w h, t_Model_good w h⟩
abbrev classes : List vw_C := [(N_Orders, T_Orders, 2), (N_Readings, T_Readings, 7), (N_Search, T_Search, 8), (N_Sheet, T_Sheet, 4), (N_Text, T_Text, 4), (N_Trials, T_Trials, 4), (N_Walk, T_Walk, 6), (N_Way, T_Way, 8), (N_Main, T_Main, 9), (N_Model, T_Model, 26)]
/-! the world: 46 cells, numbers in M -/
abbrev Mem : Type := Nat → Nat → Int32
def mrow (M : Mem) (k : Nat) (f : Nat → Int32) : Mem := fun q => if q = k then f else M q
def mset (M : Mem) (k j : Nat) (v : Int32) : Mem := mrow M k (upd (M k) j v)
abbrev GG : Type := va_G × ClassId × ClassId × (Nat → Nat)
def ent (g : GG) (k : Nat) (m : Nat → Int32) : va_E := match k with
  | 0 => .inr (8, [.ref (g.2.2.2 1), .ref (g.2.2.2 10), .ref (g.2.2.2 12), .ref (g.2.2.2 18), .ref (g.2.2.2 21), .ref (g.2.2.2 25), .ref (g.2.2.2 26), .int (m 7), .int (m 8)])
  | 1 => .inl (g.2.2.1, 4, .inr (.inr (.inr (.inr (fun j => some (g.2.2.2 (2 + j)))))))
  | 2 => .inr (3, [.ref (g.2.2.2 6), .int (m 1), .int (m 2), .int (m 3)])
  | 3 => .inr (3, [.ref (g.2.2.2 7), .int (m 1), .int (m 2), .int (m 3)])
  | 4 => .inr (3, [.ref (g.2.2.2 8), .int (m 1), .int (m 2), .int (m 3)])
  | 5 => .inr (3, [.ref (g.2.2.2 9), .int (m 1), .int (m 2), .int (m 3)])
  | 6 => .inl (g.2.1, 60, .inl m)
  | 7 => .inl (g.2.1, 60, .inl m)
  | 8 => .inl (g.2.1, 60, .inl m)
  | 9 => .inl (g.2.1, 60, .inl m)
  | 10 => .inr (4, [.ref (g.2.2.2 11), .int (m 1), .int (m 2), .int (m 3)])
  | 11 => .inl (g.2.1, 60, .inl m)
  | 12 => .inr (7, [.ref (g.2.2.2 13), .ref (g.2.2.2 14), .ref (g.2.2.2 15), .ref (g.2.2.2 16), .ref (g.2.2.2 17), .int (m 5), .int (m 6), .int (m 7)])
  | 13 => .inl (g.2.1, 6, .inl m)
  | 14 => .inl (g.2.1, 6, .inl m)
  | 15 => .inl (g.2.1, 6, .inl m)
  | 16 => .inl (g.2.1, 6, .inl m)
  | 17 => .inl (g.2.1, 5, .inl m)
  | 18 => .inr (6, [.ref (g.2.2.2 12), .ref (g.2.2.2 19), .ref (g.2.2.2 20), .int (m 3), .int (m 4), .int (m 5)])
  | 19 => .inl (g.2.1, 6, .inl m)
  | 20 => .inl (g.2.1, 5, .inl m)
  | 21 => .inr (2, [.ref (g.2.2.2 12), .ref (g.2.2.2 18), .ref (g.2.2.2 22), .ref (g.2.2.2 24), .int (m 4), .int (m 5), .int (m 6), .int (m 7)])
  | 22 => .inr (0, [.ref (g.2.2.2 23), .int (m 1)])
  | 23 => .inl (g.2.1, 5, .inl m)
  | 24 => .inl (g.2.1, 5, .inl m)
  | 25 => .inr (5, [.ref (g.2.2.2 12), .ref (g.2.2.2 18), .int (m 2), .int (m 3)])
  | 26 => .inr (1, [.ref (g.2.2.2 12), .ref (g.2.2.2 18), .ref (g.2.2.2 27), .ref (g.2.2.2 28), .int (m 4), .int (m 5), .int (m 6)])
  | 27 => .inl (g.2.1, 8, .inl m)
  | 28 => .inl (g.2.1, 8, .inl m)
  | 29 => .inr (9, [.int (m 0), .int (m 1), .ref (g.2.2.2 30), .ref (g.2.2.2 31), .ref (g.2.2.2 32), .int (m 5), .int (m 6), .ref (g.2.2.2 33), .ref (g.2.2.2 34), .ref (g.2.2.2 35), .ref (g.2.2.2 36), .ref (g.2.2.2 37), .int (m 12), .int (m 13), .int (m 14), .int (m 15), .ref (g.2.2.2 38), .ref (g.2.2.2 39), .int (m 18), .ref (g.2.2.2 40), .ref (g.2.2.2 41), .ref (g.2.2.2 42), .ref (g.2.2.2 43), .int (m 23), .ref (g.2.2.2 44), .ref (g.2.2.2 45)])
  | 30 => .inl (g.2.1, 4, .inl m)
  | 31 => .inl (g.2.1, 4, .inl m)
  | 32 => .inl (g.2.1, 240, .inl m)
  | 33 => .inl (g.2.1, 6, .inl m)
  | 34 => .inl (g.2.1, 6, .inl m)
  | 35 => .inl (g.2.1, 6, .inl m)
  | 36 => .inl (g.2.1, 6, .inl m)
  | 37 => .inl (g.2.1, 5, .inl m)
  | 38 => .inl (g.2.1, 24, .inl m)
  | 39 => .inl (g.2.1, 5, .inl m)
  | 40 => .inl (g.2.1, 5, .inl m)
  | 41 => .inl (g.2.1, 6, .inl m)
  | 42 => .inl (g.2.1, 5, .inl m)
  | 43 => .inl (g.2.1, 5, .inl m)
  | 44 => .inl (g.2.1, 8, .inl m)
  | 45 => .inl (g.2.1, 8, .inl m)
  | _ => .inl (g.2.1, 0, .inl m)
def wsOf (g : GG) (M : Mem) : va_W := (List.range 46).map (fun k => (g.2.2.2 k, ent g k (M k)))
def AW (g : GG) : Nat → Prop := fun q => ∃ k, k < 46 ∧ q = g.2.2.2 k
def WP (g : GG) (M : Mem) (H : Heap) : Prop := va_P g.1 classes (wsOf g M) H
abbrev tysOf (g : GG) : List (ClassId × FieldType) := [(g.2.1, .int), (g.2.2.1, .object "TrickHouses$Sheet")]
def y_isBelow : MethodName := ⟨N_Main, "isBelow", "(II)Z"⟩
abbrev nw1 : Cond := .methodLinkNest N_Text 55 y_isBelow N_Main
abbrev nw2 : Cond := .methodLinkNest N_Way 52 y_isBelow N_Main
def WK (g : GG) (U : State) : Prop := va_K g.1 classes (tysOf g) U ∧ va_Nw nw1 U ∧ va_Nw nw2 U
def WI (g : GG) : Prop := ∀ i j, i < 46 → j < 46 → g.2.2.2 i = g.2.2.2 j → i = j
theorem WK.warm {g : GG} {s U : State} (h : WK g s) (hW : s.WarmedH U.vm) : WK g U := ⟨va_K.moved hW.alike h.1, va_Nw.warmM hW h.2.1, va_Nw.warmM hW h.2.2⟩
theorem WK.calling {g : GG} {U : State} {gg : JFrame} {mk : MethodId} {a : Array Value} (h : WK g U) : WK g (U.calling gg mk a) := ⟨va_K.moved (u := U) (U := U.calling gg mk a) (Vm.Alike.refl U.vm) h.1, va_Nw.same rfl (u := U) rfl h.2.1, va_Nw.same rfl (u := U) rfl h.2.2⟩
theorem ws_at (g : GG) (M : Mem) {k : Nat} (hk : k < 46) : (wsOf g M)[k]? = some (g.2.2.2 k, ent g k (M k)) := by
  simp [wsOf, hk]
theorem ws_ge (g : GG) (M : Mem) {k : Nat} (hk : ¬ k < 46) : (wsOf g M)[k]? = none := by
  simp [wsOf]; omega
theorem ws_set (g : GG) (M : Mem) {k : Nat} (hk : k < 46) (f : Nat → Int32) : (wsOf g M).set k (g.2.2.2 k, ent g k f) = wsOf g (mrow M k f) := by
  apply List.ext_getElem?
  intro i
  by_cases hi : i < 46
  · by_cases hik : i = k
    · subst hik
      rw [List.getElem?_set_self (by simp [wsOf]; omega), ws_at g _ hi]
      simp [mrow]
    · rw [List.getElem?_set_ne (Ne.symm hik), ws_at g _ hi, ws_at g _ hi]
      simp [mrow, hik]
  · rw [ws_ge g _ hi, List.getElem?_set_ne (by omega), ws_ge g _ hi]
theorem ws_D {g : GG} (h : WI g) (M : Mem) : va_D (AW g) (wsOf g M) := by
  have key : ∀ (i : Nat) (q : Nat × va_E), (wsOf g M)[i]? = some q → i < 46 ∧ q.1 = g.2.2.2 i := by
    intro i q hq
    by_cases hi : i < 46
    · rw [ws_at g M hi] at hq
      cases hq
      exact ⟨hi, rfl⟩
    · rw [ws_ge g M hi] at hq
      cases hq
  refine ⟨fun i j x y hx hy e => ?_, fun k q hq => ⟨k, (key k q hq).1, (key k q hq).2⟩⟩
  obtain ⟨h1, e1⟩ := key i x hx
  obtain ⟨h2, e2⟩ := key j y hy
  exact h i j h1 h2 (by rw [← e1, ← e2, e])
section RW
variable {p : Program} {l : Launch} {e : Env} {R : Room} {s : State} {m : MethodId} {args : Array Value} {below : List Frame} {meth : Method} {c : Code} {H H0 : Heap} {locs : List Loc} {cells slots : Nat} {Q : State → Prop}
variable {cc : ByteArray} {pc nL : Nat} {ls : Array Slot} {rest : List Value} {own : String} {g : GG} {M : Mem}
theorem r_get {Cn : String} {T : u_T} {N ci : Nat} (hin : ∀ w ∈ u_ws Cn T N, w ∈ TG) (hc : classes[ci]? = some (Cn, T, N)) (k : Nat) (hk : k < 46) {fs : List Value} (he : ent g k (M k) = .inr (ci, fs)) (j : Nat) (hj : j < N) (hd : (T j).1 = Cn) {v : Value} (hv : fs[j]? = some v)
    (C : CallFix p m c cc nL s args TG own) (hW : WK g s) (hP : WP g M H) {index : Nat} (hl : Cond.fieldLink own index Cn (T j).2.1 (T j).2.2.1 ∈ TG) (hdg : decode cc pc = .ok (.getfield index, 3))
    (kk : W p l e R s m args below meth c H locs cells slots Q (F0 m (pc + 3) ls (v :: rest))) : W p l e R s m args below meth c H locs cells slots Q (F0 m pc ls (.ref (g.2.2.2 k) :: rest)) := by
  refine va_get (D := g.1) (cl := classes) (ci := ci) (C := Cn) (T := T) (N := N) (tys := tysOf g) C.1 C.2.1 C.2.2.2.2 hin C.2.2.2.1 hW.1 hP k (by rw [ws_at g M hk, he]) hc j hj (C.2.2.2.2 _ hl) (fun x h => by rw [hd] at h; exact h) hv hdg kk
theorem r_put {Cn : String} {T : u_T} {N ci : Nat} (hin : ∀ w ∈ u_ws Cn T N, w ∈ TG) (ty0 : Nat → FieldType) (hty : ∀ k, k < N → parseFieldDescriptor (T k).2.2.1 = some (ty0 k)) (hnm : ∀ a, a < N → ∀ b, b < N → a ≠ b → (T a).2.1 ≠ (T b).2.1) (hc : classes[ci]? = some (Cn, T, N)) (k : Nat) (hk : k < 46) {fs : List Value} (he : ent g k (M k) = .inr (ci, fs)) (j : Nat) (hj : j < N) (hd : (T j).1 = Cn) (hfin : (T j).2.2.2 = false) {v : Int32} {ty : FieldType} (hpd : parseFieldDescriptor (T j).2.2.1 = some ty) (hn : narrow ty (.int v) = .int v) (hfit : fits ty (.int v) = true) (hlen : j < fs.length) (hs : .inr (ci, fs.set j (.int v)) = ent g k (upd (M k) j v)) (hI : WI g)
    (C : CallFix p m c cc nL s args TG own) (hW : WK g s) (hP : WP g M H) (hS : va_S (AW g) H0 H locs) {index : Nat} (hl : Cond.fieldLink own index Cn (T j).2.1 (T j).2.2.1 ∈ TG) (hdg : decode cc pc = .ok (.putfield index, 3))
    (kk : ∀ (H1 : Heap) (locs1 : List Loc), WP g (mset M k j v) H1 → va_S (AW g) H0 H1 locs1 → W p l e R s m args below meth c H1 locs1 cells slots Q (F0 m (pc + 3) ls rest)) : W p l e R s m args below meth c H locs cells slots Q (F0 m pc ls (.int v :: .ref (g.2.2.2 k) :: rest)) := by
  refine va_put (D := g.1) (cl := classes) (ci := ci) (C := Cn) (T := T) (N := N) (tys := tysOf g) C.1 C.2.1 C.2.2.2.2 hin ty0 hty hnm C.2.2.2.1 hW.1 hP (ws_D hI M) hS k (by rw [ws_at g M hk, he]) hc j hj (C.2.2.2.2 _ hl) (fun x h => by rw [hd] at h; exact h) hfin hpd hn hfit hlen hdg (fun H1 locs1 hP1 _ hS1 => ?_)
  rw [hs, ws_set g M hk] at hP1
  exact kk H1 locs1 hP1 hS1
theorem r_ald (k : Nat) (hk : k < 46) {n : Nat} (he : ent g k (M k) = .inl (g.2.1, n, .inl (M k)))
    (C : CallFix p m c cc nL s args TG own) (hW : WK g s) (hP : WP g M H) {i : Int32} (hin : vp_in i n) (hdg : decode cc pc = .ok (.iaload, 1))
    (kk : W p l e R s m args below meth c H locs cells slots Q (F0 m (pc + 1) ls (.int (M k i.toNatClampNeg) :: rest))) : W p l e R s m args below meth c H locs cells slots Q (F0 m pc ls (.int i :: .ref (g.2.2.2 k) :: rest)) :=
  va_iald (tys := tysOf g) C.1 C.2.1 hW.1 hP k 0 (by rw [ws_at g M hk, he]) rfl hin hdg kk
theorem r_ast (k : Nat) (hk : k < 46) {n : Nat} (he : ∀ f, ent g k f = .inl (g.2.1, n, .inl f)) (hI : WI g)
    (C : CallFix p m c cc nL s args TG own) (hW : WK g s) (hP : WP g M H) (hS : va_S (AW g) H0 H locs) {i x : Int32} (hin : vp_in i n) (hdg : decode cc pc = .ok (.iastore, 1))
    (kk : ∀ (H1 : Heap) (locs1 : List Loc), WP g (mset M k i.toNatClampNeg x) H1 → va_S (AW g) H0 H1 locs1 → W p l e R s m args below meth c H1 locs1 cells slots Q (F0 m (pc + 1) ls rest)) : W p l e R s m args below meth c H locs cells slots Q (F0 m pc ls (.int x :: .int i :: .ref (g.2.2.2 k) :: rest)) := by
  refine va_iast (tys := tysOf g) C.1 C.2.1 hW.1 hP (ws_D hI M) hS k 0 (by rw [ws_at g M hk, he]) rfl hin hdg (fun H1 locs1 hP1 _ hS1 => ?_)
  rw [← he, ws_set g M hk] at hP1
  exact kk H1 locs1 hP1 hS1
end RW
end
section
/-! contracts and calls over the one world -/
def PQ (g : GG) (R : Option Value → Mem → Prop) : Array Value → State → Outcome → State → Prop := fun _ st oc t => (∃ (v : Option Value) (M1 : Mem), oc = .returned v ∧ R v M1 ∧ WP g M1 t.heap) ∧ va_F (AW g) st t
def RI (R : Int32 → Mem → Prop) : Option Value → Mem → Prop := fun v M => ∃ r, v = some (.int r) ∧ R r M
def RZ (R : Int32 → Mem → Prop) : Option Value → Mem → Prop := fun v M => ∃ r, v = some (.int r) ∧ narrow .boolean (.int r) = .int r ∧ R r M
def RL (R : Int64 → Mem → Prop) : Option Value → Mem → Prop := fun v M => ∃ r, v = some (.long r) ∧ R r M
def RV (R : Mem → Prop) : Option Value → Mem → Prop := fun v M => v = none ∧ R M
def RO (g : GG) (R : Option Nat → Mem → Prop) : Option Value → Mem → Prop := fun v M => (v = some .null ∧ R none M) ∨ ∃ q, q < 4 ∧ v = some (.ref (g.2.2.2 (2 + q))) ∧ R (some q) M
abbrev PP (g : GG) (M : Mem) (av : List Value) : Array Value → State → Prop := va_Pc av (fun U => WP g M U.heap ∧ WK g U)
abbrev RM (f n : Nat) : Room := { frames := f, cells := 0, slots := 0, locals := n }
def CBV (y : MethodName) (b : ByteArray) (mL : Nat) (ret : Option FieldType) (Cn : String) (n : Nat) : Prop := (Cond.instanceMethod y ∈ TG ∧ Cond.selects Cn y y ∈ TG ∧ Cond.initialized Cn ∈ TG ∧ Cond.code y b mL ret ∈ TG) ∧ (y.cls = Cn ∧ y.cls ≠ "java/lang/invoke/MethodHandle" ∧ y.cls ≠ "java/lang/invoke/VarHandle" ∧ (parseMethodDescriptor y.desc).map (fun d => d.parameters.length) = some n)
def CBS (y : MethodName) (b : ByteArray) (mL : Nat) (ret : Option FieldType) (n : Nat) : Prop := (Cond.static y ∈ TG ∧ Cond.initialized y.cls ∈ TG ∧ Cond.code y b mL ret ∈ TG) ∧ (y.cls ≠ "java/lang/invoke/MethodHandle" ∧ y.cls ≠ "java/lang/invoke/VarHandle" ∧ (parseMethodDescriptor y.desc).map (fun d => d.parameters.length) = some n)
def IsOb (g : GG) (M : Mem) (k ci : Nat) (Cn : String) : Prop := k < 46 ∧ (∃ fs, ent g k (M k) = .inr (ci, fs)) ∧ ∃ q, classes[ci]? = some (Cn, q)
theorem wm_in {y : MethodName} {b : ByteArray} {n : Nat} {ret : Option FieldType} (h : Cond.code y b n ret ∈ TG) {w : Cond} (hw : w ∈ wm y b n ret) : w ∈ TG := (List.mem_cons.mp hw).elim (fun e => by rw [e]; exact h) id
theorem PP_blind {g : GG} {M : Mem} {av : List Value} : FrameBlind (PP g M av) := fun _ _ _ _ h => ⟨h.1, h.2.1, h.2.2.calling⟩
section CW
variable {p : Program} {l : Launch} {e : Env} {R : Room} {s : State} {m : MethodId} {args : Array Value} {below : List Frame} {meth : Method} {c : Code} {H H0 : Heap} {locs : List Loc} {cells slots : Nat} {Q : State → Prop}
variable {cc : ByteArray} {pc nL : Nat} {ls : Array Slot} {rest st0 : List Value} {own : String} {g : GG} {M : Mem} {a : Array Value}
theorem r_run {R1 : Option Value → Mem → Prop} (hr : va_Run p l e R s m args below meth c H locs cells slots 0 0 (F0 m pc ls st0) rest (PQ g R1 a) (AW g)) (hS : va_S (AW g) H0 H locs)
    (kk : ∀ (v : Option Value) (M1 : Mem) (H1 : Heap) (locs1 : List Loc), R1 v M1 → WP g M1 H1 → va_S (AW g) H0 H1 locs1 → W p l e R s m args below meth c H1 locs1 cells slots Q (F0 m (pc + 3) ls (v.toList ++ rest))) : W p l e R s m args below meth c H locs cells slots Q (F0 m pc ls st0) := by
  intro T hT X
  obtain ⟨v, st₀, t, T', L, h0, X', hL, e1, e2, ⟨⟨v', M1, hv, hR, hP⟩, hz, hk⟩, st⟩ := hr T hT X
  cases hv
  rw [h0] at hz hk
  obtain ⟨t2, a1, b1⟩ := kk v M1 T'.heap (locs ++ L) hR (by rw [e1]; exact hP)
    ⟨Nat.le_trans hS.1 (by rw [e1]; exact hz), fun q h1 h2 => by rw [e1, hk q (Nat.lt_of_lt_of_le h1 hS.1) h2]; exact hS.2.1 q h1 h2, fun q hq => by
      rcases List.mem_append.mp hq with h | h
      · exact hS.2.2 q h
      · exact hL q h⟩ T' rfl X'
  exact ⟨t2, st t2 a1, b1⟩
theorem r_runI {R1 : Int32 → Mem → Prop} (hr : va_Run p l e R s m args below meth c H locs cells slots 0 0 (F0 m pc ls st0) rest (PQ g (RI R1) a) (AW g)) (hS : va_S (AW g) H0 H locs)
    (kk : ∀ (r : Int32) (M1 : Mem) (H1 : Heap) (locs1 : List Loc), R1 r M1 → WP g M1 H1 → va_S (AW g) H0 H1 locs1 → W p l e R s m args below meth c H1 locs1 cells slots Q (F0 m (pc + 3) ls (.int r :: rest))) : W p l e R s m args below meth c H locs cells slots Q (F0 m pc ls st0) :=
  r_run hr hS (fun v M1 H1 locs1 hR hP hS1 => by obtain ⟨r, rfl, h⟩ := hR; exact kk r M1 H1 locs1 h hP hS1)
theorem r_runZ {R1 : Int32 → Mem → Prop} (hr : va_Run p l e R s m args below meth c H locs cells slots 0 0 (F0 m pc ls st0) rest (PQ g (RZ R1) a) (AW g)) (hS : va_S (AW g) H0 H locs)
    (kk : ∀ (r : Int32) (M1 : Mem) (H1 : Heap) (locs1 : List Loc), narrow .boolean (.int r) = .int r → R1 r M1 → WP g M1 H1 → va_S (AW g) H0 H1 locs1 → W p l e R s m args below meth c H1 locs1 cells slots Q (F0 m (pc + 3) ls (.int r :: rest))) : W p l e R s m args below meth c H locs cells slots Q (F0 m pc ls st0) :=
  r_run hr hS (fun v M1 H1 locs1 hR hP hS1 => by obtain ⟨r, rfl, h0, h⟩ := hR; exact kk r M1 H1 locs1 h0 h hP hS1)
theorem r_runL {R1 : Int64 → Mem → Prop} (hr : va_Run p l e R s m args below meth c H locs cells slots 0 0 (F0 m pc ls st0) rest (PQ g (RL R1) a) (AW g)) (hS : va_S (AW g) H0 H locs)
    (kk : ∀ (r : Int64) (M1 : Mem) (H1 : Heap) (locs1 : List Loc), R1 r M1 → WP g M1 H1 → va_S (AW g) H0 H1 locs1 → W p l e R s m args below meth c H1 locs1 cells slots Q (F0 m (pc + 3) ls (.long r :: rest))) : W p l e R s m args below meth c H locs cells slots Q (F0 m pc ls st0) :=
  r_run hr hS (fun v M1 H1 locs1 hR hP hS1 => by obtain ⟨r, rfl, h⟩ := hR; exact kk r M1 H1 locs1 h hP hS1)
theorem r_runV {R1 : Mem → Prop} (hr : va_Run p l e R s m args below meth c H locs cells slots 0 0 (F0 m pc ls st0) rest (PQ g (RV R1) a) (AW g)) (hS : va_S (AW g) H0 H locs)
    (kk : ∀ (M1 : Mem) (H1 : Heap) (locs1 : List Loc), R1 M1 → WP g M1 H1 → va_S (AW g) H0 H1 locs1 → W p l e R s m args below meth c H1 locs1 cells slots Q (F0 m (pc + 3) ls rest)) : W p l e R s m args below meth c H locs cells slots Q (F0 m pc ls st0) :=
  r_run hr hS (fun v M1 H1 locs1 hR hP hS1 => by obtain ⟨rfl, h⟩ := hR; exact kk M1 H1 locs1 h hP hS1)
theorem r_runO {R1 : Option Nat → Mem → Prop} (hr : va_Run p l e R s m args below meth c H locs cells slots 0 0 (F0 m pc ls st0) rest (PQ g (RO g R1) a) (AW g)) (hS : va_S (AW g) H0 H locs)
    (k0 : ∀ (M1 : Mem) (H1 : Heap) (locs1 : List Loc), R1 none M1 → WP g M1 H1 → va_S (AW g) H0 H1 locs1 → W p l e R s m args below meth c H1 locs1 cells slots Q (F0 m (pc + 3) ls (.null :: rest)))
    (k1 : ∀ (q : Nat) (M1 : Mem) (H1 : Heap) (locs1 : List Loc), q < 4 → R1 (some q) M1 → WP g M1 H1 → va_S (AW g) H0 H1 locs1 → W p l e R s m args below meth c H1 locs1 cells slots Q (F0 m (pc + 3) ls (.ref (g.2.2.2 (2 + q)) :: rest))) : W p l e R s m args below meth c H locs cells slots Q (F0 m pc ls st0) :=
  r_run hr hS (fun v M1 H1 locs1 hR hP hS1 => by
    rcases hR with ⟨rfl, h⟩ | ⟨q, hq, rfl, h⟩
    · exact k0 M1 H1 locs1 h hP hS1
    · exact k1 q M1 H1 locs1 hq h hP hS1)
theorem k_V {R1 : Option Value → Mem → Prop} {y : MethodName} {b : ByteArray} {mL n ci k index f1 n1 : Nat} {ret : Option FieldType} {Cn : String} {As : List Value}
    (C : CallFix p m c cc nL s args TG own) (hW : WK g s) (hP : WP g M H) (hM : Met l y (wm y b mL ret) (RM f1 n1) (PP g M (.ref (g.2.2.2 k) :: As)) (PQ g R1) 0 0 (AW g)) (hcb : CBV y b mL ret Cn n) (hml : Cond.methodLink own index y ∈ TG) (ho : IsOb g M k ci Cn)
    (hroom : f1 + 1 ≤ R.frames ∧ 8 + (mL + 11) + n1 ≤ R.locals) (hn : As.length = n) (hl : ls.size = nL) (hst : st0 = As.reverse ++ .ref (g.2.2.2 k) :: rest) (hrest : (rest.map fun v => v.category).sum ≤ 8) (hdg : decode cc pc = .ok (.invokevirtual index, 3)) (hf : cells ≤ R.cells ∧ slots ≤ R.slots) :
    va_Run p l e R s m args below meth c H locs cells slots 0 0 (F0 m pc ls st0) rest (PQ g R1 (Value.ref (g.2.2.2 k) :: As).toArray) (AW g) := by
  obtain ⟨hk, ⟨fs, he⟩, q, hc⟩ := ho
  obtain ⟨⟨h1, h2, h3, h4⟩, hd⟩ := hcb
  have hG : GoodIn TG (wsV own index Cn y (wm y b mL ret)) := TG_in (fun w hw => by
    rcases List.mem_append.mp hw with h | h
    · simp only [List.mem_cons, List.not_mem_nil, or_false] at h
      rcases h with rfl | rfl | rfl | rfl
      · exact hml
      · exact h1
      · exact h2
      · exact h3
    · exact wm_in h4 h)
  exact va_runV C hM (cwV n C.2.2.2.2 hG rfl rfl rfl hd hroom) ⟨PP_blind, va_recv hW.1 hP hc (by rw [ws_at g M hk, he]), fun U hU hWm => ⟨rfl, by rw [hU]; exact hP, hW.warm hWm⟩⟩ rfl hn hl hst (lv_room hrest) hdg hf
theorem k_S {R1 : Option Value → Mem → Prop} {y : MethodName} {b : ByteArray} {mL n index f1 n1 : Nat} {ret : Option FieldType} {As : List Value}
    (C : CallFix p m c cc nL s args TG own) (hW : WK g s) (hP : WP g M H) (hM : Met l y (wm y b mL ret) (RM f1 n1) (PP g M As) (PQ g R1) 0 0 (AW g)) (hcb : CBS y b mL ret n) (hml : Cond.methodLink own index y ∈ TG)
    (hroom : f1 + 1 ≤ R.frames ∧ 8 + (mL + 11) + n1 ≤ R.locals) (hn : As.length = n) (hl : ls.size = nL) (hst : st0 = As.reverse ++ rest) (hrest : (rest.map fun v => v.category).sum ≤ 8) (hdg : decode cc pc = .ok (.invokestatic index, 3)) (hf : cells ≤ R.cells ∧ slots ≤ R.slots) :
    va_Run p l e R s m args below meth c H locs cells slots 0 0 (F0 m pc ls st0) rest (PQ g R1 As.toArray) (AW g) := by
  obtain ⟨⟨h1, h3, h4⟩, hd⟩ := hcb
  have hG : GoodIn TG (va_wsS own index y (wm y b mL ret)) := TG_in (fun w hw => by
    rcases List.mem_append.mp hw with h | h
    · simp only [List.mem_cons, List.not_mem_nil, or_false] at h
      rcases h with rfl | rfl | rfl
      · exact hml
      · exact h1
      · exact h3
    · exact wm_in h4 h)
  exact va_runS C hM (va_cwS n C.2.2.2.2 hG rfl rfl rfl hd hroom) ⟨PP_blind, fun U hU hWm => ⟨rfl, by rw [hU]; exact hP, hW.warm hWm⟩⟩ rfl hn hl hst (lv_room hrest) hdg hf
theorem k_N {R1 : Option Value → Mem → Prop} {y : MethodName} {b : ByteArray} {mL n index f1 n1 : Nat} {ret : Option FieldType} {host : String} {As : List Value}
    (C : CallFix p m c cc nL s args TG own) (hW : WK g s) (hP : WP g M H) (hM : Met l y (wm y b mL ret) (RM f1 n1) (PP g M As) (PQ g R1) 0 0 (AW g)) (hcb : CBS y b mL ret n) (hml : va_Nw (.methodLinkNest own index y host) s)
    (hroom : f1 + 1 ≤ R.frames ∧ 8 + (mL + 11) + n1 ≤ R.locals) (hn : As.length = n) (hl : ls.size = nL) (hst : st0 = As.reverse ++ rest) (hrest : (rest.map fun v => v.category).sum ≤ 8) (hdg : decode cc pc = .ok (.invokestatic index, 3)) (hf : cells ≤ R.cells ∧ slots ≤ R.slots) :
    va_Run p l e R s m args below meth c H locs cells slots 0 0 (F0 m pc ls st0) rest (PQ g R1 As.toArray) (AW g) := by
  obtain ⟨⟨h1, h3, h4⟩, hd⟩ := hcb
  exact va_runSN C hM ⟨va_cnB n C.2.2.2.2 (TG_in (fun w hw => wm_in h4 hw)) rfl rfl rfl hml (C.2.2.2.2 _ h3) hd hroom, C.2.2.2.2 _ h1, trivial⟩ ⟨PP_blind, fun U hU hWm => ⟨rfl, by rw [hU]; exact hP, hW.warm hWm⟩⟩ rfl hn hl hst (lv_room hrest) hdg hf
/-! answers -/
theorem r_iret {R1 : Int32 → Mem → Prop} {v : Int32} (C : CallFix p m c cc nL s args TG own) (hr : meth.sig.returnType = some .int) (hlocks : meth.locks = false) (hP : WP g M H) (hS : va_S (AW g) s.heap H locs) (hk : R1 v M) (hdg : decode cc pc = .ok (.ireturn, 1)) :
    W p l e R s m args below meth c H locs cells slots (MQ below (PQ g (RI R1)) args s cells slots (AW g)) (F0 m pc ls [.int v]) :=
  W.iret (hlocks := hlocks) C.1 C.2.1 hr (fun t ht _ => ⟨⟨_, M, rfl, ⟨v, rfl, hk⟩, by rw [ht]; exact hP⟩, hS.F ht⟩) hS.2.2 hdg
theorem r_zret {R1 : Int32 → Mem → Prop} {v : Int32} (hz : narrow .boolean (.int v) = .int v) (C : CallFix p m c cc nL s args TG own) (hr : meth.sig.returnType = some .boolean) (hlocks : meth.locks = false) (hP : WP g M H) (hS : va_S (AW g) s.heap H locs) (hk : R1 v M) (hdg : decode cc pc = .ok (.ireturn, 1)) :
    W p l e R s m args below meth c H locs cells slots (MQ below (PQ g (RZ R1)) args s cells slots (AW g)) (F0 m pc ls [.int v]) :=
  W.zret (hlocks := hlocks) C.1 C.2.1 hr hz (fun t ht _ => ⟨⟨_, M, rfl, ⟨v, rfl, hz, hk⟩, by rw [ht]; exact hP⟩, hS.F ht⟩) hS.2.2 hdg
theorem r_lret {R1 : Int64 → Mem → Prop} {v : Int64} (C : CallFix p m c cc nL s args TG own) (hr : meth.sig.returnType = some .long) (hlocks : meth.locks = false) (hP : WP g M H) (hS : va_S (AW g) s.heap H locs) (hk : R1 v M) (hdg : decode cc pc = .ok (.lreturn, 1)) :
    W p l e R s m args below meth c H locs cells slots (MQ below (PQ g (RL R1)) args s cells slots (AW g)) (F0 m pc ls [.long v]) :=
  W.lret (hlocks := hlocks) C.1 C.2.1 hr (fun t ht _ => ⟨⟨_, M, rfl, ⟨v, rfl, hk⟩, by rw [ht]; exact hP⟩, hS.F ht⟩) hS.2.2 hdg
theorem r_vret {R1 : Mem → Prop} (C : CallFix p m c cc nL s args TG own) (hr : meth.sig.returnType = none) (hlocks : meth.locks = false) (hP : WP g M H) (hS : va_S (AW g) s.heap H locs) (hk : R1 M) (hdg : decode cc pc = .ok (.return_, 1)) :
    W p l e R s m args below meth c H locs cells slots (MQ below (PQ g (RV R1)) args s cells slots (AW g)) (F0 m pc ls []) :=
  W.vret (hlocks := hlocks) C.1 C.2.1 hr (fun t ht _ => ⟨⟨_, M, rfl, ⟨rfl, hk⟩, by rw [ht]; exact hP⟩, hS.F ht⟩) hS.2.2 hdg
end CW
/-- the start of every contract: the machine's facts, the world, the words -/
theorem m_of {l : Launch} {y : MethodName} {b : ByteArray} {mL f1 n1 : Nat} {ret : Option FieldType} {own : String} {g : GG} {M : Mem} {av : List Value} {R1 : Option Value → Mem → Prop} (hy : plainName y.cls = true) (hown : y.cls = own)
    (hlen : (lg_sl av).length ≤ mL)
    (body : ∀ (p : Program) (e : Env) (s : State) (m : MethodId) (below : List Frame) (meth : Method) (c : Code) (ls : Array Slot), CallFix p m c b mL s av.toArray TG own → meth.sig.returnType = ret → meth.locks = false → WK g s → WP g M s.heap → va_S (AW g) s.heap s.heap [] → lv_has ls mL (lv_args 0 av) →
      W p l e (RM f1 n1) s m av.toArray below meth c s.heap [] 0 0 (MQ below (PQ g R1) av.toArray s 0 0 (AW g)) (F0 m 0 ls [])) : Met l y (wm y b mL ret) (RM f1 n1) (PP g M av) (PQ g R1) 0 0 (AW g) := by
  refine Met.ofW (cc := b) (maxL := mL) (ret := ret) hy rfl ?_
  intro p e s m args below meth c s₁ B hml hv
  obtain ⟨rfl, hP, hK⟩ := hv
  have hts := atoms_spec (ws := wm y b mL ret) B.pre
  have ho : s.vm.findClass own = some m.cls := by rw [← hown]; exact findClass_of_methodNamed B.named
  have hl := lv_entry av (n := mL) hlen
  rw [lg_entry_eq]
  generalize (lg_sl av ++ List.replicate (mL - (lg_sl av).length) Slot.unset).toArray = ls at hl ⊢
  exact body p e s m below meth c ls ⟨B.exec, B.bytes, hml, ho, fun w hw => hts w (List.mem_cons_of_mem _ hw)⟩ B.returns B.notSynchronized hK hP va_S.rf hl
end
